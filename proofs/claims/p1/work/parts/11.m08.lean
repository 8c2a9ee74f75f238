/-! FractionRun$State.takeSteps(LFractionRun$Fractions;I)I: frames 4, words 93 -/
abbrev mX5_takeSteps : MR := (⟨"FractionRun$State", "takeSteps", "(LFractionRun$Fractions;I)I"⟩, prog_7_method_16_code, 4, (some .int))
theorem dX5_takeSteps_0 : decode prog_7_method_16_code 0 = .ok (.iconst 0, 1) := by decide +kernel
theorem dX5_takeSteps_1 : decode prog_7_method_16_code 1 = .ok (.istore_n 3, 1) := by decide +kernel
theorem dX5_takeSteps_2 : decode prog_7_method_16_code 2 = .ok (.iload_n 3, 1) := by decide +kernel
theorem dX5_takeSteps_3 : decode prog_7_method_16_code 3 = .ok (.iload_n 2, 1) := by decide +kernel
theorem dX5_takeSteps_4 : decode prog_7_method_16_code 4 = .ok (.if_icmp .ge 19, 3) := by decide +kernel
theorem dX5_takeSteps_7 : decode prog_7_method_16_code 7 = .ok (.aload_n 0, 1) := by decide +kernel
theorem dX5_takeSteps_8 : decode prog_7_method_16_code 8 = .ok (.aload_n 1, 1) := by decide +kernel
theorem dX5_takeSteps_9 : decode prog_7_method_16_code 9 = .ok (.invokevirtual 74, 3) := by decide +kernel
theorem dX5_takeSteps_12 : decode prog_7_method_16_code 12 = .ok (.bipush (-4), 2) := by decide +kernel
theorem dX5_takeSteps_14 : decode prog_7_method_16_code 14 = .ok (.if_icmp .eq 9, 3) := by decide +kernel
theorem dX5_takeSteps_17 : decode prog_7_method_16_code 17 = .ok (.iinc 3 1, 3) := by decide +kernel
theorem dX5_takeSteps_20 : decode prog_7_method_16_code 20 = .ok (.goto (-18), 3) := by decide +kernel
theorem dX5_takeSteps_23 : decode prog_7_method_16_code 23 = .ok (.iload_n 3, 1) := by decide +kernel
theorem dX5_takeSteps_24 : decode prog_7_method_16_code 24 = .ok (.ireturn, 1) := by decide +kernel
theorem okM_X5_takeSteps : okM mX5_takeSteps 2 := ⟨tw429, tw5, by decide, by decide, by decide +kernel⟩
abbrev KTX5_takeSteps : Type := (XW → Nat → Nat → Int32 → Int32 → Option (Int32 × XW))
def bX5_takeSteps_23 (k : KTX5_takeSteps) (w : XW) (l3 : Int32) : Option (Int32 × XW) :=
  some (l3, w)
theorem BX5_takeSteps_23 {K : CX} {l : Launch} {n0 k0 : Nat} {k : KTX5_takeSteps} (hk0 : ∀ (w : XW) (l0 : Nat) (l1 : Nat) (l2 : Int32) (l3 : Int32) (q : Int32 × XW), k w l0 l1 l2 l3 = some q → WP K l mX5_takeSteps 4 93 n0 k0 (some (.int q.1)) q.2 2 [some (.ref l0), some (.ref l1), some (.int l2), some (.int l3)] [] w) {w : XW} {l3 : Int32} {q : Int32 × XW} (h0 : bX5_takeSteps_23 k w l3 = some q) : WP K l mX5_takeSteps 4 93 n0 k0 (some (.int q.1)) q.2 23 [none, none, none, some (.int l3)] [] w := by
  unfold bX5_takeSteps_23 at h0
  refine wp_iload_n dX5_takeSteps_23 rfl ?_
  cases h0
  exact wp_iret rfl dX5_takeSteps_24
def hX5_takeSteps_2 (k : KTX5_takeSteps) (w : XW) (l0 : Nat) (l1 : Nat) (l2 : Int32) (l3 : Int32) : Option (Int32 × XW) :=
  if l2 ≤ l3 then
  bX5_takeSteps_23 k w l3
  else
  (fX5_takeStep w l0 l1).bind fun q2 =>
  if q2.1 = (-4 : Int32) then
  bX5_takeSteps_23 k q2.2 l3
  else
  k q2.2 l0 l1 l2 (l3 + (1 : Int32))
theorem HX5_takeSteps_2 {K : CX} {l : Launch} {n0 k0 : Nat} {k : KTX5_takeSteps} (hk0 : ∀ (w : XW) (l0 : Nat) (l1 : Nat) (l2 : Int32) (l3 : Int32) (q : Int32 × XW), k w l0 l1 l2 l3 = some q → WP K l mX5_takeSteps 4 93 n0 k0 (some (.int q.1)) q.2 2 [some (.ref l0), some (.ref l1), some (.int l2), some (.int l3)] [] w) {w : XW} {l0 : Nat} {l1 : Nat} {l2 : Int32} {l3 : Int32} {q : Int32 × XW} (h0 : hX5_takeSteps_2 k w l0 l1 l2 l3 = some q) : WP K l mX5_takeSteps 4 93 n0 k0 (some (.int q.1)) q.2 2 [some (.ref l0), some (.ref l1), some (.int l2), some (.int l3)] [] w := by
  unfold hX5_takeSteps_2 at h0
  refine wp_iload_n dX5_takeSteps_2 rfl ?_
  refine wp_iload_n dX5_takeSteps_3 rfl ?_
  refine wp_icmp_ge (tgt := 23) dX5_takeSteps_4 (by decide) (fun c1 => ?_) (fun c1 => ?_)
  · rw [if_pos c1] at h0
    exact WP.wk (BX5_takeSteps_23 hk0 h0) (And.intro rfl trivial)
  · rw [if_neg c1] at h0
    refine wp_aload_n dX5_takeSteps_7 rfl ?_
    refine wp_aload_n dX5_takeSteps_8 rfl ?_
    obtain ⟨q2, e4, h3⟩ := Option.bind_eq_some_iff.mp h0
    clear h0
    refine wp_Vi (As := [.ref l1]) (S := []) okM_X5_takeStep tw431 tw432 tw430 (OX5_takeStep e4) rfl rfl rfl ⟨(Nat.le_of_ble_eq_true rfl), (Nat.le_of_ble_eq_true rfl)⟩ (Nat.le_of_ble_eq_true rfl) rfl dX5_takeSteps_9 (MX5_takeStep e4) ?_
    refine wp_bipush (v := (-4 : Int32)) dX5_takeSteps_12 (by decide) ?_
    refine wp_icmp_eq (tgt := 23) dX5_takeSteps_14 (by decide) (fun c5 => ?_) (fun c5 => ?_)
    · rw [if_pos c5] at h3
      exact WP.wk (BX5_takeSteps_23 hk0 h3) (And.intro rfl trivial)
    · rw [if_neg c5] at h3
      refine wp_iinc (v := (l3 + (1 : Int32))) (L1 := [some (.ref l0), some (.ref l1), some (.int l2), some (.int (l3 + (1 : Int32)))]) dX5_takeSteps_17 (Nat.le_of_ble_eq_true rfl) rfl (congrArg (fun z => l3 + z) (by decide)) rfl ?_
      refine wp_goto (tgt := 2) dX5_takeSteps_20 (by decide) ?_
      exact WP.wk (hk0 _ _ _ _ _ _ h3) (And.intro rfl (And.intro rfl (And.intro rfl (And.intro rfl trivial))))
def eX5_takeSteps (k : KTX5_takeSteps) (w : XW) (l0 : Nat) (l1 : Nat) (l2 : Int32) : Option (Int32 × XW) :=
  k w l0 l1 l2 (0 : Int32)
theorem EX5_takeSteps {K : CX} {l : Launch} {n0 k0 : Nat} {k : KTX5_takeSteps} (hk0 : ∀ (w : XW) (l0 : Nat) (l1 : Nat) (l2 : Int32) (l3 : Int32) (q : Int32 × XW), k w l0 l1 l2 l3 = some q → WP K l mX5_takeSteps 4 93 n0 k0 (some (.int q.1)) q.2 2 [some (.ref l0), some (.ref l1), some (.int l2), some (.int l3)] [] w) {w : XW} {l0 : Nat} {l1 : Nat} {l2 : Int32} {q : Int32 × XW} (h0 : eX5_takeSteps k w l0 l1 l2 = some q) : WP K l mX5_takeSteps 4 93 n0 k0 (some (.int q.1)) q.2 0 [some (.ref l0), some (.ref l1), some (.int l2), none] [] w := by
  unfold eX5_takeSteps at h0
  refine wp_iconst (v := (0 : Int32)) dX5_takeSteps_0 (by decide) ?_
  refine wp_istore_n (L1 := [some (.ref l0), some (.ref l1), some (.int l2), some (.int (0 : Int32))]) dX5_takeSteps_1 (Nat.le_of_ble_eq_true rfl) rfl ?_
  exact WP.wk (hk0 _ _ _ _ _ _ h0) (And.intro rfl (And.intro rfl (And.intro rfl (And.intro rfl trivial))))
def loX5_takeSteps : Nat → KTX5_takeSteps
  | 0 => fun _ _ _ _ _ => none
  | n + 1 => hX5_takeSteps_2 (loX5_takeSteps n)
theorem LOX5_takeSteps {K : CX} {l : Launch} {n0 k0 : Nat} : ∀ n : Nat, (∀ (w : XW) (l0 : Nat) (l1 : Nat) (l2 : Int32) (l3 : Int32) (q : Int32 × XW), (loX5_takeSteps n) w l0 l1 l2 l3 = some q → WP K l mX5_takeSteps 4 93 n0 k0 (some (.int q.1)) q.2 2 [some (.ref l0), some (.ref l1), some (.int l2), some (.int l3)] [] w) := by
  intro n
  induction n with
  | zero => exact fun _ _ _ _ _ q h => (by cases h)
  | succ n ih => exact fun _ _ _ _ _ q h => HX5_takeSteps_2 ih h
def fX5_takeSteps (w : XW) (l0 : Nat) (l1 : Nat) (l2 : Int32) : Option (Int32 × XW) := if isO w l0 5 = true then eX5_takeSteps (loX5_takeSteps FU) w l0 l1 l2 else none
theorem OX5_takeSteps {w : XW} {l0 : Nat} {l1 : Nat} {l2 : Int32} {q : Int32 × XW} (h : fX5_takeSteps w l0 l1 l2 = some q) : isO w l0 5 = true := Decidable.byContradiction fun z => by unfold fX5_takeSteps at h; rw [if_neg z] at h; cases h
theorem MX5_takeSteps {K : CX} {l : Launch} {w : XW} {l0 : Nat} {l1 : Nat} {l2 : Int32} {q : Int32 × XW} (h : fX5_takeSteps w l0 l1 l2 = some q) : MT K l mX5_takeSteps 4 93 [.ref l0, .ref l1, .int l2] w (some (.int q.1)) q.2 := by
  have z := OX5_takeSteps h
  unfold fX5_takeSteps at h
  rw [if_pos z] at h
  exact MT.of (by decide) (Nat.le_of_ble_eq_true rfl) rfl (EX5_takeSteps (LOX5_takeSteps FU) h)
/-! FractionRun.steps(I)I: frames 5, words 116 -/
abbrev mX7_steps : MR := (⟨"FractionRun", "steps", "(I)I"⟩, prog_1_method_8_code, 2, (some .int))
theorem dX7_steps_0 : decode prog_1_method_8_code 0 = .ok (.iload_n 1, 1) := by decide +kernel
theorem dX7_steps_1 : decode prog_1_method_8_code 1 = .ok (.iconst 1, 1) := by decide +kernel
theorem dX7_steps_2 : decode prog_1_method_8_code 2 = .ok (.if_icmp .lt 9, 3) := by decide +kernel
theorem dX7_steps_5 : decode prog_1_method_8_code 5 = .ok (.iload_n 1, 1) := by decide +kernel
theorem dX7_steps_6 : decode prog_1_method_8_code 6 = .ok (.bipush 50, 2) := by decide +kernel
theorem dX7_steps_8 : decode prog_1_method_8_code 8 = .ok (.if_icmp .le 5, 3) := by decide +kernel
theorem dX7_steps_11 : decode prog_1_method_8_code 11 = .ok (.iconst (-1), 1) := by decide +kernel
theorem dX7_steps_12 : decode prog_1_method_8_code 12 = .ok (.ireturn, 1) := by decide +kernel
theorem dX7_steps_13 : decode prog_1_method_8_code 13 = .ok (.aload_n 0, 1) := by decide +kernel
theorem dX7_steps_14 : decode prog_1_method_8_code 14 = .ok (.getfield 36, 3) := by decide +kernel
theorem dX7_steps_17 : decode prog_1_method_8_code 17 = .ok (.getfield 150, 3) := by decide +kernel
theorem dX7_steps_20 : decode prog_1_method_8_code 20 = .ok (.sipush 999, 3) := by decide +kernel
theorem dX7_steps_23 : decode prog_1_method_8_code 23 = .ok (.if_icmp .ge 17, 3) := by decide +kernel
theorem dX7_steps_26 : decode prog_1_method_8_code 26 = .ok (.aload_n 0, 1) := by decide +kernel
theorem dX7_steps_27 : decode prog_1_method_8_code 27 = .ok (.getfield 36, 3) := by decide +kernel
theorem dX7_steps_30 : decode prog_1_method_8_code 30 = .ok (.aload_n 0, 1) := by decide +kernel
theorem dX7_steps_31 : decode prog_1_method_8_code 31 = .ok (.getfield 26, 3) := by decide +kernel
theorem dX7_steps_34 : decode prog_1_method_8_code 34 = .ok (.invokevirtual 153, 3) := by decide +kernel
theorem dX7_steps_37 : decode prog_1_method_8_code 37 = .ok (.ifCond .eq 6, 3) := by decide +kernel
theorem dX7_steps_40 : decode prog_1_method_8_code 40 = .ok (.bipush (-2), 2) := by decide +kernel
theorem dX7_steps_42 : decode prog_1_method_8_code 42 = .ok (.ireturn, 1) := by decide +kernel
theorem dX7_steps_43 : decode prog_1_method_8_code 43 = .ok (.aload_n 0, 1) := by decide +kernel
theorem dX7_steps_44 : decode prog_1_method_8_code 44 = .ok (.getfield 49, 3) := by decide +kernel
theorem dX7_steps_47 : decode prog_1_method_8_code 47 = .ok (.aload_n 0, 1) := by decide +kernel
theorem dX7_steps_48 : decode prog_1_method_8_code 48 = .ok (.getfield 36, 3) := by decide +kernel
theorem dX7_steps_51 : decode prog_1_method_8_code 51 = .ok (.invokevirtual 157, 3) := by decide +kernel
theorem dX7_steps_54 : decode prog_1_method_8_code 54 = .ok (.aload_n 0, 1) := by decide +kernel
theorem dX7_steps_55 : decode prog_1_method_8_code 55 = .ok (.getfield 36, 3) := by decide +kernel
theorem dX7_steps_58 : decode prog_1_method_8_code 58 = .ok (.aload_n 0, 1) := by decide +kernel
theorem dX7_steps_59 : decode prog_1_method_8_code 59 = .ok (.getfield 26, 3) := by decide +kernel
theorem dX7_steps_62 : decode prog_1_method_8_code 62 = .ok (.iload_n 1, 1) := by decide +kernel
theorem dX7_steps_63 : decode prog_1_method_8_code 63 = .ok (.sipush 999, 3) := by decide +kernel
theorem dX7_steps_66 : decode prog_1_method_8_code 66 = .ok (.aload_n 0, 1) := by decide +kernel
theorem dX7_steps_67 : decode prog_1_method_8_code 67 = .ok (.getfield 36, 3) := by decide +kernel
theorem dX7_steps_70 : decode prog_1_method_8_code 70 = .ok (.getfield 150, 3) := by decide +kernel
theorem dX7_steps_73 : decode prog_1_method_8_code 73 = .ok (.isub, 1) := by decide +kernel
theorem dX7_steps_74 : decode prog_1_method_8_code 74 = .ok (.invokestatic 161, 3) := by decide +kernel
theorem dX7_steps_77 : decode prog_1_method_8_code 77 = .ok (.invokevirtual 167, 3) := by decide +kernel
theorem dX7_steps_80 : decode prog_1_method_8_code 80 = .ok (.ireturn, 1) := by decide +kernel
theorem okM_X7_steps : okM mX7_steps 1 := ⟨tw404, tw1, by decide, by decide, by decide +kernel⟩
def bX7_steps_40 (w : XW) : Option (Int32 × XW) :=
  some ((-2 : Int32), w)
theorem BX7_steps_40 {K : CX} {l : Launch} {n0 k0 : Nat} {w : XW} {q : Int32 × XW} (h0 : bX7_steps_40 w = some q) : WP K l mX7_steps 5 116 n0 k0 (some (.int q.1)) q.2 40 [none, none] [] w := by
  unfold bX7_steps_40 at h0
  refine wp_bipush (v := (-2 : Int32)) dX7_steps_40 (by decide) ?_
  cases h0
  exact wp_iret rfl dX7_steps_42
def bX7_steps_11 (w : XW) : Option (Int32 × XW) :=
  some ((-1 : Int32), w)
theorem BX7_steps_11 {K : CX} {l : Launch} {n0 k0 : Nat} {w : XW} {q : Int32 × XW} (h0 : bX7_steps_11 w = some q) : WP K l mX7_steps 5 116 n0 k0 (some (.int q.1)) q.2 11 [none, none] [] w := by
  unfold bX7_steps_11 at h0
  refine wp_iconst (v := (-1 : Int32)) dX7_steps_11 (by decide) ?_
  cases h0
  exact wp_iret rfl dX7_steps_12
def eX7_steps (w : XW) (l0 : Nat) (l1 : Int32) : Option (Int32 × XW) :=
  if l1 < (1 : Int32) then
  bX7_steps_11 w
  else
  if l1 ≤ (50 : Int32) then
  (gR w l0 7 4).bind fun x3 =>
  (gI w x3 5 4).bind fun x6 =>
  if (999 : Int32) ≤ x6 then
  bX7_steps_40 w
  else
  (gR w l0 7 4).bind fun x10 =>
  (gR w l0 7 2).bind fun x13 =>
  (fX5_isAtRest w x10 x13).bind fun q16 =>
  if q16.1 = 0 then
  (gR q16.2 l0 7 7).bind fun x20 =>
  (gR q16.2 l0 7 4).bind fun x23 =>
  (fX3_push q16.2 x20 x23).bind fun q26 =>
  (gR q26 l0 7 4).bind fun x29 =>
  (gR q26 l0 7 2).bind fun x32 =>
  (gR q26 l0 7 4).bind fun x35 =>
  (gI q26 x35 5 4).bind fun x38 =>
  (fX5_takeSteps q26 x29 x32 (imn l1 ((999 : Int32) - x38))).bind fun q41 =>
  some (q41.1, q41.2)
  else
  bX7_steps_40 q16.2
  else
  bX7_steps_11 w
theorem EX7_steps {K : CX} {l : Launch} {n0 k0 : Nat} {w : XW} {l0 : Nat} {l1 : Int32} {q : Int32 × XW} (h0 : eX7_steps w l0 l1 = some q) : WP K l mX7_steps 5 116 n0 k0 (some (.int q.1)) q.2 0 [some (.ref l0), some (.int l1)] [] w := by
  unfold eX7_steps at h0
  refine wp_iload_n dX7_steps_0 rfl ?_
  refine wp_iconst (v := (1 : Int32)) dX7_steps_1 (by decide) ?_
  refine wp_icmp_lt (tgt := 11) dX7_steps_2 (by decide) (fun c1 => ?_) (fun c1 => ?_)
  · rw [if_pos c1] at h0
    exact WP.wk (BX7_steps_11 h0) trivial
  · rw [if_neg c1] at h0
    refine wp_iload_n dX7_steps_5 rfl ?_
    refine wp_bipush (v := (50 : Int32)) dX7_steps_6 (by decide) ?_
    refine wp_icmp_le (tgt := 13) dX7_steps_8 (by decide) (fun c2 => ?_) (fun c2 => ?_)
    · rw [if_pos c2] at h0
      refine wp_aload_n dX7_steps_13 rfl ?_
      obtain ⟨x3, e5, h4⟩ := Option.bind_eq_some_iff.mp h0
      clear h0
      refine wp_getR okX7 (k := 4) (by decide) tw302 dX7_steps_14 e5 ?_
      obtain ⟨x6, e8, h7⟩ := Option.bind_eq_some_iff.mp h4
      clear h4
      refine wp_getI okX5 (k := 4) (by decide) tw104 dX7_steps_17 e8 ?_
      refine wp_sipush (v := (999 : Int32)) dX7_steps_20 (by decide) ?_
      refine wp_icmp_ge (tgt := 40) dX7_steps_23 (by decide) (fun c9 => ?_) (fun c9 => ?_)
      · rw [if_pos c9] at h7
        exact WP.wk (BX7_steps_40 h7) trivial
      · rw [if_neg c9] at h7
        refine wp_aload_n dX7_steps_26 rfl ?_
        obtain ⟨x10, e12, h11⟩ := Option.bind_eq_some_iff.mp h7
        clear h7
        refine wp_getR okX7 (k := 4) (by decide) tw302 dX7_steps_27 e12 ?_
        refine wp_aload_n dX7_steps_30 rfl ?_
        obtain ⟨x13, e15, h14⟩ := Option.bind_eq_some_iff.mp h11
        clear h11
        refine wp_getR okX7 (k := 2) (by decide) tw300 dX7_steps_31 e15 ?_
        obtain ⟨q16, e18, h17⟩ := Option.bind_eq_some_iff.mp h14
        clear h14
        refine wp_Vi (As := [.ref x13]) (S := []) okM_X5_isAtRest tw406 tw407 tw405 (OX5_isAtRest e18) rfl rfl rfl ⟨(Nat.le_of_ble_eq_true rfl), (Nat.le_of_ble_eq_true rfl)⟩ (Nat.le_of_ble_eq_true rfl) rfl dX7_steps_34 (MX5_isAtRest e18) ?_
        refine wp_if_eq (tgt := 43) dX7_steps_37 (by decide) (fun c19 => ?_) (fun c19 => ?_)
        · rw [if_pos c19] at h17
          refine wp_aload_n dX7_steps_43 rfl ?_
          obtain ⟨x20, e22, h21⟩ := Option.bind_eq_some_iff.mp h17
          clear h17
          refine wp_getR okX7 (k := 7) (by decide) tw305 dX7_steps_44 e22 ?_
          refine wp_aload_n dX7_steps_47 rfl ?_
          obtain ⟨x23, e25, h24⟩ := Option.bind_eq_some_iff.mp h21
          clear h21
          refine wp_getR okX7 (k := 4) (by decide) tw302 dX7_steps_48 e25 ?_
          obtain ⟨q26, e28, h27⟩ := Option.bind_eq_some_iff.mp h24
          clear h24
          refine wp_Vv (As := [.ref x23]) (S := []) okM_X3_push tw415 tw416 tw414 (OX3_push e28) rfl rfl rfl ⟨(Nat.le_of_ble_eq_true rfl), (Nat.le_of_ble_eq_true rfl)⟩ (Nat.le_of_ble_eq_true rfl) rfl dX7_steps_51 (MX3_push e28) ?_
          refine wp_aload_n dX7_steps_54 rfl ?_
          obtain ⟨x29, e31, h30⟩ := Option.bind_eq_some_iff.mp h27
          clear h27
          refine wp_getR okX7 (k := 4) (by decide) tw302 dX7_steps_55 e31 ?_
          refine wp_aload_n dX7_steps_58 rfl ?_
          obtain ⟨x32, e34, h33⟩ := Option.bind_eq_some_iff.mp h30
          clear h30
          refine wp_getR okX7 (k := 2) (by decide) tw300 dX7_steps_59 e34 ?_
          refine wp_iload_n dX7_steps_62 rfl ?_
          refine wp_sipush (v := (999 : Int32)) dX7_steps_63 (by decide) ?_
          refine wp_aload_n dX7_steps_66 rfl ?_
          obtain ⟨x35, e37, h36⟩ := Option.bind_eq_some_iff.mp h33
          clear h33
          refine wp_getR okX7 (k := 4) (by decide) tw302 dX7_steps_67 e37 ?_
          obtain ⟨x38, e40, h39⟩ := Option.bind_eq_some_iff.mp h36
          clear h36
          refine wp_getI okX5 (k := 4) (by decide) tw104 dX7_steps_70 e40 ?_
          refine wp_isub dX7_steps_73 ?_
          refine wp_imn tw425 tw423 tw13 twMath_min ⟨(Nat.le_of_ble_eq_true rfl), (Nat.le_of_ble_eq_true rfl)⟩ rfl dX7_steps_74 ?_
          obtain ⟨q41, e43, h42⟩ := Option.bind_eq_some_iff.mp h39
          clear h39
          refine wp_Vi (As := [.ref x32, .int (imn l1 ((999 : Int32) - x38))]) (S := []) okM_X5_takeSteps tw427 tw428 tw426 (OX5_takeSteps e43) rfl rfl rfl ⟨(Nat.le_of_ble_eq_true rfl), (Nat.le_of_ble_eq_true rfl)⟩ (Nat.le_of_ble_eq_true rfl) rfl dX7_steps_77 (MX5_takeSteps e43) ?_
          cases h42
          exact wp_iret rfl dX7_steps_80
        · rw [if_neg c19] at h17
          exact WP.wk (BX7_steps_40 h17) trivial
    · rw [if_neg c2] at h0
      exact WP.wk (BX7_steps_11 h0) trivial
def fX7_steps (w : XW) (l0 : Nat) (l1 : Int32) : Option (Int32 × XW) := if isO w l0 7 = true then eX7_steps w l0 l1 else none
theorem OX7_steps {w : XW} {l0 : Nat} {l1 : Int32} {q : Int32 × XW} (h : fX7_steps w l0 l1 = some q) : isO w l0 7 = true := Decidable.byContradiction fun z => by unfold fX7_steps at h; rw [if_neg z] at h; cases h
theorem MX7_steps {K : CX} {l : Launch} {w : XW} {l0 : Nat} {l1 : Int32} {q : Int32 × XW} (h : fX7_steps w l0 l1 = some q) : MT K l mX7_steps 5 116 [.ref l0, .int l1] w (some (.int q.1)) q.2 := by
  have z := OX7_steps h
  unfold fX7_steps at h
  rw [if_pos z] at h
  exact MT.of (by decide) (Nat.le_of_ble_eq_true rfl) rfl (EX7_steps h)
/-! FractionRunModel.who(II)I: frames 4, words 93 -/
abbrev mX8_who : MR := (⟨"FractionRunModel", "who", "(II)I"⟩, prog_10_method_22_code, 6, (some .int))
theorem dX8_who_0 : decode prog_10_method_22_code 0 = .ok (.iconst 0, 1) := by decide +kernel
theorem dX8_who_1 : decode prog_10_method_22_code 1 = .ok (.istore_n 3, 1) := by decide +kernel
theorem dX8_who_2 : decode prog_10_method_22_code 2 = .ok (.iload_n 3, 1) := by decide +kernel
theorem dX8_who_3 : decode prog_10_method_22_code 3 = .ok (.iconst 2, 1) := by decide +kernel
theorem dX8_who_4 : decode prog_10_method_22_code 4 = .ok (.aload_n 0, 1) := by decide +kernel
theorem dX8_who_5 : decode prog_10_method_22_code 5 = .ok (.getfield 25, 3) := by decide +kernel
theorem dX8_who_8 : decode prog_10_method_22_code 8 = .ok (.iload_n 1, 1) := by decide +kernel
theorem dX8_who_9 : decode prog_10_method_22_code 9 = .ok (.bipush 14, 2) := by decide +kernel
theorem dX8_who_11 : decode prog_10_method_22_code 11 = .ok (.iadd, 1) := by decide +kernel
theorem dX8_who_12 : decode prog_10_method_22_code 12 = .ok (.iaload, 1) := by decide +kernel
theorem dX8_who_13 : decode prog_10_method_22_code 13 = .ok (.imul, 1) := by decide +kernel
theorem dX8_who_14 : decode prog_10_method_22_code 14 = .ok (.if_icmp .ge 103, 3) := by decide +kernel
theorem dX8_who_17 : decode prog_10_method_22_code 17 = .ok (.aload_n 0, 1) := by decide +kernel
theorem dX8_who_18 : decode prog_10_method_22_code 18 = .ok (.getfield 25, 3) := by decide +kernel
theorem dX8_who_21 : decode prog_10_method_22_code 21 = .ok (.iload_n 1, 1) := by decide +kernel
theorem dX8_who_22 : decode prog_10_method_22_code 22 = .ok (.bipush 6, 2) := by decide +kernel
theorem dX8_who_24 : decode prog_10_method_22_code 24 = .ok (.iadd, 1) := by decide +kernel
theorem dX8_who_25 : decode prog_10_method_22_code 25 = .ok (.iload_n 3, 1) := by decide +kernel
theorem dX8_who_26 : decode prog_10_method_22_code 26 = .ok (.aload_n 0, 1) := by decide +kernel
theorem dX8_who_27 : decode prog_10_method_22_code 27 = .ok (.getfield 25, 3) := by decide +kernel
theorem dX8_who_30 : decode prog_10_method_22_code 30 = .ok (.iload_n 1, 1) := by decide +kernel
theorem dX8_who_31 : decode prog_10_method_22_code 31 = .ok (.bipush 14, 2) := by decide +kernel
theorem dX8_who_33 : decode prog_10_method_22_code 33 = .ok (.iadd, 1) := by decide +kernel
theorem dX8_who_34 : decode prog_10_method_22_code 34 = .ok (.iaload, 1) := by decide +kernel
theorem dX8_who_35 : decode prog_10_method_22_code 35 = .ok (.irem, 1) := by decide +kernel
theorem dX8_who_36 : decode prog_10_method_22_code 36 = .ok (.iadd, 1) := by decide +kernel
theorem dX8_who_37 : decode prog_10_method_22_code 37 = .ok (.iaload, 1) := by decide +kernel
theorem dX8_who_38 : decode prog_10_method_22_code 38 = .ok (.istore 4, 2) := by decide +kernel
theorem dX8_who_40 : decode prog_10_method_22_code 40 = .ok (.aload_n 0, 1) := by decide +kernel
theorem dX8_who_41 : decode prog_10_method_22_code 41 = .ok (.getfield 7, 3) := by decide +kernel
theorem dX8_who_44 : decode prog_10_method_22_code 44 = .ok (.iload 4, 2) := by decide +kernel
theorem dX8_who_46 : decode prog_10_method_22_code 46 = .ok (.iaload, 1) := by decide +kernel
theorem dX8_who_47 : decode prog_10_method_22_code 47 = .ok (.iconst 4, 1) := by decide +kernel
theorem dX8_who_48 : decode prog_10_method_22_code 48 = .ok (.if_icmp .ne 7, 3) := by decide +kernel
theorem dX8_who_51 : decode prog_10_method_22_code 51 = .ok (.iconst 1, 1) := by decide +kernel
theorem dX8_who_52 : decode prog_10_method_22_code 52 = .ok (.goto 4, 3) := by decide +kernel
theorem dX8_who_55 : decode prog_10_method_22_code 55 = .ok (.iconst 0, 1) := by decide +kernel
theorem dX8_who_56 : decode prog_10_method_22_code 56 = .ok (.iload_n 3, 1) := by decide +kernel
theorem dX8_who_57 : decode prog_10_method_22_code 57 = .ok (.aload_n 0, 1) := by decide +kernel
theorem dX8_who_58 : decode prog_10_method_22_code 58 = .ok (.getfield 25, 3) := by decide +kernel
theorem dX8_who_61 : decode prog_10_method_22_code 61 = .ok (.iload_n 1, 1) := by decide +kernel
theorem dX8_who_62 : decode prog_10_method_22_code 62 = .ok (.bipush 14, 2) := by decide +kernel
theorem dX8_who_64 : decode prog_10_method_22_code 64 = .ok (.iadd, 1) := by decide +kernel
theorem dX8_who_65 : decode prog_10_method_22_code 65 = .ok (.iaload, 1) := by decide +kernel
theorem dX8_who_66 : decode prog_10_method_22_code 66 = .ok (.if_icmp .lt 7, 3) := by decide +kernel
theorem dX8_who_69 : decode prog_10_method_22_code 69 = .ok (.iconst 1, 1) := by decide +kernel
theorem dX8_who_70 : decode prog_10_method_22_code 70 = .ok (.goto 4, 3) := by decide +kernel
theorem dX8_who_73 : decode prog_10_method_22_code 73 = .ok (.iconst 0, 1) := by decide +kernel
theorem dX8_who_74 : decode prog_10_method_22_code 74 = .ok (.if_icmp .ne 7, 3) := by decide +kernel
theorem dX8_who_77 : decode prog_10_method_22_code 77 = .ok (.iconst 1, 1) := by decide +kernel
theorem dX8_who_78 : decode prog_10_method_22_code 78 = .ok (.goto 4, 3) := by decide +kernel
theorem dX8_who_81 : decode prog_10_method_22_code 81 = .ok (.iconst 0, 1) := by decide +kernel
theorem dX8_who_82 : decode prog_10_method_22_code 82 = .ok (.istore 5, 2) := by decide +kernel
theorem dX8_who_84 : decode prog_10_method_22_code 84 = .ok (.iload 5, 2) := by decide +kernel
theorem dX8_who_86 : decode prog_10_method_22_code 86 = .ok (.ifCond .eq 25, 3) := by decide +kernel
theorem dX8_who_89 : decode prog_10_method_22_code 89 = .ok (.iload_n 2, 1) := by decide +kernel
theorem dX8_who_90 : decode prog_10_method_22_code 90 = .ok (.iload 4, 2) := by decide +kernel
theorem dX8_who_92 : decode prog_10_method_22_code 92 = .ok (.invokestatic 135, 3) := by decide +kernel
theorem dX8_who_95 : decode prog_10_method_22_code 95 = .ok (.ifCond .ne 16, 3) := by decide +kernel
theorem dX8_who_98 : decode prog_10_method_22_code 98 = .ok (.aload_n 0, 1) := by decide +kernel
theorem dX8_who_99 : decode prog_10_method_22_code 99 = .ok (.iload_n 1, 1) := by decide +kernel
theorem dX8_who_100 : decode prog_10_method_22_code 100 = .ok (.iload 4, 2) := by decide +kernel
theorem dX8_who_102 : decode prog_10_method_22_code 102 = .ok (.invokevirtual 142, 3) := by decide +kernel
theorem dX8_who_105 : decode prog_10_method_22_code 105 = .ok (.ifCond .eq 6, 3) := by decide +kernel
theorem dX8_who_108 : decode prog_10_method_22_code 108 = .ok (.iload 4, 2) := by decide +kernel
theorem dX8_who_110 : decode prog_10_method_22_code 110 = .ok (.ireturn, 1) := by decide +kernel
theorem dX8_who_111 : decode prog_10_method_22_code 111 = .ok (.iinc 3 1, 3) := by decide +kernel
theorem dX8_who_114 : decode prog_10_method_22_code 114 = .ok (.goto (-112), 3) := by decide +kernel
theorem dX8_who_117 : decode prog_10_method_22_code 117 = .ok (.bipush (-4), 2) := by decide +kernel
theorem dX8_who_119 : decode prog_10_method_22_code 119 = .ok (.ireturn, 1) := by decide +kernel
theorem okM_X8_who : okM mX8_who 2 := ⟨tw870, tw15, by decide, by decide, by decide +kernel⟩
abbrev KTX8_who : Type := (XW → Nat → Int32 → Int32 → Int32 → Option (Int32 × XW))
def bX8_who_111 (k : KTX8_who) (w : XW) (l0 : Nat) (l1 : Int32) (l2 : Int32) (l3 : Int32) : Option (Int32 × XW) :=
  k w l0 l1 l2 (l3 + (1 : Int32))
theorem BX8_who_111 {K : CX} {l : Launch} {n0 k0 : Nat} {k : KTX8_who} (hk0 : ∀ (w : XW) (l0 : Nat) (l1 : Int32) (l2 : Int32) (l3 : Int32) (q : Int32 × XW), k w l0 l1 l2 l3 = some q → WP K l mX8_who 4 93 n0 k0 (some (.int q.1)) q.2 2 [some (.ref l0), some (.int l1), some (.int l2), some (.int l3), none, none] [] w) {w : XW} {l0 : Nat} {l1 : Int32} {l2 : Int32} {l3 : Int32} {q : Int32 × XW} (h0 : bX8_who_111 k w l0 l1 l2 l3 = some q) : WP K l mX8_who 4 93 n0 k0 (some (.int q.1)) q.2 111 [some (.ref l0), some (.int l1), some (.int l2), some (.int l3), none, none] [] w := by
  unfold bX8_who_111 at h0
  refine wp_iinc (v := (l3 + (1 : Int32))) (L1 := [some (.ref l0), some (.int l1), some (.int l2), some (.int (l3 + (1 : Int32))), none, none]) dX8_who_111 (Nat.le_of_ble_eq_true rfl) rfl (congrArg (fun z => l3 + z) (by decide)) rfl ?_
  refine wp_goto (tgt := 2) dX8_who_114 (by decide) ?_
  exact WP.wk (hk0 _ _ _ _ _ _ h0) (And.intro rfl (And.intro rfl (And.intro rfl (And.intro rfl trivial))))
def bX8_who_82 (k : KTX8_who) (w : XW) (l0 : Nat) (l1 : Int32) (l2 : Int32) (l3 : Int32) (l4 : Int32) (s0 : Int32) : Option (Int32 × XW) :=
  if s0 = 0 then
  bX8_who_111 k w l0 l1 l2 l3
  else
  (fX8_has w l2 l4).bind fun q2 =>
  if q2.1 = 0 then
  (fX8_can q2.2 l0 l1 l4).bind fun q6 =>
  if q6.1 = 0 then
  bX8_who_111 k q6.2 l0 l1 l2 l3
  else
  some (l4, q6.2)
  else
  bX8_who_111 k q2.2 l0 l1 l2 l3
theorem BX8_who_82 {K : CX} {l : Launch} {n0 k0 : Nat} {k : KTX8_who} (hk0 : ∀ (w : XW) (l0 : Nat) (l1 : Int32) (l2 : Int32) (l3 : Int32) (q : Int32 × XW), k w l0 l1 l2 l3 = some q → WP K l mX8_who 4 93 n0 k0 (some (.int q.1)) q.2 2 [some (.ref l0), some (.int l1), some (.int l2), some (.int l3), none, none] [] w) {w : XW} {l0 : Nat} {l1 : Int32} {l2 : Int32} {l3 : Int32} {l4 : Int32} {s0 : Int32} {q : Int32 × XW} (h0 : bX8_who_82 k w l0 l1 l2 l3 l4 s0 = some q) : WP K l mX8_who 4 93 n0 k0 (some (.int q.1)) q.2 82 [some (.ref l0), some (.int l1), some (.int l2), some (.int l3), some (.int l4), none] [.int s0] w := by
  unfold bX8_who_82 at h0
  refine wp_istore (L1 := [some (.ref l0), some (.int l1), some (.int l2), some (.int l3), some (.int l4), some (.int s0)]) dX8_who_82 (Nat.le_of_ble_eq_true rfl) rfl ?_
  refine wp_iload dX8_who_84 rfl ?_
  refine wp_if_eq (tgt := 111) dX8_who_86 (by decide) (fun c1 => ?_) (fun c1 => ?_)
  · rw [if_pos c1] at h0
    exact WP.wk (BX8_who_111 hk0 h0) (And.intro rfl (And.intro rfl (And.intro rfl (And.intro rfl trivial))))
  · rw [if_neg c1] at h0
    refine wp_iload_n dX8_who_89 rfl ?_
    refine wp_iload dX8_who_90 rfl ?_
    obtain ⟨q2, e4, h3⟩ := Option.bind_eq_some_iff.mp h0
    clear h0
    refine wp_Si (As := [.int l2, .int l4]) (S := []) okM_X8_has tw851 tw850 rfl ⟨(Nat.le_of_ble_eq_true rfl), (Nat.le_of_ble_eq_true rfl)⟩ (Nat.le_of_ble_eq_true rfl) rfl dX8_who_92 (MX8_has e4) ?_
    refine wp_if_ne (tgt := 111) dX8_who_95 (by decide) (fun c5 => ?_) (fun c5 => ?_)
    · rw [if_neg c5] at h3
      exact WP.wk (BX8_who_111 hk0 h3) (And.intro rfl (And.intro rfl (And.intro rfl (And.intro rfl trivial))))
    · rw [if_pos c5] at h3
      refine wp_aload_n dX8_who_98 rfl ?_
      refine wp_iload_n dX8_who_99 rfl ?_
      refine wp_iload dX8_who_100 rfl ?_
      obtain ⟨q6, e8, h7⟩ := Option.bind_eq_some_iff.mp h3
      clear h3
      refine wp_Vi (As := [.int l1, .int l4]) (S := []) okM_X8_can tw848 twP_X8_can tw846 (OX8_can e8) rfl rfl rfl ⟨(Nat.le_of_ble_eq_true rfl), (Nat.le_of_ble_eq_true rfl)⟩ (Nat.le_of_ble_eq_true rfl) rfl dX8_who_102 (MX8_can e8) ?_
      refine wp_if_eq (tgt := 111) dX8_who_105 (by decide) (fun c9 => ?_) (fun c9 => ?_)
      · rw [if_pos c9] at h7
        exact WP.wk (BX8_who_111 hk0 h7) (And.intro rfl (And.intro rfl (And.intro rfl (And.intro rfl trivial))))
      · rw [if_neg c9] at h7
        refine wp_iload dX8_who_108 rfl ?_
        cases h7
        exact wp_iret rfl dX8_who_110
def bX8_who_74 (k : KTX8_who) (w : XW) (l0 : Nat) (l1 : Int32) (l2 : Int32) (l3 : Int32) (l4 : Int32) (s0 : Int32) (s1 : Int32) : Option (Int32 × XW) :=
  if s0 = s1 then
  bX8_who_82 k w l0 l1 l2 l3 l4 (1 : Int32)
  else
  bX8_who_82 k w l0 l1 l2 l3 l4 (0 : Int32)
theorem BX8_who_74 {K : CX} {l : Launch} {n0 k0 : Nat} {k : KTX8_who} (hk0 : ∀ (w : XW) (l0 : Nat) (l1 : Int32) (l2 : Int32) (l3 : Int32) (q : Int32 × XW), k w l0 l1 l2 l3 = some q → WP K l mX8_who 4 93 n0 k0 (some (.int q.1)) q.2 2 [some (.ref l0), some (.int l1), some (.int l2), some (.int l3), none, none] [] w) {w : XW} {l0 : Nat} {l1 : Int32} {l2 : Int32} {l3 : Int32} {l4 : Int32} {s0 : Int32} {s1 : Int32} {q : Int32 × XW} (h0 : bX8_who_74 k w l0 l1 l2 l3 l4 s0 s1 = some q) : WP K l mX8_who 4 93 n0 k0 (some (.int q.1)) q.2 74 [some (.ref l0), some (.int l1), some (.int l2), some (.int l3), some (.int l4), none] [.int s1, .int s0] w := by
  unfold bX8_who_74 at h0
  refine wp_icmp_ne (tgt := 81) dX8_who_74 (by decide) (fun c1 => ?_) (fun c1 => ?_)
  · rw [if_neg c1] at h0
    refine wp_iconst (v := (0 : Int32)) dX8_who_81 (by decide) ?_
    exact WP.wk (BX8_who_82 hk0 h0) (And.intro rfl (And.intro rfl (And.intro rfl (And.intro rfl (And.intro rfl trivial)))))
  · rw [if_pos c1] at h0
    refine wp_iconst (v := (1 : Int32)) dX8_who_77 (by decide) ?_
    refine wp_goto (tgt := 82) dX8_who_78 (by decide) ?_
    exact WP.wk (BX8_who_82 hk0 h0) (And.intro rfl (And.intro rfl (And.intro rfl (And.intro rfl (And.intro rfl trivial)))))
def bX8_who_56 (k : KTX8_who) (w : XW) (l0 : Nat) (l1 : Int32) (l2 : Int32) (l3 : Int32) (l4 : Int32) (s0 : Int32) : Option (Int32 × XW) :=
  (gR w l0 8 7).bind fun x1 =>
  (aI w 0 x1 (l1 + (14 : Int32))).bind fun x4 =>
  if l3 < x4 then
  bX8_who_74 k w l0 l1 l2 l3 l4 s0 (0 : Int32)
  else
  bX8_who_74 k w l0 l1 l2 l3 l4 s0 (1 : Int32)
theorem BX8_who_56 {K : CX} {l : Launch} {n0 k0 : Nat} {k : KTX8_who} (hk0 : ∀ (w : XW) (l0 : Nat) (l1 : Int32) (l2 : Int32) (l3 : Int32) (q : Int32 × XW), k w l0 l1 l2 l3 = some q → WP K l mX8_who 4 93 n0 k0 (some (.int q.1)) q.2 2 [some (.ref l0), some (.int l1), some (.int l2), some (.int l3), none, none] [] w) {w : XW} {l0 : Nat} {l1 : Int32} {l2 : Int32} {l3 : Int32} {l4 : Int32} {s0 : Int32} {q : Int32 × XW} (h0 : bX8_who_56 k w l0 l1 l2 l3 l4 s0 = some q) : WP K l mX8_who 4 93 n0 k0 (some (.int q.1)) q.2 56 [some (.ref l0), some (.int l1), some (.int l2), some (.int l3), some (.int l4), none] [.int s0] w := by
  unfold bX8_who_56 at h0
  refine wp_iload_n dX8_who_56 rfl ?_
  refine wp_aload_n dX8_who_57 rfl ?_
  obtain ⟨x1, e3, h2⟩ := Option.bind_eq_some_iff.mp h0
  clear h0
  refine wp_getR okX8 (k := 7) (by decide) tw712 dX8_who_58 e3 ?_
  refine wp_iload_n dX8_who_61 rfl ?_
  refine wp_bipush (v := (14 : Int32)) dX8_who_62 (by decide) ?_
  refine wp_iadd dX8_who_64 ?_
  obtain ⟨x4, e6, h5⟩ := Option.bind_eq_some_iff.mp h2
  clear h2
  refine wp_iald dX8_who_65 e6 ?_
  refine wp_icmp_lt (tgt := 73) dX8_who_66 (by decide) (fun c7 => ?_) (fun c7 => ?_)
  · rw [if_pos c7] at h5
    refine wp_iconst (v := (0 : Int32)) dX8_who_73 (by decide) ?_
    exact WP.wk (BX8_who_74 hk0 h5) (And.intro rfl (And.intro rfl (And.intro rfl (And.intro rfl (And.intro rfl trivial)))))
  · rw [if_neg c7] at h5
    refine wp_iconst (v := (1 : Int32)) dX8_who_69 (by decide) ?_
    refine wp_goto (tgt := 74) dX8_who_70 (by decide) ?_
    exact WP.wk (BX8_who_74 hk0 h5) (And.intro rfl (And.intro rfl (And.intro rfl (And.intro rfl (And.intro rfl trivial)))))
def hX8_who_2 (k : KTX8_who) (w : XW) (l0 : Nat) (l1 : Int32) (l2 : Int32) (l3 : Int32) : Option (Int32 × XW) :=
  (gR w l0 8 7).bind fun x1 =>
  (aI w 0 x1 (l1 + (14 : Int32))).bind fun x4 =>
  if ((2 : Int32) * x4) ≤ l3 then
  some ((-4 : Int32), w)
  else
  (gR w l0 8 7).bind fun x8 =>
  (gR w l0 8 7).bind fun x11 =>
  (aI w 0 x11 (l1 + (14 : Int32))).bind fun x14 =>
  if x14 = 0 then none else
  (aI w 0 x8 ((l1 + (6 : Int32)) + (irm l3 x14))).bind fun x19 =>
  (gR w l0 8 1).bind fun x22 =>
  (aI w 0 x22 x19).bind fun x25 =>
  if x25 = (4 : Int32) then
  bX8_who_56 k w l0 l1 l2 l3 x19 (1 : Int32)
  else
  bX8_who_56 k w l0 l1 l2 l3 x19 (0 : Int32)
theorem HX8_who_2 {K : CX} {l : Launch} {n0 k0 : Nat} {k : KTX8_who} (hk0 : ∀ (w : XW) (l0 : Nat) (l1 : Int32) (l2 : Int32) (l3 : Int32) (q : Int32 × XW), k w l0 l1 l2 l3 = some q → WP K l mX8_who 4 93 n0 k0 (some (.int q.1)) q.2 2 [some (.ref l0), some (.int l1), some (.int l2), some (.int l3), none, none] [] w) {w : XW} {l0 : Nat} {l1 : Int32} {l2 : Int32} {l3 : Int32} {q : Int32 × XW} (h0 : hX8_who_2 k w l0 l1 l2 l3 = some q) : WP K l mX8_who 4 93 n0 k0 (some (.int q.1)) q.2 2 [some (.ref l0), some (.int l1), some (.int l2), some (.int l3), none, none] [] w := by
  unfold hX8_who_2 at h0
  refine wp_iload_n dX8_who_2 rfl ?_
  refine wp_iconst (v := (2 : Int32)) dX8_who_3 (by decide) ?_
  refine wp_aload_n dX8_who_4 rfl ?_
  obtain ⟨x1, e3, h2⟩ := Option.bind_eq_some_iff.mp h0
  clear h0
  refine wp_getR okX8 (k := 7) (by decide) tw712 dX8_who_5 e3 ?_
  refine wp_iload_n dX8_who_8 rfl ?_
  refine wp_bipush (v := (14 : Int32)) dX8_who_9 (by decide) ?_
  refine wp_iadd dX8_who_11 ?_
  obtain ⟨x4, e6, h5⟩ := Option.bind_eq_some_iff.mp h2
  clear h2
  refine wp_iald dX8_who_12 e6 ?_
  refine wp_imul dX8_who_13 ?_
  refine wp_icmp_ge (tgt := 117) dX8_who_14 (by decide) (fun c7 => ?_) (fun c7 => ?_)
  · rw [if_pos c7] at h5
    refine wp_bipush (v := (-4 : Int32)) dX8_who_117 (by decide) ?_
    cases h5
    exact wp_iret rfl dX8_who_119
  · rw [if_neg c7] at h5
    refine wp_aload_n dX8_who_17 rfl ?_
    obtain ⟨x8, e10, h9⟩ := Option.bind_eq_some_iff.mp h5
    clear h5
    refine wp_getR okX8 (k := 7) (by decide) tw712 dX8_who_18 e10 ?_
    refine wp_iload_n dX8_who_21 rfl ?_
    refine wp_bipush (v := (6 : Int32)) dX8_who_22 (by decide) ?_
    refine wp_iadd dX8_who_24 ?_
    refine wp_iload_n dX8_who_25 rfl ?_
    refine wp_aload_n dX8_who_26 rfl ?_
    obtain ⟨x11, e13, h12⟩ := Option.bind_eq_some_iff.mp h9
    clear h9
    refine wp_getR okX8 (k := 7) (by decide) tw712 dX8_who_27 e13 ?_
    refine wp_iload_n dX8_who_30 rfl ?_
    refine wp_bipush (v := (14 : Int32)) dX8_who_31 (by decide) ?_
    refine wp_iadd dX8_who_33 ?_
    obtain ⟨x14, e16, h15⟩ := Option.bind_eq_some_iff.mp h12
    clear h12
    refine wp_iald dX8_who_34 e16 ?_
    have c17 : ¬ x14 = 0 := by intro z; rw [if_pos z] at h15; cases h15
    rw [if_neg c17] at h15
    have h18 := h15; clear h15
    refine wp_irm dX8_who_35 c17 ?_
    refine wp_iadd dX8_who_36 ?_
    obtain ⟨x19, e21, h20⟩ := Option.bind_eq_some_iff.mp h18
    clear h18
    refine wp_iald dX8_who_37 e21 ?_
    refine wp_istore (L1 := [some (.ref l0), some (.int l1), some (.int l2), some (.int l3), some (.int x19), none]) dX8_who_38 (Nat.le_of_ble_eq_true rfl) rfl ?_
    refine wp_aload_n dX8_who_40 rfl ?_
    obtain ⟨x22, e24, h23⟩ := Option.bind_eq_some_iff.mp h20
    clear h20
    refine wp_getR okX8 (k := 1) (by decide) tw706 dX8_who_41 e24 ?_
    refine wp_iload dX8_who_44 rfl ?_
    obtain ⟨x25, e27, h26⟩ := Option.bind_eq_some_iff.mp h23
    clear h23
    refine wp_iald dX8_who_46 e27 ?_
    refine wp_iconst (v := (4 : Int32)) dX8_who_47 (by decide) ?_
    refine wp_icmp_ne (tgt := 55) dX8_who_48 (by decide) (fun c28 => ?_) (fun c28 => ?_)
    · rw [if_neg c28] at h26
      refine wp_iconst (v := (0 : Int32)) dX8_who_55 (by decide) ?_
      exact WP.wk (BX8_who_56 hk0 h26) (And.intro rfl (And.intro rfl (And.intro rfl (And.intro rfl (And.intro rfl trivial)))))
    · rw [if_pos c28] at h26
      refine wp_iconst (v := (1 : Int32)) dX8_who_51 (by decide) ?_
      refine wp_goto (tgt := 56) dX8_who_52 (by decide) ?_
      exact WP.wk (BX8_who_56 hk0 h26) (And.intro rfl (And.intro rfl (And.intro rfl (And.intro rfl (And.intro rfl trivial)))))
def eX8_who (k : KTX8_who) (w : XW) (l0 : Nat) (l1 : Int32) (l2 : Int32) : Option (Int32 × XW) :=
  k w l0 l1 l2 (0 : Int32)
theorem EX8_who {K : CX} {l : Launch} {n0 k0 : Nat} {k : KTX8_who} (hk0 : ∀ (w : XW) (l0 : Nat) (l1 : Int32) (l2 : Int32) (l3 : Int32) (q : Int32 × XW), k w l0 l1 l2 l3 = some q → WP K l mX8_who 4 93 n0 k0 (some (.int q.1)) q.2 2 [some (.ref l0), some (.int l1), some (.int l2), some (.int l3), none, none] [] w) {w : XW} {l0 : Nat} {l1 : Int32} {l2 : Int32} {q : Int32 × XW} (h0 : eX8_who k w l0 l1 l2 = some q) : WP K l mX8_who 4 93 n0 k0 (some (.int q.1)) q.2 0 [some (.ref l0), some (.int l1), some (.int l2), none, none, none] [] w := by
  unfold eX8_who at h0
  refine wp_iconst (v := (0 : Int32)) dX8_who_0 (by decide) ?_
  refine wp_istore_n (L1 := [some (.ref l0), some (.int l1), some (.int l2), some (.int (0 : Int32)), none, none]) dX8_who_1 (Nat.le_of_ble_eq_true rfl) rfl ?_
  exact WP.wk (hk0 _ _ _ _ _ _ h0) (And.intro rfl (And.intro rfl (And.intro rfl (And.intro rfl trivial))))
def loX8_who : Nat → KTX8_who
  | 0 => fun _ _ _ _ _ => none
  | n + 1 => hX8_who_2 (loX8_who n)
theorem LOX8_who {K : CX} {l : Launch} {n0 k0 : Nat} : ∀ n : Nat, (∀ (w : XW) (l0 : Nat) (l1 : Int32) (l2 : Int32) (l3 : Int32) (q : Int32 × XW), (loX8_who n) w l0 l1 l2 l3 = some q → WP K l mX8_who 4 93 n0 k0 (some (.int q.1)) q.2 2 [some (.ref l0), some (.int l1), some (.int l2), some (.int l3), none, none] [] w) := by
  intro n
  induction n with
  | zero => exact fun _ _ _ _ _ q h => (by cases h)
  | succ n ih => exact fun _ _ _ _ _ q h => HX8_who_2 ih h
def fX8_who (w : XW) (l0 : Nat) (l1 : Int32) (l2 : Int32) : Option (Int32 × XW) := if isO w l0 8 = true then eX8_who (loX8_who FU) w l0 l1 l2 else none
theorem OX8_who {w : XW} {l0 : Nat} {l1 : Int32} {l2 : Int32} {q : Int32 × XW} (h : fX8_who w l0 l1 l2 = some q) : isO w l0 8 = true := Decidable.byContradiction fun z => by unfold fX8_who at h; rw [if_neg z] at h; cases h
theorem MX8_who {K : CX} {l : Launch} {w : XW} {l0 : Nat} {l1 : Int32} {l2 : Int32} {q : Int32 × XW} (h : fX8_who w l0 l1 l2 = some q) : MT K l mX8_who 4 93 [.ref l0, .int l1, .int l2] w (some (.int q.1)) q.2 := by
  have z := OX8_who h
  unfold fX8_who at h
  rw [if_pos z] at h
  exact MT.of (by decide) (Nat.le_of_ble_eq_true rfl) rfl (EX8_who (LOX8_who FU) h)
/-! FractionRunModel.copies(II)V: frames 1, words 20 -/
abbrev mX8_copies : MR := (⟨"FractionRunModel", "copies", "(II)V"⟩, prog_10_method_25_code, 4, none)
theorem dX8_copies_0 : decode prog_10_method_25_code 0 = .ok (.iconst 0, 1) := by decide +kernel
theorem dX8_copies_1 : decode prog_10_method_25_code 1 = .ok (.istore_n 3, 1) := by decide +kernel
theorem dX8_copies_2 : decode prog_10_method_25_code 2 = .ok (.iload_n 3, 1) := by decide +kernel
theorem dX8_copies_3 : decode prog_10_method_25_code 3 = .ok (.bipush 18, 2) := by decide +kernel
theorem dX8_copies_5 : decode prog_10_method_25_code 5 = .ok (.if_icmp .ge 25, 3) := by decide +kernel
theorem dX8_copies_8 : decode prog_10_method_25_code 8 = .ok (.aload_n 0, 1) := by decide +kernel
theorem dX8_copies_9 : decode prog_10_method_25_code 9 = .ok (.getfield 25, 3) := by decide +kernel
theorem dX8_copies_12 : decode prog_10_method_25_code 12 = .ok (.iload_n 2, 1) := by decide +kernel
theorem dX8_copies_13 : decode prog_10_method_25_code 13 = .ok (.iload_n 3, 1) := by decide +kernel
theorem dX8_copies_14 : decode prog_10_method_25_code 14 = .ok (.iadd, 1) := by decide +kernel
theorem dX8_copies_15 : decode prog_10_method_25_code 15 = .ok (.aload_n 0, 1) := by decide +kernel
theorem dX8_copies_16 : decode prog_10_method_25_code 16 = .ok (.getfield 25, 3) := by decide +kernel
theorem dX8_copies_19 : decode prog_10_method_25_code 19 = .ok (.iload_n 1, 1) := by decide +kernel
theorem dX8_copies_20 : decode prog_10_method_25_code 20 = .ok (.iload_n 3, 1) := by decide +kernel
theorem dX8_copies_21 : decode prog_10_method_25_code 21 = .ok (.iadd, 1) := by decide +kernel
theorem dX8_copies_22 : decode prog_10_method_25_code 22 = .ok (.iaload, 1) := by decide +kernel
theorem dX8_copies_23 : decode prog_10_method_25_code 23 = .ok (.iastore, 1) := by decide +kernel
theorem dX8_copies_24 : decode prog_10_method_25_code 24 = .ok (.iinc 3 1, 3) := by decide +kernel
theorem dX8_copies_27 : decode prog_10_method_25_code 27 = .ok (.goto (-25), 3) := by decide +kernel
theorem dX8_copies_30 : decode prog_10_method_25_code 30 = .ok (.return_, 1) := by decide +kernel
theorem okM_X8_copies : okM mX8_copies 2 := ⟨tw878, tw15, by decide, by decide, by decide +kernel⟩
abbrev KTX8_copies : Type := (XW → Nat → Int32 → Int32 → Int32 → Option XW)
def hX8_copies_2 (k : KTX8_copies) (w : XW) (l0 : Nat) (l1 : Int32) (l2 : Int32) (l3 : Int32) : Option XW :=
  if (18 : Int32) ≤ l3 then
  some w
  else
  (gR w l0 8 7).bind fun x2 =>
  (gR w l0 8 7).bind fun x5 =>
  (aI w 0 x5 (l1 + l3)).bind fun x8 =>
  (sI w 0 x2 (l2 + l3) x8).bind fun w11 =>
  k w11 l0 l1 l2 (l3 + (1 : Int32))
theorem HX8_copies_2 {K : CX} {l : Launch} {n0 k0 : Nat} {k : KTX8_copies} (hk0 : ∀ (w : XW) (l0 : Nat) (l1 : Int32) (l2 : Int32) (l3 : Int32) (q : XW), k w l0 l1 l2 l3 = some q → WP K l mX8_copies 1 20 n0 k0 none q 2 [some (.ref l0), some (.int l1), some (.int l2), some (.int l3)] [] w) {w : XW} {l0 : Nat} {l1 : Int32} {l2 : Int32} {l3 : Int32} {q : XW} (h0 : hX8_copies_2 k w l0 l1 l2 l3 = some q) : WP K l mX8_copies 1 20 n0 k0 none q 2 [some (.ref l0), some (.int l1), some (.int l2), some (.int l3)] [] w := by
  unfold hX8_copies_2 at h0
  refine wp_iload_n dX8_copies_2 rfl ?_
  refine wp_bipush (v := (18 : Int32)) dX8_copies_3 (by decide) ?_
  refine wp_icmp_ge (tgt := 30) dX8_copies_5 (by decide) (fun c1 => ?_) (fun c1 => ?_)
  · rw [if_pos c1] at h0
    cases h0
    exact wp_vret rfl dX8_copies_30
  · rw [if_neg c1] at h0
    refine wp_aload_n dX8_copies_8 rfl ?_
    obtain ⟨x2, e4, h3⟩ := Option.bind_eq_some_iff.mp h0
    clear h0
    refine wp_getR okX8 (k := 7) (by decide) tw712 dX8_copies_9 e4 ?_
    refine wp_iload_n dX8_copies_12 rfl ?_
    refine wp_iload_n dX8_copies_13 rfl ?_
    refine wp_iadd dX8_copies_14 ?_
    refine wp_aload_n dX8_copies_15 rfl ?_
    obtain ⟨x5, e7, h6⟩ := Option.bind_eq_some_iff.mp h3
    clear h3
    refine wp_getR okX8 (k := 7) (by decide) tw712 dX8_copies_16 e7 ?_
    refine wp_iload_n dX8_copies_19 rfl ?_
    refine wp_iload_n dX8_copies_20 rfl ?_
    refine wp_iadd dX8_copies_21 ?_
    obtain ⟨x8, e10, h9⟩ := Option.bind_eq_some_iff.mp h6
    clear h6
    refine wp_iald dX8_copies_22 e10 ?_
    obtain ⟨w11, e13, h12⟩ := Option.bind_eq_some_iff.mp h9
    clear h9
    refine wp_iast dX8_copies_23 e13 ?_
    refine wp_iinc (v := (l3 + (1 : Int32))) (L1 := [some (.ref l0), some (.int l1), some (.int l2), some (.int (l3 + (1 : Int32)))]) dX8_copies_24 (Nat.le_of_ble_eq_true rfl) rfl (congrArg (fun z => l3 + z) (by decide)) rfl ?_
    refine wp_goto (tgt := 2) dX8_copies_27 (by decide) ?_
    exact WP.wk (hk0 _ _ _ _ _ _ h12) (And.intro rfl (And.intro rfl (And.intro rfl (And.intro rfl trivial))))
def eX8_copies (k : KTX8_copies) (w : XW) (l0 : Nat) (l1 : Int32) (l2 : Int32) : Option XW :=
  k w l0 l1 l2 (0 : Int32)
theorem EX8_copies {K : CX} {l : Launch} {n0 k0 : Nat} {k : KTX8_copies} (hk0 : ∀ (w : XW) (l0 : Nat) (l1 : Int32) (l2 : Int32) (l3 : Int32) (q : XW), k w l0 l1 l2 l3 = some q → WP K l mX8_copies 1 20 n0 k0 none q 2 [some (.ref l0), some (.int l1), some (.int l2), some (.int l3)] [] w) {w : XW} {l0 : Nat} {l1 : Int32} {l2 : Int32} {q : XW} (h0 : eX8_copies k w l0 l1 l2 = some q) : WP K l mX8_copies 1 20 n0 k0 none q 0 [some (.ref l0), some (.int l1), some (.int l2), none] [] w := by
  unfold eX8_copies at h0
  refine wp_iconst (v := (0 : Int32)) dX8_copies_0 (by decide) ?_
  refine wp_istore_n (L1 := [some (.ref l0), some (.int l1), some (.int l2), some (.int (0 : Int32))]) dX8_copies_1 (Nat.le_of_ble_eq_true rfl) rfl ?_
  exact WP.wk (hk0 _ _ _ _ _ _ h0) (And.intro rfl (And.intro rfl (And.intro rfl (And.intro rfl trivial))))
def loX8_copies : Nat → KTX8_copies
  | 0 => fun _ _ _ _ _ => none
  | n + 1 => hX8_copies_2 (loX8_copies n)
theorem LOX8_copies {K : CX} {l : Launch} {n0 k0 : Nat} : ∀ n : Nat, (∀ (w : XW) (l0 : Nat) (l1 : Int32) (l2 : Int32) (l3 : Int32) (q : XW), (loX8_copies n) w l0 l1 l2 l3 = some q → WP K l mX8_copies 1 20 n0 k0 none q 2 [some (.ref l0), some (.int l1), some (.int l2), some (.int l3)] [] w) := by
  intro n
  induction n with
  | zero => exact fun _ _ _ _ _ q h => (by cases h)
  | succ n ih => exact fun _ _ _ _ _ q h => HX8_copies_2 ih h
def fX8_copies (w : XW) (l0 : Nat) (l1 : Int32) (l2 : Int32) : Option XW := if isO w l0 8 = true then eX8_copies (loX8_copies FU) w l0 l1 l2 else none
theorem OX8_copies {w : XW} {l0 : Nat} {l1 : Int32} {l2 : Int32} {q : XW} (h : fX8_copies w l0 l1 l2 = some q) : isO w l0 8 = true := Decidable.byContradiction fun z => by unfold fX8_copies at h; rw [if_neg z] at h; cases h
theorem MX8_copies {K : CX} {l : Launch} {w : XW} {l0 : Nat} {l1 : Int32} {l2 : Int32} {q : XW} (h : fX8_copies w l0 l1 l2 = some q) : MT K l mX8_copies 1 20 [.ref l0, .int l1, .int l2] w none q := by
  have z := OX8_copies h
  unfold fX8_copies at h
  rw [if_pos z] at h
  exact MT.of (by decide) (Nat.le_of_ble_eq_true rfl) rfl (EX8_copies (LOX8_copies FU) h)
/-! FractionRunModel.known()V: frames 2, words 43 -/
abbrev mX8_known : MR := (⟨"FractionRunModel", "known", "()V"⟩, prog_10_method_26_code, 2, none)
theorem dX8_known_0 : decode prog_10_method_26_code 0 = .ok (.aload_n 0, 1) := by decide +kernel
theorem dX8_known_1 : decode prog_10_method_26_code 1 = .ok (.getfield 75, 3) := by decide +kernel
theorem dX8_known_4 : decode prog_10_method_26_code 4 = .ok (.bipush 8, 2) := by decide +kernel
theorem dX8_known_6 : decode prog_10_method_26_code 6 = .ok (.if_icmp .ne 40, 3) := by decide +kernel
theorem dX8_known_9 : decode prog_10_method_26_code 9 = .ok (.bipush 18, 2) := by decide +kernel
theorem dX8_known_11 : decode prog_10_method_26_code 11 = .ok (.istore_n 1, 1) := by decide +kernel
theorem dX8_known_12 : decode prog_10_method_26_code 12 = .ok (.iload_n 1, 1) := by decide +kernel
theorem dX8_known_13 : decode prog_10_method_26_code 13 = .ok (.sipush 144, 3) := by decide +kernel
theorem dX8_known_16 : decode prog_10_method_26_code 16 = .ok (.if_icmp .ge 24, 3) := by decide +kernel
theorem dX8_known_19 : decode prog_10_method_26_code 19 = .ok (.aload_n 0, 1) := by decide +kernel
theorem dX8_known_20 : decode prog_10_method_26_code 20 = .ok (.getfield 25, 3) := by decide +kernel
theorem dX8_known_23 : decode prog_10_method_26_code 23 = .ok (.iload_n 1, 1) := by decide +kernel
theorem dX8_known_24 : decode prog_10_method_26_code 24 = .ok (.aload_n 0, 1) := by decide +kernel
theorem dX8_known_25 : decode prog_10_method_26_code 25 = .ok (.getfield 25, 3) := by decide +kernel
theorem dX8_known_28 : decode prog_10_method_26_code 28 = .ok (.iload_n 1, 1) := by decide +kernel
theorem dX8_known_29 : decode prog_10_method_26_code 29 = .ok (.bipush 18, 2) := by decide +kernel
theorem dX8_known_31 : decode prog_10_method_26_code 31 = .ok (.iadd, 1) := by decide +kernel
theorem dX8_known_32 : decode prog_10_method_26_code 32 = .ok (.iaload, 1) := by decide +kernel
theorem dX8_known_33 : decode prog_10_method_26_code 33 = .ok (.iastore, 1) := by decide +kernel
theorem dX8_known_34 : decode prog_10_method_26_code 34 = .ok (.iinc 1 1, 3) := by decide +kernel
theorem dX8_known_37 : decode prog_10_method_26_code 37 = .ok (.goto (-25), 3) := by decide +kernel
theorem dX8_known_40 : decode prog_10_method_26_code 40 = .ok (.aload_n 0, 1) := by decide +kernel
theorem dX8_known_41 : decode prog_10_method_26_code 41 = .ok (.bipush 7, 2) := by decide +kernel
theorem dX8_known_43 : decode prog_10_method_26_code 43 = .ok (.putfield 75, 3) := by decide +kernel
theorem dX8_known_46 : decode prog_10_method_26_code 46 = .ok (.aload_n 0, 1) := by decide +kernel
theorem dX8_known_47 : decode prog_10_method_26_code 47 = .ok (.dup, 1) := by decide +kernel
theorem dX8_known_48 : decode prog_10_method_26_code 48 = .ok (.getfield 75, 3) := by decide +kernel
theorem dX8_known_51 : decode prog_10_method_26_code 51 = .ok (.iconst 1, 1) := by decide +kernel
theorem dX8_known_52 : decode prog_10_method_26_code 52 = .ok (.iadd, 1) := by decide +kernel
theorem dX8_known_53 : decode prog_10_method_26_code 53 = .ok (.putfield 75, 3) := by decide +kernel
theorem dX8_known_56 : decode prog_10_method_26_code 56 = .ok (.aload_n 0, 1) := by decide +kernel
theorem dX8_known_57 : decode prog_10_method_26_code 57 = .ok (.iconst 0, 1) := by decide +kernel
theorem dX8_known_58 : decode prog_10_method_26_code 58 = .ok (.aload_n 0, 1) := by decide +kernel
theorem dX8_known_59 : decode prog_10_method_26_code 59 = .ok (.getfield 75, 3) := by decide +kernel
theorem dX8_known_62 : decode prog_10_method_26_code 62 = .ok (.bipush 18, 2) := by decide +kernel
theorem dX8_known_64 : decode prog_10_method_26_code 64 = .ok (.imul, 1) := by decide +kernel
theorem dX8_known_65 : decode prog_10_method_26_code 65 = .ok (.invokevirtual 155, 3) := by decide +kernel
theorem dX8_known_68 : decode prog_10_method_26_code 68 = .ok (.return_, 1) := by decide +kernel
theorem okM_X8_known : okM mX8_known 0 := ⟨tw874, tw15, by decide, by decide, by decide +kernel⟩
abbrev KTX8_known : Type := (XW → Nat → Int32 → Option XW)
def bX8_known_46 (k : KTX8_known) (w : XW) (l0 : Nat) : Option XW :=
  (gI w l0 8 8).bind fun x1 =>
  (pV w l0 8 8 (.int (x1 + (1 : Int32)))).bind fun w4 =>
  (gI w4 l0 8 8).bind fun x7 =>
  (fX8_copies w4 l0 (0 : Int32) (x7 * (18 : Int32))).bind fun q10 =>
  some q10
theorem BX8_known_46 {K : CX} {l : Launch} {n0 k0 : Nat} {k : KTX8_known} (hk0 : ∀ (w : XW) (l0 : Nat) (l1 : Int32) (q : XW), k w l0 l1 = some q → WP K l mX8_known 2 43 n0 k0 none q 12 [some (.ref l0), some (.int l1)] [] w) {w : XW} {l0 : Nat} {q : XW} (h0 : bX8_known_46 k w l0 = some q) : WP K l mX8_known 2 43 n0 k0 none q 46 [some (.ref l0), none] [] w := by
  unfold bX8_known_46 at h0
  refine wp_aload_n dX8_known_46 rfl ?_
  refine wp_dup dX8_known_47 rfl ?_
  obtain ⟨x1, e3, h2⟩ := Option.bind_eq_some_iff.mp h0
  clear h0
  refine wp_getI okX8 (k := 8) (by decide) tw713 dX8_known_48 e3 ?_
  refine wp_iconst (v := (1 : Int32)) dX8_known_51 (by decide) ?_
  refine wp_iadd dX8_known_52 ?_
  obtain ⟨w4, e6, h5⟩ := Option.bind_eq_some_iff.mp h2
  clear h2
  refine wp_putV okX8 (k := 8) (by decide) rfl tw713 dX8_known_53 rfl rfl e6 ?_
  refine wp_aload_n dX8_known_56 rfl ?_
  refine wp_iconst (v := (0 : Int32)) dX8_known_57 (by decide) ?_
  refine wp_aload_n dX8_known_58 rfl ?_
  obtain ⟨x7, e9, h8⟩ := Option.bind_eq_some_iff.mp h5
  clear h5
  refine wp_getI okX8 (k := 8) (by decide) tw713 dX8_known_59 e9 ?_
  refine wp_bipush (v := (18 : Int32)) dX8_known_62 (by decide) ?_
  refine wp_imul dX8_known_64 ?_
  obtain ⟨q10, e12, h11⟩ := Option.bind_eq_some_iff.mp h8
  clear h8
  refine wp_Vv (As := [.int (0 : Int32), .int (x7 * (18 : Int32))]) (S := []) okM_X8_copies tw877 twP_X8_copies tw875 (OX8_copies e12) rfl rfl rfl ⟨(Nat.le_of_ble_eq_true rfl), (Nat.le_of_ble_eq_true rfl)⟩ (Nat.le_of_ble_eq_true rfl) rfl dX8_known_65 (MX8_copies e12) ?_
  cases h11
  exact wp_vret rfl dX8_known_68
def hX8_known_12 (k : KTX8_known) (w : XW) (l0 : Nat) (l1 : Int32) : Option XW :=
  if (144 : Int32) ≤ l1 then
  (pV w l0 8 8 (.int (7 : Int32))).bind fun w2 =>
  bX8_known_46 k w2 l0
  else
  (gR w l0 8 7).bind fun x5 =>
  (gR w l0 8 7).bind fun x8 =>
  (aI w 0 x8 (l1 + (18 : Int32))).bind fun x11 =>
  (sI w 0 x5 l1 x11).bind fun w14 =>
  k w14 l0 (l1 + (1 : Int32))
theorem HX8_known_12 {K : CX} {l : Launch} {n0 k0 : Nat} {k : KTX8_known} (hk0 : ∀ (w : XW) (l0 : Nat) (l1 : Int32) (q : XW), k w l0 l1 = some q → WP K l mX8_known 2 43 n0 k0 none q 12 [some (.ref l0), some (.int l1)] [] w) {w : XW} {l0 : Nat} {l1 : Int32} {q : XW} (h0 : hX8_known_12 k w l0 l1 = some q) : WP K l mX8_known 2 43 n0 k0 none q 12 [some (.ref l0), some (.int l1)] [] w := by
  unfold hX8_known_12 at h0
  refine wp_iload_n dX8_known_12 rfl ?_
  refine wp_sipush (v := (144 : Int32)) dX8_known_13 (by decide) ?_
  refine wp_icmp_ge (tgt := 40) dX8_known_16 (by decide) (fun c1 => ?_) (fun c1 => ?_)
  · rw [if_pos c1] at h0
    refine wp_aload_n dX8_known_40 rfl ?_
    refine wp_bipush (v := (7 : Int32)) dX8_known_41 (by decide) ?_
    obtain ⟨w2, e4, h3⟩ := Option.bind_eq_some_iff.mp h0
    clear h0
    refine wp_putV okX8 (k := 8) (by decide) rfl tw713 dX8_known_43 rfl rfl e4 ?_
    exact WP.wk (BX8_known_46 hk0 h3) (And.intro rfl trivial)
  · rw [if_neg c1] at h0
    refine wp_aload_n dX8_known_19 rfl ?_
    obtain ⟨x5, e7, h6⟩ := Option.bind_eq_some_iff.mp h0
    clear h0
    refine wp_getR okX8 (k := 7) (by decide) tw712 dX8_known_20 e7 ?_
    refine wp_iload_n dX8_known_23 rfl ?_
    refine wp_aload_n dX8_known_24 rfl ?_
    obtain ⟨x8, e10, h9⟩ := Option.bind_eq_some_iff.mp h6
    clear h6
    refine wp_getR okX8 (k := 7) (by decide) tw712 dX8_known_25 e10 ?_
    refine wp_iload_n dX8_known_28 rfl ?_
    refine wp_bipush (v := (18 : Int32)) dX8_known_29 (by decide) ?_
    refine wp_iadd dX8_known_31 ?_
    obtain ⟨x11, e13, h12⟩ := Option.bind_eq_some_iff.mp h9
    clear h9
    refine wp_iald dX8_known_32 e13 ?_
    obtain ⟨w14, e16, h15⟩ := Option.bind_eq_some_iff.mp h12
    clear h12
    refine wp_iast dX8_known_33 e16 ?_
    refine wp_iinc (v := (l1 + (1 : Int32))) (L1 := [some (.ref l0), some (.int (l1 + (1 : Int32)))]) dX8_known_34 (Nat.le_of_ble_eq_true rfl) rfl (congrArg (fun z => l1 + z) (by decide)) rfl ?_
    refine wp_goto (tgt := 12) dX8_known_37 (by decide) ?_
    exact WP.wk (hk0 _ _ _ _ h15) (And.intro rfl (And.intro rfl trivial))
def eX8_known (k : KTX8_known) (w : XW) (l0 : Nat) : Option XW :=
  (gI w l0 8 8).bind fun x1 =>
  if x1 = (8 : Int32) then
  k w l0 (18 : Int32)
  else
  bX8_known_46 k w l0
theorem EX8_known {K : CX} {l : Launch} {n0 k0 : Nat} {k : KTX8_known} (hk0 : ∀ (w : XW) (l0 : Nat) (l1 : Int32) (q : XW), k w l0 l1 = some q → WP K l mX8_known 2 43 n0 k0 none q 12 [some (.ref l0), some (.int l1)] [] w) {w : XW} {l0 : Nat} {q : XW} (h0 : eX8_known k w l0 = some q) : WP K l mX8_known 2 43 n0 k0 none q 0 [some (.ref l0), none] [] w := by
  unfold eX8_known at h0
  refine wp_aload_n dX8_known_0 rfl ?_
  obtain ⟨x1, e3, h2⟩ := Option.bind_eq_some_iff.mp h0
  clear h0
  refine wp_getI okX8 (k := 8) (by decide) tw713 dX8_known_1 e3 ?_
  refine wp_bipush (v := (8 : Int32)) dX8_known_4 (by decide) ?_
  refine wp_icmp_ne (tgt := 46) dX8_known_6 (by decide) (fun c4 => ?_) (fun c4 => ?_)
  · rw [if_neg c4] at h2
    exact WP.wk (BX8_known_46 hk0 h2) (And.intro rfl trivial)
  · rw [if_pos c4] at h2
    refine wp_bipush (v := (18 : Int32)) dX8_known_9 (by decide) ?_
    refine wp_istore_n (L1 := [some (.ref l0), some (.int (18 : Int32))]) dX8_known_11 (Nat.le_of_ble_eq_true rfl) rfl ?_
    exact WP.wk (hk0 _ _ _ _ h2) (And.intro rfl (And.intro rfl trivial))
def loX8_known : Nat → KTX8_known
  | 0 => fun _ _ _ => none
  | n + 1 => hX8_known_12 (loX8_known n)
theorem LOX8_known {K : CX} {l : Launch} {n0 k0 : Nat} : ∀ n : Nat, (∀ (w : XW) (l0 : Nat) (l1 : Int32) (q : XW), (loX8_known n) w l0 l1 = some q → WP K l mX8_known 2 43 n0 k0 none q 12 [some (.ref l0), some (.int l1)] [] w) := by
  intro n
  induction n with
  | zero => exact fun _ _ _ q h => (by cases h)
  | succ n ih => exact fun _ _ _ q h => HX8_known_12 ih h
def fX8_known (w : XW) (l0 : Nat) : Option XW := if isO w l0 8 = true then eX8_known (loX8_known FU) w l0 else none
theorem OX8_known {w : XW} {l0 : Nat} {q : XW} (h : fX8_known w l0 = some q) : isO w l0 8 = true := Decidable.byContradiction fun z => by unfold fX8_known at h; rw [if_neg z] at h; cases h
theorem MX8_known {K : CX} {l : Launch} {w : XW} {l0 : Nat} {q : XW} (h : fX8_known w l0 = some q) : MT K l mX8_known 2 43 [.ref l0] w none q := by
  have z := OX8_known h
  unfold fX8_known at h
  rw [if_pos z] at h
  exact MT.of (by decide) (Nat.le_of_ble_eq_true rfl) rfl (EX8_known (LOX8_known FU) h)
/-! FractionRunModel.uses(II)V: frames 1, words 20 -/
abbrev mX8_uses : MR := (⟨"FractionRunModel", "uses", "(II)V"⟩, prog_10_method_23_code, 4, none)
theorem dX8_uses_0 : decode prog_10_method_23_code 0 = .ok (.iconst 0, 1) := by decide +kernel
theorem dX8_uses_1 : decode prog_10_method_23_code 1 = .ok (.istore_n 3, 1) := by decide +kernel
theorem dX8_uses_2 : decode prog_10_method_23_code 2 = .ok (.iload_n 3, 1) := by decide +kernel
theorem dX8_uses_3 : decode prog_10_method_23_code 3 = .ok (.bipush 6, 2) := by decide +kernel
theorem dX8_uses_5 : decode prog_10_method_23_code 5 = .ok (.if_icmp .ge 31, 3) := by decide +kernel
theorem dX8_uses_8 : decode prog_10_method_23_code 8 = .ok (.aload_n 0, 1) := by decide +kernel
theorem dX8_uses_9 : decode prog_10_method_23_code 9 = .ok (.getfield 25, 3) := by decide +kernel
theorem dX8_uses_12 : decode prog_10_method_23_code 12 = .ok (.iload_n 1, 1) := by decide +kernel
theorem dX8_uses_13 : decode prog_10_method_23_code 13 = .ok (.iload_n 3, 1) := by decide +kernel
theorem dX8_uses_14 : decode prog_10_method_23_code 14 = .ok (.iadd, 1) := by decide +kernel
theorem dX8_uses_15 : decode prog_10_method_23_code 15 = .ok (.dup2, 1) := by decide +kernel
theorem dX8_uses_16 : decode prog_10_method_23_code 16 = .ok (.iaload, 1) := by decide +kernel
theorem dX8_uses_17 : decode prog_10_method_23_code 17 = .ok (.aload_n 0, 1) := by decide +kernel
theorem dX8_uses_18 : decode prog_10_method_23_code 18 = .ok (.getfield 13, 3) := by decide +kernel
theorem dX8_uses_21 : decode prog_10_method_23_code 21 = .ok (.bipush 6, 2) := by decide +kernel
theorem dX8_uses_23 : decode prog_10_method_23_code 23 = .ok (.iload_n 2, 1) := by decide +kernel
theorem dX8_uses_24 : decode prog_10_method_23_code 24 = .ok (.imul, 1) := by decide +kernel
theorem dX8_uses_25 : decode prog_10_method_23_code 25 = .ok (.iload_n 3, 1) := by decide +kernel
theorem dX8_uses_26 : decode prog_10_method_23_code 26 = .ok (.iadd, 1) := by decide +kernel
theorem dX8_uses_27 : decode prog_10_method_23_code 27 = .ok (.iaload, 1) := by decide +kernel
theorem dX8_uses_28 : decode prog_10_method_23_code 28 = .ok (.iadd, 1) := by decide +kernel
theorem dX8_uses_29 : decode prog_10_method_23_code 29 = .ok (.iastore, 1) := by decide +kernel
theorem dX8_uses_30 : decode prog_10_method_23_code 30 = .ok (.iinc 3 1, 3) := by decide +kernel
theorem dX8_uses_33 : decode prog_10_method_23_code 33 = .ok (.goto (-31), 3) := by decide +kernel
theorem dX8_uses_36 : decode prog_10_method_23_code 36 = .ok (.aload_n 0, 1) := by decide +kernel
theorem dX8_uses_37 : decode prog_10_method_23_code 37 = .ok (.getfield 25, 3) := by decide +kernel
theorem dX8_uses_40 : decode prog_10_method_23_code 40 = .ok (.iload_n 1, 1) := by decide +kernel
theorem dX8_uses_41 : decode prog_10_method_23_code 41 = .ok (.bipush 15, 2) := by decide +kernel
theorem dX8_uses_43 : decode prog_10_method_23_code 43 = .ok (.iadd, 1) := by decide +kernel
theorem dX8_uses_44 : decode prog_10_method_23_code 44 = .ok (.dup2, 1) := by decide +kernel
theorem dX8_uses_45 : decode prog_10_method_23_code 45 = .ok (.iaload, 1) := by decide +kernel
theorem dX8_uses_46 : decode prog_10_method_23_code 46 = .ok (.iconst 1, 1) := by decide +kernel
theorem dX8_uses_47 : decode prog_10_method_23_code 47 = .ok (.iload_n 2, 1) := by decide +kernel
theorem dX8_uses_48 : decode prog_10_method_23_code 48 = .ok (.ishl, 1) := by decide +kernel
theorem dX8_uses_49 : decode prog_10_method_23_code 49 = .ok (.ior, 1) := by decide +kernel
theorem dX8_uses_50 : decode prog_10_method_23_code 50 = .ok (.iastore, 1) := by decide +kernel
theorem dX8_uses_51 : decode prog_10_method_23_code 51 = .ok (.return_, 1) := by decide +kernel
theorem okM_X8_uses : okM mX8_uses 2 := ⟨tw886, tw15, by decide, by decide, by decide +kernel⟩
abbrev KTX8_uses : Type := (XW → Nat → Int32 → Int32 → Int32 → Option XW)
def hX8_uses_2 (k : KTX8_uses) (w : XW) (l0 : Nat) (l1 : Int32) (l2 : Int32) (l3 : Int32) : Option XW :=
  if (6 : Int32) ≤ l3 then
  (gR w l0 8 7).bind fun x2 =>
  (aI w 0 x2 (l1 + (15 : Int32))).bind fun x5 =>
  (sI w 0 x2 (l1 + (15 : Int32)) (x5 ||| ((1 : Int32) <<< (l2 &&& 31)))).bind fun w8 =>
  some w8
  else
  (gR w l0 8 7).bind fun x11 =>
  (aI w 0 x11 (l1 + l3)).bind fun x14 =>
  (gR w l0 8 2).bind fun x17 =>
  (aI w 0 x17 (((6 : Int32) * l2) + l3)).bind fun x20 =>
  (sI w 0 x11 (l1 + l3) (x14 + x20)).bind fun w23 =>
  k w23 l0 l1 l2 (l3 + (1 : Int32))
theorem HX8_uses_2 {K : CX} {l : Launch} {n0 k0 : Nat} {k : KTX8_uses} (hk0 : ∀ (w : XW) (l0 : Nat) (l1 : Int32) (l2 : Int32) (l3 : Int32) (q : XW), k w l0 l1 l2 l3 = some q → WP K l mX8_uses 1 20 n0 k0 none q 2 [some (.ref l0), some (.int l1), some (.int l2), some (.int l3)] [] w) {w : XW} {l0 : Nat} {l1 : Int32} {l2 : Int32} {l3 : Int32} {q : XW} (h0 : hX8_uses_2 k w l0 l1 l2 l3 = some q) : WP K l mX8_uses 1 20 n0 k0 none q 2 [some (.ref l0), some (.int l1), some (.int l2), some (.int l3)] [] w := by
  unfold hX8_uses_2 at h0
  refine wp_iload_n dX8_uses_2 rfl ?_
  refine wp_bipush (v := (6 : Int32)) dX8_uses_3 (by decide) ?_
  refine wp_icmp_ge (tgt := 36) dX8_uses_5 (by decide) (fun c1 => ?_) (fun c1 => ?_)
  · rw [if_pos c1] at h0
    refine wp_aload_n dX8_uses_36 rfl ?_
    obtain ⟨x2, e4, h3⟩ := Option.bind_eq_some_iff.mp h0
    clear h0
    refine wp_getR okX8 (k := 7) (by decide) tw712 dX8_uses_37 e4 ?_
    refine wp_iload_n dX8_uses_40 rfl ?_
    refine wp_bipush (v := (15 : Int32)) dX8_uses_41 (by decide) ?_
    refine wp_iadd dX8_uses_43 ?_
    refine wp_dup2 dX8_uses_44 rfl rfl ?_
    obtain ⟨x5, e7, h6⟩ := Option.bind_eq_some_iff.mp h3
    clear h3
    refine wp_iald dX8_uses_45 e7 ?_
    refine wp_iconst (v := (1 : Int32)) dX8_uses_46 (by decide) ?_
    refine wp_iload_n dX8_uses_47 rfl ?_
    refine wp_ishl dX8_uses_48 ?_
    refine wp_ior dX8_uses_49 ?_
    obtain ⟨w8, e10, h9⟩ := Option.bind_eq_some_iff.mp h6
    clear h6
    refine wp_iast dX8_uses_50 e10 ?_
    cases h9
    exact wp_vret rfl dX8_uses_51
  · rw [if_neg c1] at h0
    refine wp_aload_n dX8_uses_8 rfl ?_
    obtain ⟨x11, e13, h12⟩ := Option.bind_eq_some_iff.mp h0
    clear h0
    refine wp_getR okX8 (k := 7) (by decide) tw712 dX8_uses_9 e13 ?_
    refine wp_iload_n dX8_uses_12 rfl ?_
    refine wp_iload_n dX8_uses_13 rfl ?_
    refine wp_iadd dX8_uses_14 ?_
    refine wp_dup2 dX8_uses_15 rfl rfl ?_
    obtain ⟨x14, e16, h15⟩ := Option.bind_eq_some_iff.mp h12
    clear h12
    refine wp_iald dX8_uses_16 e16 ?_
    refine wp_aload_n dX8_uses_17 rfl ?_
    obtain ⟨x17, e19, h18⟩ := Option.bind_eq_some_iff.mp h15
    clear h15
    refine wp_getR okX8 (k := 2) (by decide) tw707 dX8_uses_18 e19 ?_
    refine wp_bipush (v := (6 : Int32)) dX8_uses_21 (by decide) ?_
    refine wp_iload_n dX8_uses_23 rfl ?_
    refine wp_imul dX8_uses_24 ?_
    refine wp_iload_n dX8_uses_25 rfl ?_
    refine wp_iadd dX8_uses_26 ?_
    obtain ⟨x20, e22, h21⟩ := Option.bind_eq_some_iff.mp h18
    clear h18
    refine wp_iald dX8_uses_27 e22 ?_
    refine wp_iadd dX8_uses_28 ?_
    obtain ⟨w23, e25, h24⟩ := Option.bind_eq_some_iff.mp h21
    clear h21
    refine wp_iast dX8_uses_29 e25 ?_
    refine wp_iinc (v := (l3 + (1 : Int32))) (L1 := [some (.ref l0), some (.int l1), some (.int l2), some (.int (l3 + (1 : Int32)))]) dX8_uses_30 (Nat.le_of_ble_eq_true rfl) rfl (congrArg (fun z => l3 + z) (by decide)) rfl ?_
    refine wp_goto (tgt := 2) dX8_uses_33 (by decide) ?_
    exact WP.wk (hk0 _ _ _ _ _ _ h24) (And.intro rfl (And.intro rfl (And.intro rfl (And.intro rfl trivial))))
def eX8_uses (k : KTX8_uses) (w : XW) (l0 : Nat) (l1 : Int32) (l2 : Int32) : Option XW :=
  k w l0 l1 l2 (0 : Int32)
theorem EX8_uses {K : CX} {l : Launch} {n0 k0 : Nat} {k : KTX8_uses} (hk0 : ∀ (w : XW) (l0 : Nat) (l1 : Int32) (l2 : Int32) (l3 : Int32) (q : XW), k w l0 l1 l2 l3 = some q → WP K l mX8_uses 1 20 n0 k0 none q 2 [some (.ref l0), some (.int l1), some (.int l2), some (.int l3)] [] w) {w : XW} {l0 : Nat} {l1 : Int32} {l2 : Int32} {q : XW} (h0 : eX8_uses k w l0 l1 l2 = some q) : WP K l mX8_uses 1 20 n0 k0 none q 0 [some (.ref l0), some (.int l1), some (.int l2), none] [] w := by
  unfold eX8_uses at h0
  refine wp_iconst (v := (0 : Int32)) dX8_uses_0 (by decide) ?_
  refine wp_istore_n (L1 := [some (.ref l0), some (.int l1), some (.int l2), some (.int (0 : Int32))]) dX8_uses_1 (Nat.le_of_ble_eq_true rfl) rfl ?_
  exact WP.wk (hk0 _ _ _ _ _ _ h0) (And.intro rfl (And.intro rfl (And.intro rfl (And.intro rfl trivial))))
def loX8_uses : Nat → KTX8_uses
  | 0 => fun _ _ _ _ _ => none
  | n + 1 => hX8_uses_2 (loX8_uses n)
theorem LOX8_uses {K : CX} {l : Launch} {n0 k0 : Nat} : ∀ n : Nat, (∀ (w : XW) (l0 : Nat) (l1 : Int32) (l2 : Int32) (l3 : Int32) (q : XW), (loX8_uses n) w l0 l1 l2 l3 = some q → WP K l mX8_uses 1 20 n0 k0 none q 2 [some (.ref l0), some (.int l1), some (.int l2), some (.int l3)] [] w) := by
  intro n
  induction n with
  | zero => exact fun _ _ _ _ _ q h => (by cases h)
  | succ n ih => exact fun _ _ _ _ _ q h => HX8_uses_2 ih h
def fX8_uses (w : XW) (l0 : Nat) (l1 : Int32) (l2 : Int32) : Option XW := if isO w l0 8 = true then eX8_uses (loX8_uses FU) w l0 l1 l2 else none
theorem OX8_uses {w : XW} {l0 : Nat} {l1 : Int32} {l2 : Int32} {q : XW} (h : fX8_uses w l0 l1 l2 = some q) : isO w l0 8 = true := Decidable.byContradiction fun z => by unfold fX8_uses at h; rw [if_neg z] at h; cases h
theorem MX8_uses {K : CX} {l : Launch} {w : XW} {l0 : Nat} {l1 : Int32} {l2 : Int32} {q : XW} (h : fX8_uses w l0 l1 l2 = some q) : MT K l mX8_uses 1 20 [.ref l0, .int l1, .int l2] w none q := by
  have z := OX8_uses h
  unfold fX8_uses at h
  rw [if_pos z] at h
  exact MT.of (by decide) (Nat.le_of_ble_eq_true rfl) rfl (EX8_uses (LOX8_uses FU) h)
/-! FractionRunModel.step(I)I: frames 5, words 118 -/
abbrev mX8_step : MR := (⟨"FractionRunModel", "step", "(I)I"⟩, prog_10_method_24_code, 3, (some .int))
theorem dX8_step_0 : decode prog_10_method_24_code 0 = .ok (.aload_n 0, 1) := by decide +kernel
theorem dX8_step_1 : decode prog_10_method_24_code 1 = .ok (.iload_n 1, 1) := by decide +kernel
theorem dX8_step_2 : decode prog_10_method_24_code 2 = .ok (.iconst 0, 1) := by decide +kernel
theorem dX8_step_3 : decode prog_10_method_24_code 3 = .ok (.invokevirtual 145, 3) := by decide +kernel
theorem dX8_step_6 : decode prog_10_method_24_code 6 = .ok (.istore_n 2, 1) := by decide +kernel
theorem dX8_step_7 : decode prog_10_method_24_code 7 = .ok (.iload_n 2, 1) := by decide +kernel
theorem dX8_step_8 : decode prog_10_method_24_code 8 = .ok (.ifCond .lt 88, 3) := by decide +kernel
theorem dX8_step_11 : decode prog_10_method_24_code 11 = .ok (.aload_n 0, 1) := by decide +kernel
theorem dX8_step_12 : decode prog_10_method_24_code 12 = .ok (.iload_n 1, 1) := by decide +kernel
theorem dX8_step_13 : decode prog_10_method_24_code 13 = .ok (.iload_n 2, 1) := by decide +kernel
theorem dX8_step_14 : decode prog_10_method_24_code 14 = .ok (.invokevirtual 148, 3) := by decide +kernel
theorem dX8_step_17 : decode prog_10_method_24_code 17 = .ok (.aload_n 0, 1) := by decide +kernel
theorem dX8_step_18 : decode prog_10_method_24_code 18 = .ok (.aload_n 0, 1) := by decide +kernel
theorem dX8_step_19 : decode prog_10_method_24_code 19 = .ok (.getfield 7, 3) := by decide +kernel
theorem dX8_step_22 : decode prog_10_method_24_code 22 = .ok (.iload_n 2, 1) := by decide +kernel
theorem dX8_step_23 : decode prog_10_method_24_code 23 = .ok (.iaload, 1) := by decide +kernel
theorem dX8_step_24 : decode prog_10_method_24_code 24 = .ok (.iconst 3, 1) := by decide +kernel
theorem dX8_step_25 : decode prog_10_method_24_code 25 = .ok (.if_icmp .ne 16, 3) := by decide +kernel
theorem dX8_step_28 : decode prog_10_method_24_code 28 = .ok (.aload_n 0, 1) := by decide +kernel
theorem dX8_step_29 : decode prog_10_method_24_code 29 = .ok (.iload_n 1, 1) := by decide +kernel
theorem dX8_step_30 : decode prog_10_method_24_code 30 = .ok (.iload_n 2, 1) := by decide +kernel
theorem dX8_step_31 : decode prog_10_method_24_code 31 = .ok (.invokevirtual 139, 3) := by decide +kernel
theorem dX8_step_34 : decode prog_10_method_24_code 34 = .ok (.ifCond .eq 7, 3) := by decide +kernel
theorem dX8_step_37 : decode prog_10_method_24_code 37 = .ok (.iconst 2, 1) := by decide +kernel
theorem dX8_step_38 : decode prog_10_method_24_code 38 = .ok (.goto 4, 3) := by decide +kernel
theorem dX8_step_41 : decode prog_10_method_24_code 41 = .ok (.iconst 1, 1) := by decide +kernel
theorem dX8_step_42 : decode prog_10_method_24_code 42 = .ok (.putfield 152, 3) := by decide +kernel
theorem dX8_step_45 : decode prog_10_method_24_code 45 = .ok (.aload_n 0, 1) := by decide +kernel
theorem dX8_step_46 : decode prog_10_method_24_code 46 = .ok (.getfield 152, 3) := by decide +kernel
theorem dX8_step_49 : decode prog_10_method_24_code 49 = .ok (.iconst 2, 1) := by decide +kernel
theorem dX8_step_50 : decode prog_10_method_24_code 50 = .ok (.if_icmp .ne 9, 3) := by decide +kernel
theorem dX8_step_53 : decode prog_10_method_24_code 53 = .ok (.aload_n 0, 1) := by decide +kernel
theorem dX8_step_54 : decode prog_10_method_24_code 54 = .ok (.iload_n 1, 1) := by decide +kernel
theorem dX8_step_55 : decode prog_10_method_24_code 55 = .ok (.iload_n 2, 1) := by decide +kernel
theorem dX8_step_56 : decode prog_10_method_24_code 56 = .ok (.invokevirtual 148, 3) := by decide +kernel
theorem dX8_step_59 : decode prog_10_method_24_code 59 = .ok (.aload_n 0, 1) := by decide +kernel
theorem dX8_step_60 : decode prog_10_method_24_code 60 = .ok (.getfield 25, 3) := by decide +kernel
theorem dX8_step_63 : decode prog_10_method_24_code 63 = .ok (.iload_n 1, 1) := by decide +kernel
theorem dX8_step_64 : decode prog_10_method_24_code 64 = .ok (.bipush 16, 2) := by decide +kernel
theorem dX8_step_66 : decode prog_10_method_24_code 66 = .ok (.iadd, 1) := by decide +kernel
theorem dX8_step_67 : decode prog_10_method_24_code 67 = .ok (.dup2, 1) := by decide +kernel
theorem dX8_step_68 : decode prog_10_method_24_code 68 = .ok (.iaload, 1) := by decide +kernel
theorem dX8_step_69 : decode prog_10_method_24_code 69 = .ok (.iconst 1, 1) := by decide +kernel
theorem dX8_step_70 : decode prog_10_method_24_code 70 = .ok (.iadd, 1) := by decide +kernel
theorem dX8_step_71 : decode prog_10_method_24_code 71 = .ok (.iastore, 1) := by decide +kernel
theorem dX8_step_72 : decode prog_10_method_24_code 72 = .ok (.aload_n 0, 1) := by decide +kernel
theorem dX8_step_73 : decode prog_10_method_24_code 73 = .ok (.getfield 25, 3) := by decide +kernel
theorem dX8_step_76 : decode prog_10_method_24_code 76 = .ok (.iload_n 1, 1) := by decide +kernel
theorem dX8_step_77 : decode prog_10_method_24_code 77 = .ok (.bipush 17, 2) := by decide +kernel
theorem dX8_step_79 : decode prog_10_method_24_code 79 = .ok (.iadd, 1) := by decide +kernel
theorem dX8_step_80 : decode prog_10_method_24_code 80 = .ok (.aload_n 0, 1) := by decide +kernel
theorem dX8_step_81 : decode prog_10_method_24_code 81 = .ok (.getfield 7, 3) := by decide +kernel
theorem dX8_step_84 : decode prog_10_method_24_code 84 = .ok (.iload_n 2, 1) := by decide +kernel
theorem dX8_step_85 : decode prog_10_method_24_code 85 = .ok (.iaload, 1) := by decide +kernel
theorem dX8_step_86 : decode prog_10_method_24_code 86 = .ok (.iconst 5, 1) := by decide +kernel
theorem dX8_step_87 : decode prog_10_method_24_code 87 = .ok (.if_icmp .ne 7, 3) := by decide +kernel
theorem dX8_step_90 : decode prog_10_method_24_code 90 = .ok (.iconst 1, 1) := by decide +kernel
theorem dX8_step_91 : decode prog_10_method_24_code 91 = .ok (.goto 4, 3) := by decide +kernel
theorem dX8_step_94 : decode prog_10_method_24_code 94 = .ok (.iconst 0, 1) := by decide +kernel
theorem dX8_step_95 : decode prog_10_method_24_code 95 = .ok (.iastore, 1) := by decide +kernel
theorem dX8_step_96 : decode prog_10_method_24_code 96 = .ok (.iload_n 2, 1) := by decide +kernel
theorem dX8_step_97 : decode prog_10_method_24_code 97 = .ok (.ireturn, 1) := by decide +kernel
theorem okM_X8_step : okM mX8_step 1 := ⟨tw882, tw15, by decide, by decide, by decide +kernel⟩
def bX8_step_96 (w : XW) (l2 : Int32) : Option (Int32 × XW) :=
  some (l2, w)
theorem BX8_step_96 {K : CX} {l : Launch} {n0 k0 : Nat} {w : XW} {l2 : Int32} {q : Int32 × XW} (h0 : bX8_step_96 w l2 = some q) : WP K l mX8_step 5 118 n0 k0 (some (.int q.1)) q.2 96 [none, none, some (.int l2)] [] w := by
  unfold bX8_step_96 at h0
  refine wp_iload_n dX8_step_96 rfl ?_
  cases h0
  exact wp_iret rfl dX8_step_97
def bX8_step_95 (w : XW) (l2 : Int32) (s0 : Nat) (s1 : Int32) (s2 : Int32) : Option (Int32 × XW) :=
  (sI w 0 s0 s1 s2).bind fun w1 =>
  bX8_step_96 w1 l2
theorem BX8_step_95 {K : CX} {l : Launch} {n0 k0 : Nat} {w : XW} {l2 : Int32} {s0 : Nat} {s1 : Int32} {s2 : Int32} {q : Int32 × XW} (h0 : bX8_step_95 w l2 s0 s1 s2 = some q) : WP K l mX8_step 5 118 n0 k0 (some (.int q.1)) q.2 95 [none, none, some (.int l2)] [.int s2, .int s1, .ref s0] w := by
  unfold bX8_step_95 at h0
  obtain ⟨w1, e3, h2⟩ := Option.bind_eq_some_iff.mp h0
  clear h0
  refine wp_iast dX8_step_95 e3 ?_
  exact WP.wk (BX8_step_96 h2) (And.intro rfl trivial)
def bX8_step_59 (w : XW) (l0 : Nat) (l1 : Int32) (l2 : Int32) : Option (Int32 × XW) :=
  (gR w l0 8 7).bind fun x1 =>
  (aI w 0 x1 (l1 + (16 : Int32))).bind fun x4 =>
  (sI w 0 x1 (l1 + (16 : Int32)) (x4 + (1 : Int32))).bind fun w7 =>
  (gR w7 l0 8 7).bind fun x10 =>
  (gR w7 l0 8 1).bind fun x13 =>
  (aI w7 0 x13 l2).bind fun x16 =>
  if x16 = (5 : Int32) then
  bX8_step_95 w7 l2 x10 (l1 + (17 : Int32)) (1 : Int32)
  else
  bX8_step_95 w7 l2 x10 (l1 + (17 : Int32)) (0 : Int32)
theorem BX8_step_59 {K : CX} {l : Launch} {n0 k0 : Nat} {w : XW} {l0 : Nat} {l1 : Int32} {l2 : Int32} {q : Int32 × XW} (h0 : bX8_step_59 w l0 l1 l2 = some q) : WP K l mX8_step 5 118 n0 k0 (some (.int q.1)) q.2 59 [some (.ref l0), some (.int l1), some (.int l2)] [] w := by
  unfold bX8_step_59 at h0
  refine wp_aload_n dX8_step_59 rfl ?_
  obtain ⟨x1, e3, h2⟩ := Option.bind_eq_some_iff.mp h0
  clear h0
  refine wp_getR okX8 (k := 7) (by decide) tw712 dX8_step_60 e3 ?_
  refine wp_iload_n dX8_step_63 rfl ?_
  refine wp_bipush (v := (16 : Int32)) dX8_step_64 (by decide) ?_
  refine wp_iadd dX8_step_66 ?_
  refine wp_dup2 dX8_step_67 rfl rfl ?_
  obtain ⟨x4, e6, h5⟩ := Option.bind_eq_some_iff.mp h2
  clear h2
  refine wp_iald dX8_step_68 e6 ?_
  refine wp_iconst (v := (1 : Int32)) dX8_step_69 (by decide) ?_
  refine wp_iadd dX8_step_70 ?_
  obtain ⟨w7, e9, h8⟩ := Option.bind_eq_some_iff.mp h5
  clear h5
  refine wp_iast dX8_step_71 e9 ?_
  refine wp_aload_n dX8_step_72 rfl ?_
  obtain ⟨x10, e12, h11⟩ := Option.bind_eq_some_iff.mp h8
  clear h8
  refine wp_getR okX8 (k := 7) (by decide) tw712 dX8_step_73 e12 ?_
  refine wp_iload_n dX8_step_76 rfl ?_
  refine wp_bipush (v := (17 : Int32)) dX8_step_77 (by decide) ?_
  refine wp_iadd dX8_step_79 ?_
  refine wp_aload_n dX8_step_80 rfl ?_
  obtain ⟨x13, e15, h14⟩ := Option.bind_eq_some_iff.mp h11
  clear h11
  refine wp_getR okX8 (k := 1) (by decide) tw706 dX8_step_81 e15 ?_
  refine wp_iload_n dX8_step_84 rfl ?_
  obtain ⟨x16, e18, h17⟩ := Option.bind_eq_some_iff.mp h14
  clear h14
  refine wp_iald dX8_step_85 e18 ?_
  refine wp_iconst (v := (5 : Int32)) dX8_step_86 (by decide) ?_
  refine wp_icmp_ne (tgt := 94) dX8_step_87 (by decide) (fun c19 => ?_) (fun c19 => ?_)
  · rw [if_neg c19] at h17
    refine wp_iconst (v := (0 : Int32)) dX8_step_94 (by decide) ?_
    exact WP.wk (BX8_step_95 h17) (And.intro rfl trivial)
  · rw [if_pos c19] at h17
    refine wp_iconst (v := (1 : Int32)) dX8_step_90 (by decide) ?_
    refine wp_goto (tgt := 95) dX8_step_91 (by decide) ?_
    exact WP.wk (BX8_step_95 h17) (And.intro rfl trivial)
def bX8_step_42 (w : XW) (l0 : Nat) (l1 : Int32) (l2 : Int32) (s0 : Nat) (s1 : Int32) : Option (Int32 × XW) :=
  (pV w s0 8 18 (.int s1)).bind fun w1 =>
  (gI w1 l0 8 18).bind fun x4 =>
  if x4 = (2 : Int32) then
  (fX8_uses w1 l0 l1 l2).bind fun q8 =>
  bX8_step_59 q8 l0 l1 l2
  else
  bX8_step_59 w1 l0 l1 l2
theorem BX8_step_42 {K : CX} {l : Launch} {n0 k0 : Nat} {w : XW} {l0 : Nat} {l1 : Int32} {l2 : Int32} {s0 : Nat} {s1 : Int32} {q : Int32 × XW} (h0 : bX8_step_42 w l0 l1 l2 s0 s1 = some q) : WP K l mX8_step 5 118 n0 k0 (some (.int q.1)) q.2 42 [some (.ref l0), some (.int l1), some (.int l2)] [.int s1, .ref s0] w := by
  unfold bX8_step_42 at h0
  obtain ⟨w1, e3, h2⟩ := Option.bind_eq_some_iff.mp h0
  clear h0
  refine wp_putV okX8 (k := 18) (by decide) rfl tw723 dX8_step_42 rfl rfl e3 ?_
  refine wp_aload_n dX8_step_45 rfl ?_
  obtain ⟨x4, e6, h5⟩ := Option.bind_eq_some_iff.mp h2
  clear h2
  refine wp_getI okX8 (k := 18) (by decide) tw723 dX8_step_46 e6 ?_
  refine wp_iconst (v := (2 : Int32)) dX8_step_49 (by decide) ?_
  refine wp_icmp_ne (tgt := 59) dX8_step_50 (by decide) (fun c7 => ?_) (fun c7 => ?_)
  · rw [if_neg c7] at h5
    exact WP.wk (BX8_step_59 h5) (And.intro rfl (And.intro rfl (And.intro rfl trivial)))
  · rw [if_pos c7] at h5
    refine wp_aload_n dX8_step_53 rfl ?_
    refine wp_iload_n dX8_step_54 rfl ?_
    refine wp_iload_n dX8_step_55 rfl ?_
    obtain ⟨q8, e10, h9⟩ := Option.bind_eq_some_iff.mp h5
    clear h5
    refine wp_Vv (As := [.int l1, .int l2]) (S := []) okM_X8_uses tw885 twP_X8_uses tw883 (OX8_uses e10) rfl rfl rfl ⟨(Nat.le_of_ble_eq_true rfl), (Nat.le_of_ble_eq_true rfl)⟩ (Nat.le_of_ble_eq_true rfl) rfl dX8_step_56 (MX8_uses e10) ?_
    exact WP.wk (BX8_step_59 h9) (And.intro rfl (And.intro rfl (And.intro rfl trivial)))
def bX8_step_41 (w : XW) (l0 : Nat) (l1 : Int32) (l2 : Int32) (s0 : Nat) : Option (Int32 × XW) :=
  bX8_step_42 w l0 l1 l2 s0 (1 : Int32)
theorem BX8_step_41 {K : CX} {l : Launch} {n0 k0 : Nat} {w : XW} {l0 : Nat} {l1 : Int32} {l2 : Int32} {s0 : Nat} {q : Int32 × XW} (h0 : bX8_step_41 w l0 l1 l2 s0 = some q) : WP K l mX8_step 5 118 n0 k0 (some (.int q.1)) q.2 41 [some (.ref l0), some (.int l1), some (.int l2)] [.ref s0] w := by
  unfold bX8_step_41 at h0
  refine wp_iconst (v := (1 : Int32)) dX8_step_41 (by decide) ?_
  exact WP.wk (BX8_step_42 h0) (And.intro rfl (And.intro rfl (And.intro rfl trivial)))
def eX8_step (w : XW) (l0 : Nat) (l1 : Int32) : Option (Int32 × XW) :=
  (fX8_who w l0 l1 (0 : Int32)).bind fun q1 =>
  if q1.1 < 0 then
  bX8_step_96 q1.2 q1.1
  else
  (fX8_uses q1.2 l0 l1 q1.1).bind fun q5 =>
  (gR q5 l0 8 1).bind fun x8 =>
  (aI q5 0 x8 q1.1).bind fun x11 =>
  if x11 = (3 : Int32) then
  (fX8_fits q5 l0 l1 q1.1).bind fun q15 =>
  if q15.1 = 0 then
  bX8_step_41 q15.2 l0 l1 q1.1 l0
  else
  bX8_step_42 q15.2 l0 l1 q1.1 l0 (2 : Int32)
  else
  bX8_step_41 q5 l0 l1 q1.1 l0
theorem EX8_step {K : CX} {l : Launch} {n0 k0 : Nat} {w : XW} {l0 : Nat} {l1 : Int32} {q : Int32 × XW} (h0 : eX8_step w l0 l1 = some q) : WP K l mX8_step 5 118 n0 k0 (some (.int q.1)) q.2 0 [some (.ref l0), some (.int l1), none] [] w := by
  unfold eX8_step at h0
  refine wp_aload_n dX8_step_0 rfl ?_
  refine wp_iload_n dX8_step_1 rfl ?_
  refine wp_iconst (v := (0 : Int32)) dX8_step_2 (by decide) ?_
  obtain ⟨q1, e3, h2⟩ := Option.bind_eq_some_iff.mp h0
  clear h0
  refine wp_Vi (As := [.int l1, .int (0 : Int32)]) (S := []) okM_X8_who tw869 twP_X8_who tw867 (OX8_who e3) rfl rfl rfl ⟨(Nat.le_of_ble_eq_true rfl), (Nat.le_of_ble_eq_true rfl)⟩ (Nat.le_of_ble_eq_true rfl) rfl dX8_step_3 (MX8_who e3) ?_
  refine wp_istore_n (L1 := [some (.ref l0), some (.int l1), some (.int q1.1)]) dX8_step_6 (Nat.le_of_ble_eq_true rfl) rfl ?_
  refine wp_iload_n dX8_step_7 rfl ?_
  refine wp_if_lt (tgt := 96) dX8_step_8 (by decide) (fun c4 => ?_) (fun c4 => ?_)
  · rw [if_pos c4] at h2
    exact WP.wk (BX8_step_96 h2) (And.intro rfl trivial)
  · rw [if_neg c4] at h2
    refine wp_aload_n dX8_step_11 rfl ?_
    refine wp_iload_n dX8_step_12 rfl ?_
    refine wp_iload_n dX8_step_13 rfl ?_
    obtain ⟨q5, e7, h6⟩ := Option.bind_eq_some_iff.mp h2
    clear h2
    refine wp_Vv (As := [.int l1, .int q1.1]) (S := []) okM_X8_uses tw885 twP_X8_uses tw883 (OX8_uses e7) rfl rfl rfl ⟨(Nat.le_of_ble_eq_true rfl), (Nat.le_of_ble_eq_true rfl)⟩ (Nat.le_of_ble_eq_true rfl) rfl dX8_step_14 (MX8_uses e7) ?_
    refine wp_aload_n dX8_step_17 rfl ?_
    refine wp_aload_n dX8_step_18 rfl ?_
    obtain ⟨x8, e10, h9⟩ := Option.bind_eq_some_iff.mp h6
    clear h6
    refine wp_getR okX8 (k := 1) (by decide) tw706 dX8_step_19 e10 ?_
    refine wp_iload_n dX8_step_22 rfl ?_
    obtain ⟨x11, e13, h12⟩ := Option.bind_eq_some_iff.mp h9
    clear h9
    refine wp_iald dX8_step_23 e13 ?_
    refine wp_iconst (v := (3 : Int32)) dX8_step_24 (by decide) ?_
    refine wp_icmp_ne (tgt := 41) dX8_step_25 (by decide) (fun c14 => ?_) (fun c14 => ?_)
    · rw [if_neg c14] at h12
      exact WP.wk (BX8_step_41 h12) (And.intro rfl (And.intro rfl (And.intro rfl trivial)))
    · rw [if_pos c14] at h12
      refine wp_aload_n dX8_step_28 rfl ?_
      refine wp_iload_n dX8_step_29 rfl ?_
      refine wp_iload_n dX8_step_30 rfl ?_
      obtain ⟨q15, e17, h16⟩ := Option.bind_eq_some_iff.mp h12
      clear h12
      refine wp_Vi (As := [.int l1, .int q1.1]) (S := [.ref l0]) okM_X8_fits tw855 twP_X8_fits tw853 (OX8_fits e17) rfl rfl rfl ⟨(Nat.le_of_ble_eq_true rfl), (Nat.le_of_ble_eq_true rfl)⟩ (Nat.le_of_ble_eq_true rfl) rfl dX8_step_31 (MX8_fits e17) ?_
      refine wp_if_eq (tgt := 41) dX8_step_34 (by decide) (fun c18 => ?_) (fun c18 => ?_)
      · rw [if_pos c18] at h16
        exact WP.wk (BX8_step_41 h16) (And.intro rfl (And.intro rfl (And.intro rfl trivial)))
      · rw [if_neg c18] at h16
        refine wp_iconst (v := (2 : Int32)) dX8_step_37 (by decide) ?_
        refine wp_goto (tgt := 42) dX8_step_38 (by decide) ?_
        exact WP.wk (BX8_step_42 h16) (And.intro rfl (And.intro rfl (And.intro rfl trivial)))
def fX8_step (w : XW) (l0 : Nat) (l1 : Int32) : Option (Int32 × XW) := if isO w l0 8 = true then eX8_step w l0 l1 else none
theorem OX8_step {w : XW} {l0 : Nat} {l1 : Int32} {q : Int32 × XW} (h : fX8_step w l0 l1 = some q) : isO w l0 8 = true := Decidable.byContradiction fun z => by unfold fX8_step at h; rw [if_neg z] at h; cases h
theorem MX8_step {K : CX} {l : Launch} {w : XW} {l0 : Nat} {l1 : Int32} {q : Int32 × XW} (h : fX8_step w l0 l1 = some q) : MT K l mX8_step 5 118 [.ref l0, .int l1] w (some (.int q.1)) q.2 := by
  have z := OX8_step h
  unfold fX8_step at h
  rw [if_pos z] at h
  exact MT.of (by decide) (Nat.le_of_ble_eq_true rfl) rfl (EX8_step h)
/-! FractionRunModel.steps(I)I: frames 6, words 140 -/
abbrev mX8_steps : MR := (⟨"FractionRunModel", "steps", "(I)I"⟩, prog_10_method_32_code, 3, (some .int))
theorem dX8_steps_0 : decode prog_10_method_32_code 0 = .ok (.iload_n 1, 1) := by decide +kernel
theorem dX8_steps_1 : decode prog_10_method_32_code 1 = .ok (.i2l, 1) := by decide +kernel
theorem dX8_steps_2 : decode prog_10_method_32_code 2 = .ok (.lconst 1, 1) := by decide +kernel
theorem dX8_steps_3 : decode prog_10_method_32_code 3 = .ok (.ldc2_w 170, 3) := by decide +kernel
theorem dX8_steps_6 : decode prog_10_method_32_code 6 = .ok (.invokestatic 88, 3) := by decide +kernel
theorem dX8_steps_9 : decode prog_10_method_32_code 9 = .ok (.ifCond .ne 5, 3) := by decide +kernel
theorem dX8_steps_12 : decode prog_10_method_32_code 12 = .ok (.iconst (-1), 1) := by decide +kernel
theorem dX8_steps_13 : decode prog_10_method_32_code 13 = .ok (.ireturn, 1) := by decide +kernel
theorem dX8_steps_14 : decode prog_10_method_32_code 14 = .ok (.aload_n 0, 1) := by decide +kernel
theorem dX8_steps_15 : decode prog_10_method_32_code 15 = .ok (.iconst 0, 1) := by decide +kernel
theorem dX8_steps_16 : decode prog_10_method_32_code 16 = .ok (.iconst 0, 1) := by decide +kernel
theorem dX8_steps_17 : decode prog_10_method_32_code 17 = .ok (.invokevirtual 145, 3) := by decide +kernel
theorem dX8_steps_20 : decode prog_10_method_32_code 20 = .ok (.ifCond .lt 16, 3) := by decide +kernel
theorem dX8_steps_23 : decode prog_10_method_32_code 23 = .ok (.aload_n 0, 1) := by decide +kernel
theorem dX8_steps_24 : decode prog_10_method_32_code 24 = .ok (.getfield 25, 3) := by decide +kernel
theorem dX8_steps_27 : decode prog_10_method_32_code 27 = .ok (.bipush 16, 2) := by decide +kernel
theorem dX8_steps_29 : decode prog_10_method_32_code 29 = .ok (.iaload, 1) := by decide +kernel
theorem dX8_steps_30 : decode prog_10_method_32_code 30 = .ok (.sipush 999, 3) := by decide +kernel
theorem dX8_steps_33 : decode prog_10_method_32_code 33 = .ok (.if_icmp .lt 6, 3) := by decide +kernel
theorem dX8_steps_36 : decode prog_10_method_32_code 36 = .ok (.bipush (-2), 2) := by decide +kernel
theorem dX8_steps_38 : decode prog_10_method_32_code 38 = .ok (.ireturn, 1) := by decide +kernel
theorem dX8_steps_39 : decode prog_10_method_32_code 39 = .ok (.aload_n 0, 1) := by decide +kernel
theorem dX8_steps_40 : decode prog_10_method_32_code 40 = .ok (.invokevirtual 172, 3) := by decide +kernel
theorem dX8_steps_43 : decode prog_10_method_32_code 43 = .ok (.iconst 0, 1) := by decide +kernel
theorem dX8_steps_44 : decode prog_10_method_32_code 44 = .ok (.istore_n 2, 1) := by decide +kernel
theorem dX8_steps_45 : decode prog_10_method_32_code 45 = .ok (.iload_n 2, 1) := by decide +kernel
theorem dX8_steps_46 : decode prog_10_method_32_code 46 = .ok (.iload_n 1, 1) := by decide +kernel
theorem dX8_steps_47 : decode prog_10_method_32_code 47 = .ok (.if_icmp .ge 30, 3) := by decide +kernel
theorem dX8_steps_50 : decode prog_10_method_32_code 50 = .ok (.aload_n 0, 1) := by decide +kernel
theorem dX8_steps_51 : decode prog_10_method_32_code 51 = .ok (.getfield 25, 3) := by decide +kernel
theorem dX8_steps_54 : decode prog_10_method_32_code 54 = .ok (.bipush 16, 2) := by decide +kernel
theorem dX8_steps_56 : decode prog_10_method_32_code 56 = .ok (.iaload, 1) := by decide +kernel
theorem dX8_steps_57 : decode prog_10_method_32_code 57 = .ok (.sipush 999, 3) := by decide +kernel
theorem dX8_steps_60 : decode prog_10_method_32_code 60 = .ok (.if_icmp .ge 17, 3) := by decide +kernel
theorem dX8_steps_63 : decode prog_10_method_32_code 63 = .ok (.aload_n 0, 1) := by decide +kernel
theorem dX8_steps_64 : decode prog_10_method_32_code 64 = .ok (.iconst 0, 1) := by decide +kernel
theorem dX8_steps_65 : decode prog_10_method_32_code 65 = .ok (.invokevirtual 175, 3) := by decide +kernel
theorem dX8_steps_68 : decode prog_10_method_32_code 68 = .ok (.ifCond .lt 9, 3) := by decide +kernel
theorem dX8_steps_71 : decode prog_10_method_32_code 71 = .ok (.iinc 2 1, 3) := by decide +kernel
theorem dX8_steps_74 : decode prog_10_method_32_code 74 = .ok (.goto (-29), 3) := by decide +kernel
theorem dX8_steps_77 : decode prog_10_method_32_code 77 = .ok (.iload_n 2, 1) := by decide +kernel
theorem dX8_steps_78 : decode prog_10_method_32_code 78 = .ok (.ireturn, 1) := by decide +kernel
theorem okM_X8_steps : okM mX8_steps 1 := ⟨tw865, tw15, by decide, by decide, by decide +kernel⟩
abbrev KTX8_steps : Type := (XW → Nat → Int32 → Int32 → Option (Int32 × XW))
def bX8_steps_77 (k : KTX8_steps) (w : XW) (l2 : Int32) : Option (Int32 × XW) :=
  some (l2, w)
theorem BX8_steps_77 {K : CX} {l : Launch} {n0 k0 : Nat} {k : KTX8_steps} (hk0 : ∀ (w : XW) (l0 : Nat) (l1 : Int32) (l2 : Int32) (q : Int32 × XW), k w l0 l1 l2 = some q → WP K l mX8_steps 6 140 n0 k0 (some (.int q.1)) q.2 45 [some (.ref l0), some (.int l1), some (.int l2)] [] w) {w : XW} {l2 : Int32} {q : Int32 × XW} (h0 : bX8_steps_77 k w l2 = some q) : WP K l mX8_steps 6 140 n0 k0 (some (.int q.1)) q.2 77 [none, none, some (.int l2)] [] w := by
  unfold bX8_steps_77 at h0
  refine wp_iload_n dX8_steps_77 rfl ?_
  cases h0
  exact wp_iret rfl dX8_steps_78
def bX8_steps_36 (k : KTX8_steps) (w : XW) : Option (Int32 × XW) :=
  some ((-2 : Int32), w)
theorem BX8_steps_36 {K : CX} {l : Launch} {n0 k0 : Nat} {k : KTX8_steps} (hk0 : ∀ (w : XW) (l0 : Nat) (l1 : Int32) (l2 : Int32) (q : Int32 × XW), k w l0 l1 l2 = some q → WP K l mX8_steps 6 140 n0 k0 (some (.int q.1)) q.2 45 [some (.ref l0), some (.int l1), some (.int l2)] [] w) {w : XW} {q : Int32 × XW} (h0 : bX8_steps_36 k w = some q) : WP K l mX8_steps 6 140 n0 k0 (some (.int q.1)) q.2 36 [none, none, none] [] w := by
  unfold bX8_steps_36 at h0
  refine wp_bipush (v := (-2 : Int32)) dX8_steps_36 (by decide) ?_
  cases h0
  exact wp_iret rfl dX8_steps_38
def hX8_steps_45 (k : KTX8_steps) (w : XW) (l0 : Nat) (l1 : Int32) (l2 : Int32) : Option (Int32 × XW) :=
  if l1 ≤ l2 then
  bX8_steps_77 k w l2
  else
  (gR w l0 8 7).bind fun x2 =>
  (aI w 0 x2 (16 : Int32)).bind fun x5 =>
  if (999 : Int32) ≤ x5 then
  bX8_steps_77 k w l2
  else
  (fX8_step w l0 (0 : Int32)).bind fun q9 =>
  if q9.1 < 0 then
  bX8_steps_77 k q9.2 l2
  else
  k q9.2 l0 l1 (l2 + (1 : Int32))
theorem HX8_steps_45 {K : CX} {l : Launch} {n0 k0 : Nat} {k : KTX8_steps} (hk0 : ∀ (w : XW) (l0 : Nat) (l1 : Int32) (l2 : Int32) (q : Int32 × XW), k w l0 l1 l2 = some q → WP K l mX8_steps 6 140 n0 k0 (some (.int q.1)) q.2 45 [some (.ref l0), some (.int l1), some (.int l2)] [] w) {w : XW} {l0 : Nat} {l1 : Int32} {l2 : Int32} {q : Int32 × XW} (h0 : hX8_steps_45 k w l0 l1 l2 = some q) : WP K l mX8_steps 6 140 n0 k0 (some (.int q.1)) q.2 45 [some (.ref l0), some (.int l1), some (.int l2)] [] w := by
  unfold hX8_steps_45 at h0
  refine wp_iload_n dX8_steps_45 rfl ?_
  refine wp_iload_n dX8_steps_46 rfl ?_
  refine wp_icmp_ge (tgt := 77) dX8_steps_47 (by decide) (fun c1 => ?_) (fun c1 => ?_)
  · rw [if_pos c1] at h0
    exact WP.wk (BX8_steps_77 hk0 h0) (And.intro rfl trivial)
  · rw [if_neg c1] at h0
    refine wp_aload_n dX8_steps_50 rfl ?_
    obtain ⟨x2, e4, h3⟩ := Option.bind_eq_some_iff.mp h0
    clear h0
    refine wp_getR okX8 (k := 7) (by decide) tw712 dX8_steps_51 e4 ?_
    refine wp_bipush (v := (16 : Int32)) dX8_steps_54 (by decide) ?_
    obtain ⟨x5, e7, h6⟩ := Option.bind_eq_some_iff.mp h3
    clear h3
    refine wp_iald dX8_steps_56 e7 ?_
    refine wp_sipush (v := (999 : Int32)) dX8_steps_57 (by decide) ?_
    refine wp_icmp_ge (tgt := 77) dX8_steps_60 (by decide) (fun c8 => ?_) (fun c8 => ?_)
    · rw [if_pos c8] at h6
      exact WP.wk (BX8_steps_77 hk0 h6) (And.intro rfl trivial)
    · rw [if_neg c8] at h6
      refine wp_aload_n dX8_steps_63 rfl ?_
      refine wp_iconst (v := (0 : Int32)) dX8_steps_64 (by decide) ?_
      obtain ⟨q9, e11, h10⟩ := Option.bind_eq_some_iff.mp h6
      clear h6
      refine wp_Vi (As := [.int (0 : Int32)]) (S := []) okM_X8_step tw881 twP_X8_step tw879 (OX8_step e11) rfl rfl rfl ⟨(Nat.le_of_ble_eq_true rfl), (Nat.le_of_ble_eq_true rfl)⟩ (Nat.le_of_ble_eq_true rfl) rfl dX8_steps_65 (MX8_step e11) ?_
      refine wp_if_lt (tgt := 77) dX8_steps_68 (by decide) (fun c12 => ?_) (fun c12 => ?_)
      · rw [if_pos c12] at h10
        exact WP.wk (BX8_steps_77 hk0 h10) (And.intro rfl trivial)
      · rw [if_neg c12] at h10
        refine wp_iinc (v := (l2 + (1 : Int32))) (L1 := [some (.ref l0), some (.int l1), some (.int (l2 + (1 : Int32)))]) dX8_steps_71 (Nat.le_of_ble_eq_true rfl) rfl (congrArg (fun z => l2 + z) (by decide)) rfl ?_
        refine wp_goto (tgt := 45) dX8_steps_74 (by decide) ?_
        exact WP.wk (hk0 _ _ _ _ _ h10) (And.intro rfl (And.intro rfl (And.intro rfl trivial)))
def eX8_steps (k : KTX8_steps) (w : XW) (l0 : Nat) (l1 : Int32) : Option (Int32 × XW) :=
  (fX8_in w (l1.toInt64) (1 : Int64) (50 : Int64)).bind fun q1 =>
  if q1.1 = 0 then
  some ((-1 : Int32), q1.2)
  else
  (fX8_who q1.2 l0 (0 : Int32) (0 : Int32)).bind fun q5 =>
  if q5.1 < 0 then
  bX8_steps_36 k q5.2
  else
  (gR q5.2 l0 8 7).bind fun x9 =>
  (aI q5.2 0 x9 (16 : Int32)).bind fun x12 =>
  if x12 < (999 : Int32) then
  (fX8_known q5.2 l0).bind fun q16 =>
  k q16 l0 l1 (0 : Int32)
  else
  bX8_steps_36 k q5.2
theorem EX8_steps {K : CX} {l : Launch} {n0 k0 : Nat} {k : KTX8_steps} (hk0 : ∀ (w : XW) (l0 : Nat) (l1 : Int32) (l2 : Int32) (q : Int32 × XW), k w l0 l1 l2 = some q → WP K l mX8_steps 6 140 n0 k0 (some (.int q.1)) q.2 45 [some (.ref l0), some (.int l1), some (.int l2)] [] w) {w : XW} {l0 : Nat} {l1 : Int32} {q : Int32 × XW} (h0 : eX8_steps k w l0 l1 = some q) : WP K l mX8_steps 6 140 n0 k0 (some (.int q.1)) q.2 0 [some (.ref l0), some (.int l1), none] [] w := by
  unfold eX8_steps at h0
  refine wp_iload_n dX8_steps_0 rfl ?_
  refine wp_i2l dX8_steps_1 ?_
  refine wp_lconst (v := (1 : Int64)) dX8_steps_2 (by decide) ?_
  refine wp_ldc2 tw866 dX8_steps_3 ?_
  obtain ⟨q1, e3, h2⟩ := Option.bind_eq_some_iff.mp h0
  clear h0
  refine wp_Si (As := [.long (l1.toInt64), .long (1 : Int64), .long (50 : Int64)]) (S := []) okM_X8_in tw785 tw784 rfl ⟨(Nat.le_of_ble_eq_true rfl), (Nat.le_of_ble_eq_true rfl)⟩ (Nat.le_of_ble_eq_true rfl) rfl dX8_steps_6 (MX8_in e3) ?_
  refine wp_if_ne (tgt := 14) dX8_steps_9 (by decide) (fun c4 => ?_) (fun c4 => ?_)
  · rw [if_neg c4] at h2
    refine wp_aload_n dX8_steps_14 rfl ?_
    refine wp_iconst (v := (0 : Int32)) dX8_steps_15 (by decide) ?_
    refine wp_iconst (v := (0 : Int32)) dX8_steps_16 (by decide) ?_
    obtain ⟨q5, e7, h6⟩ := Option.bind_eq_some_iff.mp h2
    clear h2
    refine wp_Vi (As := [.int (0 : Int32), .int (0 : Int32)]) (S := []) okM_X8_who tw869 twP_X8_who tw867 (OX8_who e7) rfl rfl rfl ⟨(Nat.le_of_ble_eq_true rfl), (Nat.le_of_ble_eq_true rfl)⟩ (Nat.le_of_ble_eq_true rfl) rfl dX8_steps_17 (MX8_who e7) ?_
    refine wp_if_lt (tgt := 36) dX8_steps_20 (by decide) (fun c8 => ?_) (fun c8 => ?_)
    · rw [if_pos c8] at h6
      exact WP.wk (BX8_steps_36 hk0 h6) trivial
    · rw [if_neg c8] at h6
      refine wp_aload_n dX8_steps_23 rfl ?_
      obtain ⟨x9, e11, h10⟩ := Option.bind_eq_some_iff.mp h6
      clear h6
      refine wp_getR okX8 (k := 7) (by decide) tw712 dX8_steps_24 e11 ?_
      refine wp_bipush (v := (16 : Int32)) dX8_steps_27 (by decide) ?_
      obtain ⟨x12, e14, h13⟩ := Option.bind_eq_some_iff.mp h10
      clear h10
      refine wp_iald dX8_steps_29 e14 ?_
      refine wp_sipush (v := (999 : Int32)) dX8_steps_30 (by decide) ?_
      refine wp_icmp_lt (tgt := 39) dX8_steps_33 (by decide) (fun c15 => ?_) (fun c15 => ?_)
      · rw [if_pos c15] at h13
        refine wp_aload_n dX8_steps_39 rfl ?_
        obtain ⟨q16, e18, h17⟩ := Option.bind_eq_some_iff.mp h13
        clear h13
        refine wp_Vv (As := []) (S := []) okM_X8_known tw873 twP_X8_known tw871 (OX8_known e18) rfl rfl rfl ⟨(Nat.le_of_ble_eq_true rfl), (Nat.le_of_ble_eq_true rfl)⟩ (Nat.le_of_ble_eq_true rfl) rfl dX8_steps_40 (MX8_known e18) ?_
        refine wp_iconst (v := (0 : Int32)) dX8_steps_43 (by decide) ?_
        refine wp_istore_n (L1 := [some (.ref l0), some (.int l1), some (.int (0 : Int32))]) dX8_steps_44 (Nat.le_of_ble_eq_true rfl) rfl ?_
        exact WP.wk (hk0 _ _ _ _ _ h17) (And.intro rfl (And.intro rfl (And.intro rfl trivial)))
      · rw [if_neg c15] at h13
        exact WP.wk (BX8_steps_36 hk0 h13) trivial
  · rw [if_pos c4] at h2
    refine wp_iconst (v := (-1 : Int32)) dX8_steps_12 (by decide) ?_
    cases h2
    exact wp_iret rfl dX8_steps_13
def loX8_steps : Nat → KTX8_steps
  | 0 => fun _ _ _ _ => none
  | n + 1 => hX8_steps_45 (loX8_steps n)
theorem LOX8_steps {K : CX} {l : Launch} {n0 k0 : Nat} : ∀ n : Nat, (∀ (w : XW) (l0 : Nat) (l1 : Int32) (l2 : Int32) (q : Int32 × XW), (loX8_steps n) w l0 l1 l2 = some q → WP K l mX8_steps 6 140 n0 k0 (some (.int q.1)) q.2 45 [some (.ref l0), some (.int l1), some (.int l2)] [] w) := by
  intro n
  induction n with
  | zero => exact fun _ _ _ _ q h => (by cases h)
  | succ n ih => exact fun _ _ _ _ q h => HX8_steps_45 ih h
def fX8_steps (w : XW) (l0 : Nat) (l1 : Int32) : Option (Int32 × XW) := if isO w l0 8 = true then eX8_steps (loX8_steps FU) w l0 l1 else none
theorem OX8_steps {w : XW} {l0 : Nat} {l1 : Int32} {q : Int32 × XW} (h : fX8_steps w l0 l1 = some q) : isO w l0 8 = true := Decidable.byContradiction fun z => by unfold fX8_steps at h; rw [if_neg z] at h; cases h
theorem MX8_steps {K : CX} {l : Launch} {w : XW} {l0 : Nat} {l1 : Int32} {q : Int32 × XW} (h : fX8_steps w l0 l1 = some q) : MT K l mX8_steps 6 140 [.ref l0, .int l1] w (some (.int q.1)) q.2 := by
  have z := OX8_steps h
  unfold fX8_steps at h
  rw [if_pos z] at h
  exact MT.of (by decide) (Nat.le_of_ble_eq_true rfl) rfl (EX8_steps (LOX8_steps FU) h)
