/-! FractionRun$Reader.readNumbers(LFractionRun$Text;II)I: frames 3, words 67 -/
abbrev mX4_readNumbers : MR := (⟨"FractionRun$Reader", "readNumbers", "(LFractionRun$Text;II)I"⟩, prog_6_method_4_code, 8, (some .int))
theorem dX4_readNumbers_0 : decode prog_6_method_4_code 0 = .ok (.iload_n 2, 1) := by decide +kernel
theorem dX4_readNumbers_1 : decode prog_6_method_4_code 1 = .ok (.istore 4, 2) := by decide +kernel
theorem dX4_readNumbers_3 : decode prog_6_method_4_code 3 = .ok (.iconst 0, 1) := by decide +kernel
theorem dX4_readNumbers_4 : decode prog_6_method_4_code 4 = .ok (.istore 5, 2) := by decide +kernel
theorem dX4_readNumbers_6 : decode prog_6_method_4_code 6 = .ok (.iload 5, 2) := by decide +kernel
theorem dX4_readNumbers_8 : decode prog_6_method_4_code 8 = .ok (.iload_n 3, 1) := by decide +kernel
theorem dX4_readNumbers_9 : decode prog_6_method_4_code 9 = .ok (.if_icmp .ge 70, 3) := by decide +kernel
theorem dX4_readNumbers_12 : decode prog_6_method_4_code 12 = .ok (.iload 5, 2) := by decide +kernel
theorem dX4_readNumbers_14 : decode prog_6_method_4_code 14 = .ok (.iconst 3, 1) := by decide +kernel
theorem dX4_readNumbers_15 : decode prog_6_method_4_code 15 = .ok (.if_icmp .ge 64, 3) := by decide +kernel
theorem dX4_readNumbers_18 : decode prog_6_method_4_code 18 = .ok (.aload_n 0, 1) := by decide +kernel
theorem dX4_readNumbers_19 : decode prog_6_method_4_code 19 = .ok (.aload_n 1, 1) := by decide +kernel
theorem dX4_readNumbers_20 : decode prog_6_method_4_code 20 = .ok (.iload 4, 2) := by decide +kernel
theorem dX4_readNumbers_22 : decode prog_6_method_4_code 22 = .ok (.iload 5, 2) := by decide +kernel
theorem dX4_readNumbers_24 : decode prog_6_method_4_code 24 = .ok (.invokevirtual 46, 3) := by decide +kernel
theorem dX4_readNumbers_27 : decode prog_6_method_4_code 27 = .ok (.istore 6, 2) := by decide +kernel
theorem dX4_readNumbers_29 : decode prog_6_method_4_code 29 = .ok (.iload 5, 2) := by decide +kernel
theorem dX4_readNumbers_31 : decode prog_6_method_4_code 31 = .ok (.iload_n 3, 1) := by decide +kernel
theorem dX4_readNumbers_32 : decode prog_6_method_4_code 32 = .ok (.iconst 1, 1) := by decide +kernel
theorem dX4_readNumbers_33 : decode prog_6_method_4_code 33 = .ok (.isub, 1) := by decide +kernel
theorem dX4_readNumbers_34 : decode prog_6_method_4_code 34 = .ok (.if_icmp .ne 8, 3) := by decide +kernel
theorem dX4_readNumbers_37 : decode prog_6_method_4_code 37 = .ok (.bipush 59, 2) := by decide +kernel
theorem dX4_readNumbers_39 : decode prog_6_method_4_code 39 = .ok (.goto 5, 3) := by decide +kernel
theorem dX4_readNumbers_42 : decode prog_6_method_4_code 42 = .ok (.bipush 44, 2) := by decide +kernel
theorem dX4_readNumbers_44 : decode prog_6_method_4_code 44 = .ok (.istore 7, 2) := by decide +kernel
theorem dX4_readNumbers_46 : decode prog_6_method_4_code 46 = .ok (.iload 6, 2) := by decide +kernel
theorem dX4_readNumbers_48 : decode prog_6_method_4_code 48 = .ok (.iload 4, 2) := by decide +kernel
theorem dX4_readNumbers_50 : decode prog_6_method_4_code 50 = .ok (.if_icmp .eq 14, 3) := by decide +kernel
theorem dX4_readNumbers_53 : decode prog_6_method_4_code 53 = .ok (.aload_n 1, 1) := by decide +kernel
theorem dX4_readNumbers_54 : decode prog_6_method_4_code 54 = .ok (.iload 6, 2) := by decide +kernel
theorem dX4_readNumbers_56 : decode prog_6_method_4_code 56 = .ok (.invokevirtual 30, 3) := by decide +kernel
theorem dX4_readNumbers_59 : decode prog_6_method_4_code 59 = .ok (.iload 7, 2) := by decide +kernel
theorem dX4_readNumbers_61 : decode prog_6_method_4_code 61 = .ok (.if_icmp .eq 6, 3) := by decide +kernel
theorem dX4_readNumbers_64 : decode prog_6_method_4_code 64 = .ok (.bipush (-4), 2) := by decide +kernel
theorem dX4_readNumbers_66 : decode prog_6_method_4_code 66 = .ok (.ireturn, 1) := by decide +kernel
theorem dX4_readNumbers_67 : decode prog_6_method_4_code 67 = .ok (.iload 6, 2) := by decide +kernel
theorem dX4_readNumbers_69 : decode prog_6_method_4_code 69 = .ok (.iconst 1, 1) := by decide +kernel
theorem dX4_readNumbers_70 : decode prog_6_method_4_code 70 = .ok (.iadd, 1) := by decide +kernel
theorem dX4_readNumbers_71 : decode prog_6_method_4_code 71 = .ok (.istore 4, 2) := by decide +kernel
theorem dX4_readNumbers_73 : decode prog_6_method_4_code 73 = .ok (.iinc 5 1, 3) := by decide +kernel
theorem dX4_readNumbers_76 : decode prog_6_method_4_code 76 = .ok (.goto (-70), 3) := by decide +kernel
theorem dX4_readNumbers_79 : decode prog_6_method_4_code 79 = .ok (.iload 4, 2) := by decide +kernel
theorem dX4_readNumbers_81 : decode prog_6_method_4_code 81 = .ok (.ireturn, 1) := by decide +kernel
theorem okM_X4_readNumbers : okM mX4_readNumbers 3 := ⟨tw264, tw3, by decide, by decide, by decide +kernel⟩
abbrev KTX4_readNumbers : Type := (XW → Nat → Nat → Int32 → Int32 → Int32 → Option (Int32 × XW))
def bX4_readNumbers_79 (k : KTX4_readNumbers) (w : XW) (l4 : Int32) : Option (Int32 × XW) :=
  some (l4, w)
theorem BX4_readNumbers_79 {K : CX} {l : Launch} {n0 k0 : Nat} {k : KTX4_readNumbers} (hk0 : ∀ (w : XW) (l0 : Nat) (l1 : Nat) (l3 : Int32) (l4 : Int32) (l5 : Int32) (q : Int32 × XW), k w l0 l1 l3 l4 l5 = some q → WP K l mX4_readNumbers 3 67 n0 k0 (some (.int q.1)) q.2 6 [some (.ref l0), some (.ref l1), none, some (.int l3), some (.int l4), some (.int l5), none, none] [] w) {w : XW} {l4 : Int32} {q : Int32 × XW} (h0 : bX4_readNumbers_79 k w l4 = some q) : WP K l mX4_readNumbers 3 67 n0 k0 (some (.int q.1)) q.2 79 [none, none, none, none, some (.int l4), none, none, none] [] w := by
  unfold bX4_readNumbers_79 at h0
  refine wp_iload dX4_readNumbers_79 rfl ?_
  cases h0
  exact wp_iret rfl dX4_readNumbers_81
def bX4_readNumbers_64 (k : KTX4_readNumbers) (w : XW) : Option (Int32 × XW) :=
  some ((-4 : Int32), w)
theorem BX4_readNumbers_64 {K : CX} {l : Launch} {n0 k0 : Nat} {k : KTX4_readNumbers} (hk0 : ∀ (w : XW) (l0 : Nat) (l1 : Nat) (l3 : Int32) (l4 : Int32) (l5 : Int32) (q : Int32 × XW), k w l0 l1 l3 l4 l5 = some q → WP K l mX4_readNumbers 3 67 n0 k0 (some (.int q.1)) q.2 6 [some (.ref l0), some (.ref l1), none, some (.int l3), some (.int l4), some (.int l5), none, none] [] w) {w : XW} {q : Int32 × XW} (h0 : bX4_readNumbers_64 k w = some q) : WP K l mX4_readNumbers 3 67 n0 k0 (some (.int q.1)) q.2 64 [none, none, none, none, none, none, none, none] [] w := by
  unfold bX4_readNumbers_64 at h0
  refine wp_bipush (v := (-4 : Int32)) dX4_readNumbers_64 (by decide) ?_
  cases h0
  exact wp_iret rfl dX4_readNumbers_66
def bX4_readNumbers_44 (k : KTX4_readNumbers) (w : XW) (l0 : Nat) (l1 : Nat) (l3 : Int32) (l4 : Int32) (l5 : Int32) (l6 : Int32) (s0 : Int32) : Option (Int32 × XW) :=
  if l6 = l4 then
  bX4_readNumbers_64 k w
  else
  (fX6_letterAt w l1 l6).bind fun q2 =>
  if q2.1 = s0 then
  k q2.2 l0 l1 l3 (l6 + (1 : Int32)) (l5 + (1 : Int32))
  else
  bX4_readNumbers_64 k q2.2
theorem BX4_readNumbers_44 {K : CX} {l : Launch} {n0 k0 : Nat} {k : KTX4_readNumbers} (hk0 : ∀ (w : XW) (l0 : Nat) (l1 : Nat) (l3 : Int32) (l4 : Int32) (l5 : Int32) (q : Int32 × XW), k w l0 l1 l3 l4 l5 = some q → WP K l mX4_readNumbers 3 67 n0 k0 (some (.int q.1)) q.2 6 [some (.ref l0), some (.ref l1), none, some (.int l3), some (.int l4), some (.int l5), none, none] [] w) {w : XW} {l0 : Nat} {l1 : Nat} {l3 : Int32} {l4 : Int32} {l5 : Int32} {l6 : Int32} {s0 : Int32} {q : Int32 × XW} (h0 : bX4_readNumbers_44 k w l0 l1 l3 l4 l5 l6 s0 = some q) : WP K l mX4_readNumbers 3 67 n0 k0 (some (.int q.1)) q.2 44 [some (.ref l0), some (.ref l1), none, some (.int l3), some (.int l4), some (.int l5), some (.int l6), none] [.int s0] w := by
  unfold bX4_readNumbers_44 at h0
  refine wp_istore (L1 := [some (.ref l0), some (.ref l1), none, some (.int l3), some (.int l4), some (.int l5), some (.int l6), some (.int s0)]) dX4_readNumbers_44 (Nat.le_of_ble_eq_true rfl) rfl ?_
  refine wp_iload dX4_readNumbers_46 rfl ?_
  refine wp_iload dX4_readNumbers_48 rfl ?_
  refine wp_icmp_eq (tgt := 64) dX4_readNumbers_50 (by decide) (fun c1 => ?_) (fun c1 => ?_)
  · rw [if_pos c1] at h0
    exact WP.wk (BX4_readNumbers_64 hk0 h0) trivial
  · rw [if_neg c1] at h0
    refine wp_aload_n dX4_readNumbers_53 rfl ?_
    refine wp_iload dX4_readNumbers_54 rfl ?_
    obtain ⟨q2, e4, h3⟩ := Option.bind_eq_some_iff.mp h0
    clear h0
    refine wp_Vi (As := [.int l6]) (S := []) okM_X6_letterAt tw258 tw259 tw257 (OX6_letterAt e4) rfl rfl rfl ⟨(Nat.le_of_ble_eq_true rfl), (Nat.le_of_ble_eq_true rfl)⟩ (Nat.le_of_ble_eq_true rfl) rfl dX4_readNumbers_56 (MX6_letterAt e4) ?_
    refine wp_iload dX4_readNumbers_59 rfl ?_
    refine wp_icmp_eq (tgt := 67) dX4_readNumbers_61 (by decide) (fun c5 => ?_) (fun c5 => ?_)
    · rw [if_pos c5] at h3
      refine wp_iload dX4_readNumbers_67 rfl ?_
      refine wp_iconst (v := (1 : Int32)) dX4_readNumbers_69 (by decide) ?_
      refine wp_iadd dX4_readNumbers_70 ?_
      refine wp_istore (L1 := [some (.ref l0), some (.ref l1), none, some (.int l3), some (.int (l6 + (1 : Int32))), some (.int l5), some (.int l6), some (.int s0)]) dX4_readNumbers_71 (Nat.le_of_ble_eq_true rfl) rfl ?_
      refine wp_iinc (v := (l5 + (1 : Int32))) (L1 := [some (.ref l0), some (.ref l1), none, some (.int l3), some (.int (l6 + (1 : Int32))), some (.int (l5 + (1 : Int32))), some (.int l6), some (.int s0)]) dX4_readNumbers_73 (Nat.le_of_ble_eq_true rfl) rfl (congrArg (fun z => l5 + z) (by decide)) rfl ?_
      refine wp_goto (tgt := 6) dX4_readNumbers_76 (by decide) ?_
      exact WP.wk (hk0 _ _ _ _ _ _ _ h3) (And.intro rfl (And.intro rfl (And.intro rfl (And.intro rfl (And.intro rfl trivial)))))
    · rw [if_neg c5] at h3
      exact WP.wk (BX4_readNumbers_64 hk0 h3) trivial
def hX4_readNumbers_6 (k : KTX4_readNumbers) (w : XW) (l0 : Nat) (l1 : Nat) (l3 : Int32) (l4 : Int32) (l5 : Int32) : Option (Int32 × XW) :=
  if l3 ≤ l5 then
  bX4_readNumbers_79 k w l4
  else
  if (3 : Int32) ≤ l5 then
  bX4_readNumbers_79 k w l4
  else
  (fX4_readFigures w l0 l1 l4 l5).bind fun q3 =>
  if l5 = (l3 - (1 : Int32)) then
  bX4_readNumbers_44 k q3.2 l0 l1 l3 l4 l5 q3.1 (59 : Int32)
  else
  bX4_readNumbers_44 k q3.2 l0 l1 l3 l4 l5 q3.1 (44 : Int32)
theorem HX4_readNumbers_6 {K : CX} {l : Launch} {n0 k0 : Nat} {k : KTX4_readNumbers} (hk0 : ∀ (w : XW) (l0 : Nat) (l1 : Nat) (l3 : Int32) (l4 : Int32) (l5 : Int32) (q : Int32 × XW), k w l0 l1 l3 l4 l5 = some q → WP K l mX4_readNumbers 3 67 n0 k0 (some (.int q.1)) q.2 6 [some (.ref l0), some (.ref l1), none, some (.int l3), some (.int l4), some (.int l5), none, none] [] w) {w : XW} {l0 : Nat} {l1 : Nat} {l3 : Int32} {l4 : Int32} {l5 : Int32} {q : Int32 × XW} (h0 : hX4_readNumbers_6 k w l0 l1 l3 l4 l5 = some q) : WP K l mX4_readNumbers 3 67 n0 k0 (some (.int q.1)) q.2 6 [some (.ref l0), some (.ref l1), none, some (.int l3), some (.int l4), some (.int l5), none, none] [] w := by
  unfold hX4_readNumbers_6 at h0
  refine wp_iload dX4_readNumbers_6 rfl ?_
  refine wp_iload_n dX4_readNumbers_8 rfl ?_
  refine wp_icmp_ge (tgt := 79) dX4_readNumbers_9 (by decide) (fun c1 => ?_) (fun c1 => ?_)
  · rw [if_pos c1] at h0
    exact WP.wk (BX4_readNumbers_79 hk0 h0) (And.intro rfl trivial)
  · rw [if_neg c1] at h0
    refine wp_iload dX4_readNumbers_12 rfl ?_
    refine wp_iconst (v := (3 : Int32)) dX4_readNumbers_14 (by decide) ?_
    refine wp_icmp_ge (tgt := 79) dX4_readNumbers_15 (by decide) (fun c2 => ?_) (fun c2 => ?_)
    · rw [if_pos c2] at h0
      exact WP.wk (BX4_readNumbers_79 hk0 h0) (And.intro rfl trivial)
    · rw [if_neg c2] at h0
      refine wp_aload_n dX4_readNumbers_18 rfl ?_
      refine wp_aload_n dX4_readNumbers_19 rfl ?_
      refine wp_iload dX4_readNumbers_20 rfl ?_
      refine wp_iload dX4_readNumbers_22 rfl ?_
      obtain ⟨q3, e5, h4⟩ := Option.bind_eq_some_iff.mp h0
      clear h0
      refine wp_Vi (As := [.ref l1, .int l4, .int l5]) (S := []) okM_X4_readFigures tw267 twP_X4_readFigures tw265 (OX4_readFigures e5) rfl rfl rfl ⟨(Nat.le_of_ble_eq_true rfl), (Nat.le_of_ble_eq_true rfl)⟩ (Nat.le_of_ble_eq_true rfl) rfl dX4_readNumbers_24 (MX4_readFigures e5) ?_
      refine wp_istore (L1 := [some (.ref l0), some (.ref l1), none, some (.int l3), some (.int l4), some (.int l5), some (.int q3.1), none]) dX4_readNumbers_27 (Nat.le_of_ble_eq_true rfl) rfl ?_
      refine wp_iload dX4_readNumbers_29 rfl ?_
      refine wp_iload_n dX4_readNumbers_31 rfl ?_
      refine wp_iconst (v := (1 : Int32)) dX4_readNumbers_32 (by decide) ?_
      refine wp_isub dX4_readNumbers_33 ?_
      refine wp_icmp_ne (tgt := 42) dX4_readNumbers_34 (by decide) (fun c6 => ?_) (fun c6 => ?_)
      · rw [if_neg c6] at h4
        refine wp_bipush (v := (44 : Int32)) dX4_readNumbers_42 (by decide) ?_
        exact WP.wk (BX4_readNumbers_44 hk0 h4) (And.intro rfl (And.intro rfl (And.intro rfl (And.intro rfl (And.intro rfl (And.intro rfl trivial))))))
      · rw [if_pos c6] at h4
        refine wp_bipush (v := (59 : Int32)) dX4_readNumbers_37 (by decide) ?_
        refine wp_goto (tgt := 44) dX4_readNumbers_39 (by decide) ?_
        exact WP.wk (BX4_readNumbers_44 hk0 h4) (And.intro rfl (And.intro rfl (And.intro rfl (And.intro rfl (And.intro rfl (And.intro rfl trivial))))))
def eX4_readNumbers (k : KTX4_readNumbers) (w : XW) (l0 : Nat) (l1 : Nat) (l2 : Int32) (l3 : Int32) : Option (Int32 × XW) :=
  k w l0 l1 l3 l2 (0 : Int32)
theorem EX4_readNumbers {K : CX} {l : Launch} {n0 k0 : Nat} {k : KTX4_readNumbers} (hk0 : ∀ (w : XW) (l0 : Nat) (l1 : Nat) (l3 : Int32) (l4 : Int32) (l5 : Int32) (q : Int32 × XW), k w l0 l1 l3 l4 l5 = some q → WP K l mX4_readNumbers 3 67 n0 k0 (some (.int q.1)) q.2 6 [some (.ref l0), some (.ref l1), none, some (.int l3), some (.int l4), some (.int l5), none, none] [] w) {w : XW} {l0 : Nat} {l1 : Nat} {l2 : Int32} {l3 : Int32} {q : Int32 × XW} (h0 : eX4_readNumbers k w l0 l1 l2 l3 = some q) : WP K l mX4_readNumbers 3 67 n0 k0 (some (.int q.1)) q.2 0 [some (.ref l0), some (.ref l1), some (.int l2), some (.int l3), none, none, none, none] [] w := by
  unfold eX4_readNumbers at h0
  refine wp_iload_n dX4_readNumbers_0 rfl ?_
  refine wp_istore (L1 := [some (.ref l0), some (.ref l1), some (.int l2), some (.int l3), some (.int l2), none, none, none]) dX4_readNumbers_1 (Nat.le_of_ble_eq_true rfl) rfl ?_
  refine wp_iconst (v := (0 : Int32)) dX4_readNumbers_3 (by decide) ?_
  refine wp_istore (L1 := [some (.ref l0), some (.ref l1), some (.int l2), some (.int l3), some (.int l2), some (.int (0 : Int32)), none, none]) dX4_readNumbers_4 (Nat.le_of_ble_eq_true rfl) rfl ?_
  exact WP.wk (hk0 _ _ _ _ _ _ _ h0) (And.intro rfl (And.intro rfl (And.intro rfl (And.intro rfl (And.intro rfl trivial)))))
def loX4_readNumbers : Nat → KTX4_readNumbers
  | 0 => fun _ _ _ _ _ _ => none
  | n + 1 => hX4_readNumbers_6 (loX4_readNumbers n)
theorem LOX4_readNumbers {K : CX} {l : Launch} {n0 k0 : Nat} : ∀ n : Nat, (∀ (w : XW) (l0 : Nat) (l1 : Nat) (l3 : Int32) (l4 : Int32) (l5 : Int32) (q : Int32 × XW), (loX4_readNumbers n) w l0 l1 l3 l4 l5 = some q → WP K l mX4_readNumbers 3 67 n0 k0 (some (.int q.1)) q.2 6 [some (.ref l0), some (.ref l1), none, some (.int l3), some (.int l4), some (.int l5), none, none] [] w) := by
  intro n
  induction n with
  | zero => exact fun _ _ _ _ _ _ q h => (by cases h)
  | succ n ih => exact fun _ _ _ _ _ _ q h => HX4_readNumbers_6 ih h
def fX4_readNumbers (w : XW) (l0 : Nat) (l1 : Nat) (l2 : Int32) (l3 : Int32) : Option (Int32 × XW) := if isO w l0 4 = true then eX4_readNumbers (loX4_readNumbers FU) w l0 l1 l2 l3 else none
theorem OX4_readNumbers {w : XW} {l0 : Nat} {l1 : Nat} {l2 : Int32} {l3 : Int32} {q : Int32 × XW} (h : fX4_readNumbers w l0 l1 l2 l3 = some q) : isO w l0 4 = true := Decidable.byContradiction fun z => by unfold fX4_readNumbers at h; rw [if_neg z] at h; cases h
theorem MX4_readNumbers {K : CX} {l : Launch} {w : XW} {l0 : Nat} {l1 : Nat} {l2 : Int32} {l3 : Int32} {q : Int32 × XW} (h : fX4_readNumbers w l0 l1 l2 l3 = some q) : MT K l mX4_readNumbers 3 67 [.ref l0, .ref l1, .int l2, .int l3] w (some (.int q.1)) q.2 := by
  have z := OX4_readNumbers h
  unfold fX4_readNumbers at h
  rw [if_pos z] at h
  exact MT.of (by decide) (Nat.le_of_ble_eq_true rfl) rfl (EX4_readNumbers (LOX4_readNumbers FU) h)
/-! FractionRun.greatestDivisor(II)I: frames 1, words 21 -/
abbrev mX7_greatestDivisor : MR := (⟨"FractionRun", "greatestDivisor", "(II)I"⟩, prog_1_method_36_code, 6, (some .int))
theorem dX7_greatestDivisor_0 : decode prog_1_method_36_code 0 = .ok (.iload_n 0, 1) := by decide +kernel
theorem dX7_greatestDivisor_1 : decode prog_1_method_36_code 1 = .ok (.istore_n 2, 1) := by decide +kernel
theorem dX7_greatestDivisor_2 : decode prog_1_method_36_code 2 = .ok (.iload_n 1, 1) := by decide +kernel
theorem dX7_greatestDivisor_3 : decode prog_1_method_36_code 3 = .ok (.istore_n 3, 1) := by decide +kernel
theorem dX7_greatestDivisor_4 : decode prog_1_method_36_code 4 = .ok (.iconst 0, 1) := by decide +kernel
theorem dX7_greatestDivisor_5 : decode prog_1_method_36_code 5 = .ok (.istore 4, 2) := by decide +kernel
theorem dX7_greatestDivisor_7 : decode prog_1_method_36_code 7 = .ok (.iload 4, 2) := by decide +kernel
theorem dX7_greatestDivisor_9 : decode prog_1_method_36_code 9 = .ok (.bipush 64, 2) := by decide +kernel
theorem dX7_greatestDivisor_11 : decode prog_1_method_36_code 11 = .ok (.if_icmp .ge 23, 3) := by decide +kernel
theorem dX7_greatestDivisor_14 : decode prog_1_method_36_code 14 = .ok (.iload_n 3, 1) := by decide +kernel
theorem dX7_greatestDivisor_15 : decode prog_1_method_36_code 15 = .ok (.ifCond .eq 19, 3) := by decide +kernel
theorem dX7_greatestDivisor_18 : decode prog_1_method_36_code 18 = .ok (.iload_n 2, 1) := by decide +kernel
theorem dX7_greatestDivisor_19 : decode prog_1_method_36_code 19 = .ok (.iload_n 3, 1) := by decide +kernel
theorem dX7_greatestDivisor_20 : decode prog_1_method_36_code 20 = .ok (.irem, 1) := by decide +kernel
theorem dX7_greatestDivisor_21 : decode prog_1_method_36_code 21 = .ok (.istore 5, 2) := by decide +kernel
theorem dX7_greatestDivisor_23 : decode prog_1_method_36_code 23 = .ok (.iload_n 3, 1) := by decide +kernel
theorem dX7_greatestDivisor_24 : decode prog_1_method_36_code 24 = .ok (.istore_n 2, 1) := by decide +kernel
theorem dX7_greatestDivisor_25 : decode prog_1_method_36_code 25 = .ok (.iload 5, 2) := by decide +kernel
theorem dX7_greatestDivisor_27 : decode prog_1_method_36_code 27 = .ok (.istore_n 3, 1) := by decide +kernel
theorem dX7_greatestDivisor_28 : decode prog_1_method_36_code 28 = .ok (.iinc 4 1, 3) := by decide +kernel
theorem dX7_greatestDivisor_31 : decode prog_1_method_36_code 31 = .ok (.goto (-24), 3) := by decide +kernel
theorem dX7_greatestDivisor_34 : decode prog_1_method_36_code 34 = .ok (.iconst 1, 1) := by decide +kernel
theorem dX7_greatestDivisor_35 : decode prog_1_method_36_code 35 = .ok (.iload_n 2, 1) := by decide +kernel
theorem dX7_greatestDivisor_36 : decode prog_1_method_36_code 36 = .ok (.invokestatic 211, 3) := by decide +kernel
theorem dX7_greatestDivisor_39 : decode prog_1_method_36_code 39 = .ok (.ireturn, 1) := by decide +kernel
theorem okM_X7_greatestDivisor : okM mX7_greatestDivisor 2 := ⟨tw278, tw1, by decide, by decide, by decide +kernel⟩
abbrev KTX7_greatestDivisor : Type := (XW → Int32 → Int32 → Int32 → Option (Int32 × XW))
def bX7_greatestDivisor_34 (k : KTX7_greatestDivisor) (w : XW) (l2 : Int32) : Option (Int32 × XW) :=
  some ((imx (1 : Int32) l2), w)
theorem BX7_greatestDivisor_34 {K : CX} {l : Launch} {n0 k0 : Nat} {k : KTX7_greatestDivisor} (hk0 : ∀ (w : XW) (l2 : Int32) (l3 : Int32) (l4 : Int32) (q : Int32 × XW), k w l2 l3 l4 = some q → WP K l mX7_greatestDivisor 1 21 n0 k0 (some (.int q.1)) q.2 7 [none, none, some (.int l2), some (.int l3), some (.int l4), none] [] w) {w : XW} {l2 : Int32} {q : Int32 × XW} (h0 : bX7_greatestDivisor_34 k w l2 = some q) : WP K l mX7_greatestDivisor 1 21 n0 k0 (some (.int q.1)) q.2 34 [none, none, some (.int l2), none, none, none] [] w := by
  unfold bX7_greatestDivisor_34 at h0
  refine wp_iconst (v := (1 : Int32)) dX7_greatestDivisor_34 (by decide) ?_
  refine wp_iload_n dX7_greatestDivisor_35 rfl ?_
  refine wp_imx tw279 tw280 tw13 twMath_max ⟨(Nat.le_of_ble_eq_true rfl), (Nat.le_of_ble_eq_true rfl)⟩ rfl dX7_greatestDivisor_36 ?_
  cases h0
  exact wp_iret rfl dX7_greatestDivisor_39
def hX7_greatestDivisor_7 (k : KTX7_greatestDivisor) (w : XW) (l2 : Int32) (l3 : Int32) (l4 : Int32) : Option (Int32 × XW) :=
  if (64 : Int32) ≤ l4 then
  bX7_greatestDivisor_34 k w l2
  else
  if l3 = 0 then
  bX7_greatestDivisor_34 k w l2
  else
  if l3 = 0 then none else
  k w l3 (irm l2 l3) (l4 + (1 : Int32))
theorem HX7_greatestDivisor_7 {K : CX} {l : Launch} {n0 k0 : Nat} {k : KTX7_greatestDivisor} (hk0 : ∀ (w : XW) (l2 : Int32) (l3 : Int32) (l4 : Int32) (q : Int32 × XW), k w l2 l3 l4 = some q → WP K l mX7_greatestDivisor 1 21 n0 k0 (some (.int q.1)) q.2 7 [none, none, some (.int l2), some (.int l3), some (.int l4), none] [] w) {w : XW} {l2 : Int32} {l3 : Int32} {l4 : Int32} {q : Int32 × XW} (h0 : hX7_greatestDivisor_7 k w l2 l3 l4 = some q) : WP K l mX7_greatestDivisor 1 21 n0 k0 (some (.int q.1)) q.2 7 [none, none, some (.int l2), some (.int l3), some (.int l4), none] [] w := by
  unfold hX7_greatestDivisor_7 at h0
  refine wp_iload dX7_greatestDivisor_7 rfl ?_
  refine wp_bipush (v := (64 : Int32)) dX7_greatestDivisor_9 (by decide) ?_
  refine wp_icmp_ge (tgt := 34) dX7_greatestDivisor_11 (by decide) (fun c1 => ?_) (fun c1 => ?_)
  · rw [if_pos c1] at h0
    exact WP.wk (BX7_greatestDivisor_34 hk0 h0) (And.intro rfl trivial)
  · rw [if_neg c1] at h0
    refine wp_iload_n dX7_greatestDivisor_14 rfl ?_
    refine wp_if_eq (tgt := 34) dX7_greatestDivisor_15 (by decide) (fun c2 => ?_) (fun c2 => ?_)
    · rw [if_pos c2] at h0
      exact WP.wk (BX7_greatestDivisor_34 hk0 h0) (And.intro rfl trivial)
    · rw [if_neg c2] at h0
      refine wp_iload_n dX7_greatestDivisor_18 rfl ?_
      refine wp_iload_n dX7_greatestDivisor_19 rfl ?_
      have c3 : ¬ l3 = 0 := by intro z; rw [if_pos z] at h0; cases h0
      rw [if_neg c3] at h0
      have h4 := h0; clear h0
      refine wp_irm dX7_greatestDivisor_20 c3 ?_
      refine wp_istore (L1 := [none, none, some (.int l2), some (.int l3), some (.int l4), some (.int (irm l2 l3))]) dX7_greatestDivisor_21 (Nat.le_of_ble_eq_true rfl) rfl ?_
      refine wp_iload_n dX7_greatestDivisor_23 rfl ?_
      refine wp_istore_n (L1 := [none, none, some (.int l3), some (.int l3), some (.int l4), some (.int (irm l2 l3))]) dX7_greatestDivisor_24 (Nat.le_of_ble_eq_true rfl) rfl ?_
      refine wp_iload dX7_greatestDivisor_25 rfl ?_
      refine wp_istore_n (L1 := [none, none, some (.int l3), some (.int (irm l2 l3)), some (.int l4), some (.int (irm l2 l3))]) dX7_greatestDivisor_27 (Nat.le_of_ble_eq_true rfl) rfl ?_
      refine wp_iinc (v := (l4 + (1 : Int32))) (L1 := [none, none, some (.int l3), some (.int (irm l2 l3)), some (.int (l4 + (1 : Int32))), some (.int (irm l2 l3))]) dX7_greatestDivisor_28 (Nat.le_of_ble_eq_true rfl) rfl (congrArg (fun z => l4 + z) (by decide)) rfl ?_
      refine wp_goto (tgt := 7) dX7_greatestDivisor_31 (by decide) ?_
      exact WP.wk (hk0 _ _ _ _ _ h4) (And.intro rfl (And.intro rfl (And.intro rfl trivial)))
def eX7_greatestDivisor (k : KTX7_greatestDivisor) (w : XW) (l0 : Int32) (l1 : Int32) : Option (Int32 × XW) :=
  k w l0 l1 (0 : Int32)
theorem EX7_greatestDivisor {K : CX} {l : Launch} {n0 k0 : Nat} {k : KTX7_greatestDivisor} (hk0 : ∀ (w : XW) (l2 : Int32) (l3 : Int32) (l4 : Int32) (q : Int32 × XW), k w l2 l3 l4 = some q → WP K l mX7_greatestDivisor 1 21 n0 k0 (some (.int q.1)) q.2 7 [none, none, some (.int l2), some (.int l3), some (.int l4), none] [] w) {w : XW} {l0 : Int32} {l1 : Int32} {q : Int32 × XW} (h0 : eX7_greatestDivisor k w l0 l1 = some q) : WP K l mX7_greatestDivisor 1 21 n0 k0 (some (.int q.1)) q.2 0 [some (.int l0), some (.int l1), none, none, none, none] [] w := by
  unfold eX7_greatestDivisor at h0
  refine wp_iload_n dX7_greatestDivisor_0 rfl ?_
  refine wp_istore_n (L1 := [some (.int l0), some (.int l1), some (.int l0), none, none, none]) dX7_greatestDivisor_1 (Nat.le_of_ble_eq_true rfl) rfl ?_
  refine wp_iload_n dX7_greatestDivisor_2 rfl ?_
  refine wp_istore_n (L1 := [some (.int l0), some (.int l1), some (.int l0), some (.int l1), none, none]) dX7_greatestDivisor_3 (Nat.le_of_ble_eq_true rfl) rfl ?_
  refine wp_iconst (v := (0 : Int32)) dX7_greatestDivisor_4 (by decide) ?_
  refine wp_istore (L1 := [some (.int l0), some (.int l1), some (.int l0), some (.int l1), some (.int (0 : Int32)), none]) dX7_greatestDivisor_5 (Nat.le_of_ble_eq_true rfl) rfl ?_
  exact WP.wk (hk0 _ _ _ _ _ h0) (And.intro rfl (And.intro rfl (And.intro rfl trivial)))
def loX7_greatestDivisor : Nat → KTX7_greatestDivisor
  | 0 => fun _ _ _ _ => none
  | n + 1 => hX7_greatestDivisor_7 (loX7_greatestDivisor n)
theorem LOX7_greatestDivisor {K : CX} {l : Launch} {n0 k0 : Nat} : ∀ n : Nat, (∀ (w : XW) (l2 : Int32) (l3 : Int32) (l4 : Int32) (q : Int32 × XW), (loX7_greatestDivisor n) w l2 l3 l4 = some q → WP K l mX7_greatestDivisor 1 21 n0 k0 (some (.int q.1)) q.2 7 [none, none, some (.int l2), some (.int l3), some (.int l4), none] [] w) := by
  intro n
  induction n with
  | zero => exact fun _ _ _ _ q h => (by cases h)
  | succ n ih => exact fun _ _ _ _ q h => HX7_greatestDivisor_7 ih h
def fX7_greatestDivisor (w : XW) (l0 : Int32) (l1 : Int32) : Option (Int32 × XW) := eX7_greatestDivisor (loX7_greatestDivisor FU) w l0 l1
theorem MX7_greatestDivisor {K : CX} {l : Launch} {w : XW} {l0 : Int32} {l1 : Int32} {q : Int32 × XW} (h : fX7_greatestDivisor w l0 l1 = some q) : MT K l mX7_greatestDivisor 1 21 [.int l0, .int l1] w (some (.int q.1)) q.2 := by
  unfold fX7_greatestDivisor at h
  exact MT.of (by decide) (Nat.le_of_ble_eq_true rfl) rfl (EX7_greatestDivisor (LOX7_greatestDivisor FU) h)
/-! FractionRun$Fractions.add(III)Z: frames 3, words 67 -/
abbrev mX1_add : MR := (⟨"FractionRun$Fractions", "add", "(III)Z"⟩, prog_3_method_3_code, 6, (some .boolean))
theorem dX1_add_0 : decode prog_3_method_3_code 0 = .ok (.aload_n 0, 1) := by decide +kernel
theorem dX1_add_1 : decode prog_3_method_3_code 1 = .ok (.getfield 27, 3) := by decide +kernel
theorem dX1_add_4 : decode prog_3_method_3_code 4 = .ok (.bipush 8, 2) := by decide +kernel
theorem dX1_add_6 : decode prog_3_method_3_code 6 = .ok (.if_icmp .ge 27, 3) := by decide +kernel
theorem dX1_add_9 : decode prog_3_method_3_code 9 = .ok (.iload_n 3, 1) := by decide +kernel
theorem dX1_add_10 : decode prog_3_method_3_code 10 = .ok (.ifCond .lt 23, 3) := by decide +kernel
theorem dX1_add_13 : decode prog_3_method_3_code 13 = .ok (.iload_n 3, 1) := by decide +kernel
theorem dX1_add_14 : decode prog_3_method_3_code 14 = .ok (.bipush 6, 2) := by decide +kernel
theorem dX1_add_16 : decode prog_3_method_3_code 16 = .ok (.if_icmp .ge 17, 3) := by decide +kernel
theorem dX1_add_19 : decode prog_3_method_3_code 19 = .ok (.iload_n 1, 1) := by decide +kernel
theorem dX1_add_20 : decode prog_3_method_3_code 20 = .ok (.invokestatic 35, 3) := by decide +kernel
theorem dX1_add_23 : decode prog_3_method_3_code 23 = .ok (.ifCond .eq 10, 3) := by decide +kernel
theorem dX1_add_26 : decode prog_3_method_3_code 26 = .ok (.iload_n 2, 1) := by decide +kernel
theorem dX1_add_27 : decode prog_3_method_3_code 27 = .ok (.invokestatic 35, 3) := by decide +kernel
theorem dX1_add_30 : decode prog_3_method_3_code 30 = .ok (.ifCond .ne 5, 3) := by decide +kernel
theorem dX1_add_33 : decode prog_3_method_3_code 33 = .ok (.iconst 0, 1) := by decide +kernel
theorem dX1_add_34 : decode prog_3_method_3_code 34 = .ok (.ireturn, 1) := by decide +kernel
theorem dX1_add_35 : decode prog_3_method_3_code 35 = .ok (.iload_n 1, 1) := by decide +kernel
theorem dX1_add_36 : decode prog_3_method_3_code 36 = .ok (.iload_n 2, 1) := by decide +kernel
theorem dX1_add_37 : decode prog_3_method_3_code 37 = .ok (.invokestatic 38, 3) := by decide +kernel
theorem dX1_add_40 : decode prog_3_method_3_code 40 = .ok (.istore 4, 2) := by decide +kernel
theorem dX1_add_42 : decode prog_3_method_3_code 42 = .ok (.aload_n 0, 1) := by decide +kernel
theorem dX1_add_43 : decode prog_3_method_3_code 43 = .ok (.getfield 9, 3) := by decide +kernel
theorem dX1_add_46 : decode prog_3_method_3_code 46 = .ok (.aload_n 0, 1) := by decide +kernel
theorem dX1_add_47 : decode prog_3_method_3_code 47 = .ok (.getfield 27, 3) := by decide +kernel
theorem dX1_add_50 : decode prog_3_method_3_code 50 = .ok (.iload_n 3, 1) := by decide +kernel
theorem dX1_add_51 : decode prog_3_method_3_code 51 = .ok (.iastore, 1) := by decide +kernel
theorem dX1_add_52 : decode prog_3_method_3_code 52 = .ok (.aload_n 0, 1) := by decide +kernel
theorem dX1_add_53 : decode prog_3_method_3_code 53 = .ok (.getfield 15, 3) := by decide +kernel
theorem dX1_add_56 : decode prog_3_method_3_code 56 = .ok (.aload_n 0, 1) := by decide +kernel
theorem dX1_add_57 : decode prog_3_method_3_code 57 = .ok (.getfield 27, 3) := by decide +kernel
theorem dX1_add_60 : decode prog_3_method_3_code 60 = .ok (.iload_n 1, 1) := by decide +kernel
theorem dX1_add_61 : decode prog_3_method_3_code 61 = .ok (.iload 4, 2) := by decide +kernel
theorem dX1_add_63 : decode prog_3_method_3_code 63 = .ok (.idiv, 1) := by decide +kernel
theorem dX1_add_64 : decode prog_3_method_3_code 64 = .ok (.iastore, 1) := by decide +kernel
theorem dX1_add_65 : decode prog_3_method_3_code 65 = .ok (.aload_n 0, 1) := by decide +kernel
theorem dX1_add_66 : decode prog_3_method_3_code 66 = .ok (.getfield 18, 3) := by decide +kernel
theorem dX1_add_69 : decode prog_3_method_3_code 69 = .ok (.aload_n 0, 1) := by decide +kernel
theorem dX1_add_70 : decode prog_3_method_3_code 70 = .ok (.getfield 27, 3) := by decide +kernel
theorem dX1_add_73 : decode prog_3_method_3_code 73 = .ok (.iload_n 2, 1) := by decide +kernel
theorem dX1_add_74 : decode prog_3_method_3_code 74 = .ok (.iload 4, 2) := by decide +kernel
theorem dX1_add_76 : decode prog_3_method_3_code 76 = .ok (.idiv, 1) := by decide +kernel
theorem dX1_add_77 : decode prog_3_method_3_code 77 = .ok (.iastore, 1) := by decide +kernel
theorem dX1_add_78 : decode prog_3_method_3_code 78 = .ok (.iconst 0, 1) := by decide +kernel
theorem dX1_add_79 : decode prog_3_method_3_code 79 = .ok (.istore 5, 2) := by decide +kernel
theorem dX1_add_81 : decode prog_3_method_3_code 81 = .ok (.iload 5, 2) := by decide +kernel
theorem dX1_add_83 : decode prog_3_method_3_code 83 = .ok (.bipush 6, 2) := by decide +kernel
theorem dX1_add_85 : decode prog_3_method_3_code 85 = .ok (.if_icmp .ge 37, 3) := by decide +kernel
theorem dX1_add_88 : decode prog_3_method_3_code 88 = .ok (.aload_n 0, 1) := by decide +kernel
theorem dX1_add_89 : decode prog_3_method_3_code 89 = .ok (.getfield 21, 3) := by decide +kernel
theorem dX1_add_92 : decode prog_3_method_3_code 92 = .ok (.aload_n 0, 1) := by decide +kernel
theorem dX1_add_93 : decode prog_3_method_3_code 93 = .ok (.getfield 27, 3) := by decide +kernel
theorem dX1_add_96 : decode prog_3_method_3_code 96 = .ok (.bipush 6, 2) := by decide +kernel
theorem dX1_add_98 : decode prog_3_method_3_code 98 = .ok (.imul, 1) := by decide +kernel
theorem dX1_add_99 : decode prog_3_method_3_code 99 = .ok (.iload 5, 2) := by decide +kernel
theorem dX1_add_101 : decode prog_3_method_3_code 101 = .ok (.iadd, 1) := by decide +kernel
theorem dX1_add_102 : decode prog_3_method_3_code 102 = .ok (.iload_n 1, 1) := by decide +kernel
theorem dX1_add_103 : decode prog_3_method_3_code 103 = .ok (.iload 5, 2) := by decide +kernel
theorem dX1_add_105 : decode prog_3_method_3_code 105 = .ok (.invokestatic 42, 3) := by decide +kernel
theorem dX1_add_108 : decode prog_3_method_3_code 108 = .ok (.iload_n 2, 1) := by decide +kernel
theorem dX1_add_109 : decode prog_3_method_3_code 109 = .ok (.iload 5, 2) := by decide +kernel
theorem dX1_add_111 : decode prog_3_method_3_code 111 = .ok (.invokestatic 42, 3) := by decide +kernel
theorem dX1_add_114 : decode prog_3_method_3_code 114 = .ok (.isub, 1) := by decide +kernel
theorem dX1_add_115 : decode prog_3_method_3_code 115 = .ok (.iastore, 1) := by decide +kernel
theorem dX1_add_116 : decode prog_3_method_3_code 116 = .ok (.iinc 5 1, 3) := by decide +kernel
theorem dX1_add_119 : decode prog_3_method_3_code 119 = .ok (.goto (-38), 3) := by decide +kernel
theorem dX1_add_122 : decode prog_3_method_3_code 122 = .ok (.aload_n 0, 1) := by decide +kernel
theorem dX1_add_123 : decode prog_3_method_3_code 123 = .ok (.dup, 1) := by decide +kernel
theorem dX1_add_124 : decode prog_3_method_3_code 124 = .ok (.getfield 27, 3) := by decide +kernel
theorem dX1_add_127 : decode prog_3_method_3_code 127 = .ok (.iconst 1, 1) := by decide +kernel
theorem dX1_add_128 : decode prog_3_method_3_code 128 = .ok (.iadd, 1) := by decide +kernel
theorem dX1_add_129 : decode prog_3_method_3_code 129 = .ok (.putfield 27, 3) := by decide +kernel
theorem dX1_add_132 : decode prog_3_method_3_code 132 = .ok (.iconst 1, 1) := by decide +kernel
theorem dX1_add_133 : decode prog_3_method_3_code 133 = .ok (.ireturn, 1) := by decide +kernel
theorem okM_X1_add : okM mX1_add 3 := ⟨tw275, tw4, by decide, by decide, by decide +kernel⟩
abbrev KTX1_add : Type := (XW → Nat → Int32 → Int32 → Int32 → Option (Int32 × XW))
def bX1_add_33 (k : KTX1_add) (w : XW) : Option (Int32 × XW) :=
  some ((0 : Int32), w)
theorem BX1_add_33 {K : CX} {l : Launch} {n0 k0 : Nat} {k : KTX1_add} (hk0 : ∀ (w : XW) (l0 : Nat) (l1 : Int32) (l2 : Int32) (l5 : Int32) (q : Int32 × XW), k w l0 l1 l2 l5 = some q → WP K l mX1_add 3 67 n0 k0 (some (.int q.1)) q.2 81 [some (.ref l0), some (.int l1), some (.int l2), none, none, some (.int l5)] [] w) {w : XW} {q : Int32 × XW} (h0 : bX1_add_33 k w = some q) : WP K l mX1_add 3 67 n0 k0 (some (.int q.1)) q.2 33 [none, none, none, none, none, none] [] w := by
  unfold bX1_add_33 at h0
  refine wp_iconst (v := (0 : Int32)) dX1_add_33 (by decide) ?_
  cases h0
  exact wp_zret (x := (0 : Int32)) rfl narrow_b0 dX1_add_34
def hX1_add_81 (k : KTX1_add) (w : XW) (l0 : Nat) (l1 : Int32) (l2 : Int32) (l5 : Int32) : Option (Int32 × XW) :=
  if (6 : Int32) ≤ l5 then
  (gI w l0 1 5).bind fun x2 =>
  (pV w l0 1 5 (.int (x2 + (1 : Int32)))).bind fun w5 =>
  some ((1 : Int32), w5)
  else
  (gR w l0 1 3).bind fun x8 =>
  (gI w l0 1 5).bind fun x11 =>
  (fX1_powerIn w l1 l5).bind fun q14 =>
  (fX1_powerIn q14.2 l2 l5).bind fun q17 =>
  (sI q17.2 0 x8 ((x11 * (6 : Int32)) + l5) (q14.1 - q17.1)).bind fun w20 =>
  k w20 l0 l1 l2 (l5 + (1 : Int32))
theorem HX1_add_81 {K : CX} {l : Launch} {n0 k0 : Nat} {k : KTX1_add} (hk0 : ∀ (w : XW) (l0 : Nat) (l1 : Int32) (l2 : Int32) (l5 : Int32) (q : Int32 × XW), k w l0 l1 l2 l5 = some q → WP K l mX1_add 3 67 n0 k0 (some (.int q.1)) q.2 81 [some (.ref l0), some (.int l1), some (.int l2), none, none, some (.int l5)] [] w) {w : XW} {l0 : Nat} {l1 : Int32} {l2 : Int32} {l5 : Int32} {q : Int32 × XW} (h0 : hX1_add_81 k w l0 l1 l2 l5 = some q) : WP K l mX1_add 3 67 n0 k0 (some (.int q.1)) q.2 81 [some (.ref l0), some (.int l1), some (.int l2), none, none, some (.int l5)] [] w := by
  unfold hX1_add_81 at h0
  refine wp_iload dX1_add_81 rfl ?_
  refine wp_bipush (v := (6 : Int32)) dX1_add_83 (by decide) ?_
  refine wp_icmp_ge (tgt := 122) dX1_add_85 (by decide) (fun c1 => ?_) (fun c1 => ?_)
  · rw [if_pos c1] at h0
    refine wp_aload_n dX1_add_122 rfl ?_
    refine wp_dup dX1_add_123 rfl ?_
    obtain ⟨x2, e4, h3⟩ := Option.bind_eq_some_iff.mp h0
    clear h0
    refine wp_getI okX1 (k := 5) (by decide) tw70 dX1_add_124 e4 ?_
    refine wp_iconst (v := (1 : Int32)) dX1_add_127 (by decide) ?_
    refine wp_iadd dX1_add_128 ?_
    obtain ⟨w5, e7, h6⟩ := Option.bind_eq_some_iff.mp h3
    clear h3
    refine wp_putV okX1 (k := 5) (by decide) rfl tw70 dX1_add_129 rfl rfl e7 ?_
    refine wp_iconst (v := (1 : Int32)) dX1_add_132 (by decide) ?_
    cases h6
    exact wp_zret (x := (1 : Int32)) rfl narrow_b1 dX1_add_133
  · rw [if_neg c1] at h0
    refine wp_aload_n dX1_add_88 rfl ?_
    obtain ⟨x8, e10, h9⟩ := Option.bind_eq_some_iff.mp h0
    clear h0
    refine wp_getR okX1 (k := 3) (by decide) tw65 dX1_add_89 e10 ?_
    refine wp_aload_n dX1_add_92 rfl ?_
    obtain ⟨x11, e13, h12⟩ := Option.bind_eq_some_iff.mp h9
    clear h9
    refine wp_getI okX1 (k := 5) (by decide) tw70 dX1_add_93 e13 ?_
    refine wp_bipush (v := (6 : Int32)) dX1_add_96 (by decide) ?_
    refine wp_imul dX1_add_98 ?_
    refine wp_iload dX1_add_99 rfl ?_
    refine wp_iadd dX1_add_101 ?_
    refine wp_iload_n dX1_add_102 rfl ?_
    refine wp_iload dX1_add_103 rfl ?_
    obtain ⟨q14, e16, h15⟩ := Option.bind_eq_some_iff.mp h12
    clear h12
    refine wp_Si (As := [.int l1, .int l5]) (S := [.int ((x11 * (6 : Int32)) + l5), .ref x8]) okM_X1_powerIn tw249 tw248 rfl ⟨(Nat.le_of_ble_eq_true rfl), (Nat.le_of_ble_eq_true rfl)⟩ (Nat.le_of_ble_eq_true rfl) rfl dX1_add_105 (MX1_powerIn e16) ?_
    refine wp_iload_n dX1_add_108 rfl ?_
    refine wp_iload dX1_add_109 rfl ?_
    obtain ⟨q17, e19, h18⟩ := Option.bind_eq_some_iff.mp h15
    clear h15
    refine wp_Si (As := [.int l2, .int l5]) (S := [.int q14.1, .int ((x11 * (6 : Int32)) + l5), .ref x8]) okM_X1_powerIn tw249 tw248 rfl ⟨(Nat.le_of_ble_eq_true rfl), (Nat.le_of_ble_eq_true rfl)⟩ (Nat.le_of_ble_eq_true rfl) rfl dX1_add_111 (MX1_powerIn e19) ?_
    refine wp_isub dX1_add_114 ?_
    obtain ⟨w20, e22, h21⟩ := Option.bind_eq_some_iff.mp h18
    clear h18
    refine wp_iast dX1_add_115 e22 ?_
    refine wp_iinc (v := (l5 + (1 : Int32))) (L1 := [some (.ref l0), some (.int l1), some (.int l2), none, none, some (.int (l5 + (1 : Int32)))]) dX1_add_116 (Nat.le_of_ble_eq_true rfl) rfl (congrArg (fun z => l5 + z) (by decide)) rfl ?_
    refine wp_goto (tgt := 81) dX1_add_119 (by decide) ?_
    exact WP.wk (hk0 _ _ _ _ _ _ h21) (And.intro rfl (And.intro rfl (And.intro rfl (And.intro rfl trivial))))
def eX1_add (k : KTX1_add) (w : XW) (l0 : Nat) (l1 : Int32) (l2 : Int32) (l3 : Int32) : Option (Int32 × XW) :=
  (gI w l0 1 5).bind fun x1 =>
  if (8 : Int32) ≤ x1 then
  bX1_add_33 k w
  else
  if l3 < 0 then
  bX1_add_33 k w
  else
  if (6 : Int32) ≤ l3 then
  bX1_add_33 k w
  else
  (fX1_isOfPrimes w l1).bind fun q7 =>
  if q7.1 = 0 then
  bX1_add_33 k q7.2
  else
  (fX1_isOfPrimes q7.2 l2).bind fun q11 =>
  if q11.1 = 0 then
  bX1_add_33 k q11.2
  else
  (fX7_greatestDivisor q11.2 l1 l2).bind fun q15 =>
  (gR q15.2 l0 1 0).bind fun x18 =>
  (gI q15.2 l0 1 5).bind fun x21 =>
  (sI q15.2 0 x18 x21 l3).bind fun w24 =>
  (gR w24 l0 1 1).bind fun x27 =>
  (gI w24 l0 1 5).bind fun x30 =>
  if q15.1 = 0 then none else
  (sI w24 0 x27 x30 (l1 / q15.1)).bind fun w35 =>
  (gR w35 l0 1 2).bind fun x38 =>
  (gI w35 l0 1 5).bind fun x41 =>
  if q15.1 = 0 then none else
  (sI w35 0 x38 x41 (l2 / q15.1)).bind fun w46 =>
  k w46 l0 l1 l2 (0 : Int32)
theorem EX1_add {K : CX} {l : Launch} {n0 k0 : Nat} {k : KTX1_add} (hk0 : ∀ (w : XW) (l0 : Nat) (l1 : Int32) (l2 : Int32) (l5 : Int32) (q : Int32 × XW), k w l0 l1 l2 l5 = some q → WP K l mX1_add 3 67 n0 k0 (some (.int q.1)) q.2 81 [some (.ref l0), some (.int l1), some (.int l2), none, none, some (.int l5)] [] w) {w : XW} {l0 : Nat} {l1 : Int32} {l2 : Int32} {l3 : Int32} {q : Int32 × XW} (h0 : eX1_add k w l0 l1 l2 l3 = some q) : WP K l mX1_add 3 67 n0 k0 (some (.int q.1)) q.2 0 [some (.ref l0), some (.int l1), some (.int l2), some (.int l3), none, none] [] w := by
  unfold eX1_add at h0
  refine wp_aload_n dX1_add_0 rfl ?_
  obtain ⟨x1, e3, h2⟩ := Option.bind_eq_some_iff.mp h0
  clear h0
  refine wp_getI okX1 (k := 5) (by decide) tw70 dX1_add_1 e3 ?_
  refine wp_bipush (v := (8 : Int32)) dX1_add_4 (by decide) ?_
  refine wp_icmp_ge (tgt := 33) dX1_add_6 (by decide) (fun c4 => ?_) (fun c4 => ?_)
  · rw [if_pos c4] at h2
    exact WP.wk (BX1_add_33 hk0 h2) trivial
  · rw [if_neg c4] at h2
    refine wp_iload_n dX1_add_9 rfl ?_
    refine wp_if_lt (tgt := 33) dX1_add_10 (by decide) (fun c5 => ?_) (fun c5 => ?_)
    · rw [if_pos c5] at h2
      exact WP.wk (BX1_add_33 hk0 h2) trivial
    · rw [if_neg c5] at h2
      refine wp_iload_n dX1_add_13 rfl ?_
      refine wp_bipush (v := (6 : Int32)) dX1_add_14 (by decide) ?_
      refine wp_icmp_ge (tgt := 33) dX1_add_16 (by decide) (fun c6 => ?_) (fun c6 => ?_)
      · rw [if_pos c6] at h2
        exact WP.wk (BX1_add_33 hk0 h2) trivial
      · rw [if_neg c6] at h2
        refine wp_iload_n dX1_add_19 rfl ?_
        obtain ⟨q7, e9, h8⟩ := Option.bind_eq_some_iff.mp h2
        clear h2
        refine wp_Si (As := [.int l1]) (S := []) okM_X1_isOfPrimes tw246 tw245 rfl ⟨(Nat.le_of_ble_eq_true rfl), (Nat.le_of_ble_eq_true rfl)⟩ (Nat.le_of_ble_eq_true rfl) rfl dX1_add_20 (MX1_isOfPrimes e9) ?_
        refine wp_if_eq (tgt := 33) dX1_add_23 (by decide) (fun c10 => ?_) (fun c10 => ?_)
        · rw [if_pos c10] at h8
          exact WP.wk (BX1_add_33 hk0 h8) trivial
        · rw [if_neg c10] at h8
          refine wp_iload_n dX1_add_26 rfl ?_
          obtain ⟨q11, e13, h12⟩ := Option.bind_eq_some_iff.mp h8
          clear h8
          refine wp_Si (As := [.int l2]) (S := []) okM_X1_isOfPrimes tw246 tw245 rfl ⟨(Nat.le_of_ble_eq_true rfl), (Nat.le_of_ble_eq_true rfl)⟩ (Nat.le_of_ble_eq_true rfl) rfl dX1_add_27 (MX1_isOfPrimes e13) ?_
          refine wp_if_ne (tgt := 35) dX1_add_30 (by decide) (fun c14 => ?_) (fun c14 => ?_)
          · rw [if_neg c14] at h12
            refine wp_iload_n dX1_add_35 rfl ?_
            refine wp_iload_n dX1_add_36 rfl ?_
            obtain ⟨q15, e17, h16⟩ := Option.bind_eq_some_iff.mp h12
            clear h12
            refine wp_SNi (As := [.int l1, .int l2]) (S := []) okM_X7_greatestDivisor tw277 (by decide) rfl ⟨(Nat.le_of_ble_eq_true rfl), (Nat.le_of_ble_eq_true rfl)⟩ (Nat.le_of_ble_eq_true rfl) rfl dX1_add_37 (MX7_greatestDivisor e17) ?_
            refine wp_istore (L1 := [some (.ref l0), some (.int l1), some (.int l2), some (.int l3), some (.int q15.1), none]) dX1_add_40 (Nat.le_of_ble_eq_true rfl) rfl ?_
            refine wp_aload_n dX1_add_42 rfl ?_
            obtain ⟨x18, e20, h19⟩ := Option.bind_eq_some_iff.mp h16
            clear h16
            refine wp_getR okX1 (k := 0) (by decide) tw58 dX1_add_43 e20 ?_
            refine wp_aload_n dX1_add_46 rfl ?_
            obtain ⟨x21, e23, h22⟩ := Option.bind_eq_some_iff.mp h19
            clear h19
            refine wp_getI okX1 (k := 5) (by decide) tw70 dX1_add_47 e23 ?_
            refine wp_iload_n dX1_add_50 rfl ?_
            obtain ⟨w24, e26, h25⟩ := Option.bind_eq_some_iff.mp h22
            clear h22
            refine wp_iast dX1_add_51 e26 ?_
            refine wp_aload_n dX1_add_52 rfl ?_
            obtain ⟨x27, e29, h28⟩ := Option.bind_eq_some_iff.mp h25
            clear h25
            refine wp_getR okX1 (k := 1) (by decide) tw61 dX1_add_53 e29 ?_
            refine wp_aload_n dX1_add_56 rfl ?_
            obtain ⟨x30, e32, h31⟩ := Option.bind_eq_some_iff.mp h28
            clear h28
            refine wp_getI okX1 (k := 5) (by decide) tw70 dX1_add_57 e32 ?_
            refine wp_iload_n dX1_add_60 rfl ?_
            refine wp_iload dX1_add_61 rfl ?_
            have c33 : ¬ q15.1 = 0 := by intro z; rw [if_pos z] at h31; cases h31
            rw [if_neg c33] at h31
            have h34 := h31; clear h31
            refine wp_idiv dX1_add_63 c33 ?_
            obtain ⟨w35, e37, h36⟩ := Option.bind_eq_some_iff.mp h34
            clear h34
            refine wp_iast dX1_add_64 e37 ?_
            refine wp_aload_n dX1_add_65 rfl ?_
            obtain ⟨x38, e40, h39⟩ := Option.bind_eq_some_iff.mp h36
            clear h36
            refine wp_getR okX1 (k := 2) (by decide) tw63 dX1_add_66 e40 ?_
            refine wp_aload_n dX1_add_69 rfl ?_
            obtain ⟨x41, e43, h42⟩ := Option.bind_eq_some_iff.mp h39
            clear h39
            refine wp_getI okX1 (k := 5) (by decide) tw70 dX1_add_70 e43 ?_
            refine wp_iload_n dX1_add_73 rfl ?_
            refine wp_iload dX1_add_74 rfl ?_
            have c44 : ¬ q15.1 = 0 := by intro z; rw [if_pos z] at h42; cases h42
            rw [if_neg c44] at h42
            have h45 := h42; clear h42
            refine wp_idiv dX1_add_76 c44 ?_
            obtain ⟨w46, e48, h47⟩ := Option.bind_eq_some_iff.mp h45
            clear h45
            refine wp_iast dX1_add_77 e48 ?_
            refine wp_iconst (v := (0 : Int32)) dX1_add_78 (by decide) ?_
            refine wp_istore (L1 := [some (.ref l0), some (.int l1), some (.int l2), some (.int l3), some (.int q15.1), some (.int (0 : Int32))]) dX1_add_79 (Nat.le_of_ble_eq_true rfl) rfl ?_
            exact WP.wk (hk0 _ _ _ _ _ _ h47) (And.intro rfl (And.intro rfl (And.intro rfl (And.intro rfl trivial))))
          · rw [if_pos c14] at h12
            exact WP.wk (BX1_add_33 hk0 h12) trivial
def loX1_add : Nat → KTX1_add
  | 0 => fun _ _ _ _ _ => none
  | n + 1 => hX1_add_81 (loX1_add n)
theorem LOX1_add {K : CX} {l : Launch} {n0 k0 : Nat} : ∀ n : Nat, (∀ (w : XW) (l0 : Nat) (l1 : Int32) (l2 : Int32) (l5 : Int32) (q : Int32 × XW), (loX1_add n) w l0 l1 l2 l5 = some q → WP K l mX1_add 3 67 n0 k0 (some (.int q.1)) q.2 81 [some (.ref l0), some (.int l1), some (.int l2), none, none, some (.int l5)] [] w) := by
  intro n
  induction n with
  | zero => exact fun _ _ _ _ _ q h => (by cases h)
  | succ n ih => exact fun _ _ _ _ _ q h => HX1_add_81 ih h
def fX1_add (w : XW) (l0 : Nat) (l1 : Int32) (l2 : Int32) (l3 : Int32) : Option (Int32 × XW) := if isO w l0 1 = true then eX1_add (loX1_add FU) w l0 l1 l2 l3 else none
theorem OX1_add {w : XW} {l0 : Nat} {l1 : Int32} {l2 : Int32} {l3 : Int32} {q : Int32 × XW} (h : fX1_add w l0 l1 l2 l3 = some q) : isO w l0 1 = true := Decidable.byContradiction fun z => by unfold fX1_add at h; rw [if_neg z] at h; cases h
theorem MX1_add {K : CX} {l : Launch} {w : XW} {l0 : Nat} {l1 : Int32} {l2 : Int32} {l3 : Int32} {q : Int32 × XW} (h : fX1_add w l0 l1 l2 l3 = some q) : MT K l mX1_add 3 67 [.ref l0, .int l1, .int l2, .int l3] w (some (.int q.1)) q.2 := by
  have z := OX1_add h
  unfold fX1_add at h
  rw [if_pos z] at h
  exact MT.of (by decide) (Nat.le_of_ble_eq_true rfl) rfl (EX1_add (LOX1_add FU) h)
/-! FractionRun$Reader.readItem(LFractionRun$Text;ILFractionRun$Fractions;)I: frames 4, words 94 -/
abbrev mX4_readItem : MR := (⟨"FractionRun$Reader", "readItem", "(LFractionRun$Text;ILFractionRun$Fractions;)I"⟩, prog_6_method_3_code, 6, (some .int))
theorem dX4_readItem_0 : decode prog_6_method_3_code 0 = .ok (.aload_n 1, 1) := by decide +kernel
theorem dX4_readItem_1 : decode prog_6_method_3_code 1 = .ok (.iload_n 2, 1) := by decide +kernel
theorem dX4_readItem_2 : decode prog_6_method_3_code 2 = .ok (.invokevirtual 30, 3) := by decide +kernel
theorem dX4_readItem_5 : decode prog_6_method_3_code 5 = .ok (.istore 4, 2) := by decide +kernel
theorem dX4_readItem_7 : decode prog_6_method_3_code 7 = .ok (.iload 4, 2) := by decide +kernel
theorem dX4_readItem_9 : decode prog_6_method_3_code 9 = .ok (.bipush 102, 2) := by decide +kernel
theorem dX4_readItem_11 : decode prog_6_method_3_code 11 = .ok (.if_icmp .ne 54, 3) := by decide +kernel
theorem dX4_readItem_14 : decode prog_6_method_3_code 14 = .ok (.aload_n 0, 1) := by decide +kernel
theorem dX4_readItem_15 : decode prog_6_method_3_code 15 = .ok (.aload_n 1, 1) := by decide +kernel
theorem dX4_readItem_16 : decode prog_6_method_3_code 16 = .ok (.iload_n 2, 1) := by decide +kernel
theorem dX4_readItem_17 : decode prog_6_method_3_code 17 = .ok (.iconst 1, 1) := by decide +kernel
theorem dX4_readItem_18 : decode prog_6_method_3_code 18 = .ok (.iadd, 1) := by decide +kernel
theorem dX4_readItem_19 : decode prog_6_method_3_code 19 = .ok (.iconst 3, 1) := by decide +kernel
theorem dX4_readItem_20 : decode prog_6_method_3_code 20 = .ok (.invokevirtual 34, 3) := by decide +kernel
theorem dX4_readItem_23 : decode prog_6_method_3_code 23 = .ok (.istore 5, 2) := by decide +kernel
theorem dX4_readItem_25 : decode prog_6_method_3_code 25 = .ok (.iload 5, 2) := by decide +kernel
theorem dX4_readItem_27 : decode prog_6_method_3_code 27 = .ok (.bipush (-4), 2) := by decide +kernel
theorem dX4_readItem_29 : decode prog_6_method_3_code 29 = .ok (.if_icmp .eq 33, 3) := by decide +kernel
theorem dX4_readItem_32 : decode prog_6_method_3_code 32 = .ok (.aload_n 3, 1) := by decide +kernel
theorem dX4_readItem_33 : decode prog_6_method_3_code 33 = .ok (.aload_n 0, 1) := by decide +kernel
theorem dX4_readItem_34 : decode prog_6_method_3_code 34 = .ok (.getfield 11, 3) := by decide +kernel
theorem dX4_readItem_37 : decode prog_6_method_3_code 37 = .ok (.iconst 0, 1) := by decide +kernel
theorem dX4_readItem_38 : decode prog_6_method_3_code 38 = .ok (.iaload, 1) := by decide +kernel
theorem dX4_readItem_39 : decode prog_6_method_3_code 39 = .ok (.aload_n 0, 1) := by decide +kernel
theorem dX4_readItem_40 : decode prog_6_method_3_code 40 = .ok (.getfield 11, 3) := by decide +kernel
theorem dX4_readItem_43 : decode prog_6_method_3_code 43 = .ok (.iconst 1, 1) := by decide +kernel
theorem dX4_readItem_44 : decode prog_6_method_3_code 44 = .ok (.iaload, 1) := by decide +kernel
theorem dX4_readItem_45 : decode prog_6_method_3_code 45 = .ok (.aload_n 0, 1) := by decide +kernel
theorem dX4_readItem_46 : decode prog_6_method_3_code 46 = .ok (.getfield 11, 3) := by decide +kernel
theorem dX4_readItem_49 : decode prog_6_method_3_code 49 = .ok (.iconst 2, 1) := by decide +kernel
theorem dX4_readItem_50 : decode prog_6_method_3_code 50 = .ok (.iaload, 1) := by decide +kernel
theorem dX4_readItem_51 : decode prog_6_method_3_code 51 = .ok (.invokevirtual 38, 3) := by decide +kernel
theorem dX4_readItem_54 : decode prog_6_method_3_code 54 = .ok (.ifCond .eq 8, 3) := by decide +kernel
theorem dX4_readItem_57 : decode prog_6_method_3_code 57 = .ok (.iload 5, 2) := by decide +kernel
theorem dX4_readItem_59 : decode prog_6_method_3_code 59 = .ok (.goto 5, 3) := by decide +kernel
theorem dX4_readItem_62 : decode prog_6_method_3_code 62 = .ok (.bipush (-4), 2) := by decide +kernel
theorem dX4_readItem_64 : decode prog_6_method_3_code 64 = .ok (.ireturn, 1) := by decide +kernel
theorem dX4_readItem_65 : decode prog_6_method_3_code 65 = .ok (.iload 4, 2) := by decide +kernel
theorem dX4_readItem_67 : decode prog_6_method_3_code 67 = .ok (.bipush 115, 2) := by decide +kernel
theorem dX4_readItem_69 : decode prog_6_method_3_code 69 = .ok (.if_icmp .ne 42, 3) := by decide +kernel
theorem dX4_readItem_72 : decode prog_6_method_3_code 72 = .ok (.aload_n 0, 1) := by decide +kernel
theorem dX4_readItem_73 : decode prog_6_method_3_code 73 = .ok (.aload_n 1, 1) := by decide +kernel
theorem dX4_readItem_74 : decode prog_6_method_3_code 74 = .ok (.iload_n 2, 1) := by decide +kernel
theorem dX4_readItem_75 : decode prog_6_method_3_code 75 = .ok (.iconst 1, 1) := by decide +kernel
theorem dX4_readItem_76 : decode prog_6_method_3_code 76 = .ok (.iadd, 1) := by decide +kernel
theorem dX4_readItem_77 : decode prog_6_method_3_code 77 = .ok (.iconst 1, 1) := by decide +kernel
theorem dX4_readItem_78 : decode prog_6_method_3_code 78 = .ok (.invokevirtual 34, 3) := by decide +kernel
theorem dX4_readItem_81 : decode prog_6_method_3_code 81 = .ok (.istore 5, 2) := by decide +kernel
theorem dX4_readItem_83 : decode prog_6_method_3_code 83 = .ok (.iload 5, 2) := by decide +kernel
theorem dX4_readItem_85 : decode prog_6_method_3_code 85 = .ok (.bipush (-4), 2) := by decide +kernel
theorem dX4_readItem_87 : decode prog_6_method_3_code 87 = .ok (.if_icmp .eq 21, 3) := by decide +kernel
theorem dX4_readItem_90 : decode prog_6_method_3_code 90 = .ok (.aload_n 3, 1) := by decide +kernel
theorem dX4_readItem_91 : decode prog_6_method_3_code 91 = .ok (.aload_n 0, 1) := by decide +kernel
theorem dX4_readItem_92 : decode prog_6_method_3_code 92 = .ok (.getfield 11, 3) := by decide +kernel
theorem dX4_readItem_95 : decode prog_6_method_3_code 95 = .ok (.iconst 0, 1) := by decide +kernel
theorem dX4_readItem_96 : decode prog_6_method_3_code 96 = .ok (.iaload, 1) := by decide +kernel
theorem dX4_readItem_97 : decode prog_6_method_3_code 97 = .ok (.invokevirtual 42, 3) := by decide +kernel
theorem dX4_readItem_100 : decode prog_6_method_3_code 100 = .ok (.ifCond .eq 8, 3) := by decide +kernel
theorem dX4_readItem_103 : decode prog_6_method_3_code 103 = .ok (.iload 5, 2) := by decide +kernel
theorem dX4_readItem_105 : decode prog_6_method_3_code 105 = .ok (.goto 5, 3) := by decide +kernel
theorem dX4_readItem_108 : decode prog_6_method_3_code 108 = .ok (.bipush (-4), 2) := by decide +kernel
theorem dX4_readItem_110 : decode prog_6_method_3_code 110 = .ok (.ireturn, 1) := by decide +kernel
theorem dX4_readItem_111 : decode prog_6_method_3_code 111 = .ok (.bipush (-4), 2) := by decide +kernel
theorem dX4_readItem_113 : decode prog_6_method_3_code 113 = .ok (.ireturn, 1) := by decide +kernel
theorem okM_X4_readItem : okM mX4_readItem 3 := ⟨tw256, tw3, by decide, by decide, by decide +kernel⟩
def bX4_readItem_110 (w : XW) (s0 : Int32) : Option (Int32 × XW) :=
  some (s0, w)
theorem BX4_readItem_110 {K : CX} {l : Launch} {n0 k0 : Nat} {w : XW} {s0 : Int32} {q : Int32 × XW} (h0 : bX4_readItem_110 w s0 = some q) : WP K l mX4_readItem 4 94 n0 k0 (some (.int q.1)) q.2 110 [none, none, none, none, none, none] [.int s0] w := by
  unfold bX4_readItem_110 at h0
  cases h0
  exact wp_iret rfl dX4_readItem_110
def bX4_readItem_108 (w : XW) : Option (Int32 × XW) :=
  bX4_readItem_110 w (-4 : Int32)
theorem BX4_readItem_108 {K : CX} {l : Launch} {n0 k0 : Nat} {w : XW} {q : Int32 × XW} (h0 : bX4_readItem_108 w = some q) : WP K l mX4_readItem 4 94 n0 k0 (some (.int q.1)) q.2 108 [none, none, none, none, none, none] [] w := by
  unfold bX4_readItem_108 at h0
  refine wp_bipush (v := (-4 : Int32)) dX4_readItem_108 (by decide) ?_
  exact WP.wk (BX4_readItem_110 h0) trivial
def bX4_readItem_64 (w : XW) (s0 : Int32) : Option (Int32 × XW) :=
  some (s0, w)
theorem BX4_readItem_64 {K : CX} {l : Launch} {n0 k0 : Nat} {w : XW} {s0 : Int32} {q : Int32 × XW} (h0 : bX4_readItem_64 w s0 = some q) : WP K l mX4_readItem 4 94 n0 k0 (some (.int q.1)) q.2 64 [none, none, none, none, none, none] [.int s0] w := by
  unfold bX4_readItem_64 at h0
  cases h0
  exact wp_iret rfl dX4_readItem_64
def bX4_readItem_62 (w : XW) : Option (Int32 × XW) :=
  bX4_readItem_64 w (-4 : Int32)
theorem BX4_readItem_62 {K : CX} {l : Launch} {n0 k0 : Nat} {w : XW} {q : Int32 × XW} (h0 : bX4_readItem_62 w = some q) : WP K l mX4_readItem 4 94 n0 k0 (some (.int q.1)) q.2 62 [none, none, none, none, none, none] [] w := by
  unfold bX4_readItem_62 at h0
  refine wp_bipush (v := (-4 : Int32)) dX4_readItem_62 (by decide) ?_
  exact WP.wk (BX4_readItem_64 h0) trivial
def eX4_readItem (w : XW) (l0 : Nat) (l1 : Nat) (l2 : Int32) (l3 : Nat) : Option (Int32 × XW) :=
  (fX6_letterAt w l1 l2).bind fun q1 =>
  if q1.1 = (102 : Int32) then
  (fX4_readNumbers q1.2 l0 l1 (l2 + (1 : Int32)) (3 : Int32)).bind fun q20 =>
  if q20.1 = (-4 : Int32) then
  bX4_readItem_62 q20.2
  else
  (gR q20.2 l0 4 0).bind fun x24 =>
  (aI q20.2 0 x24 (0 : Int32)).bind fun x27 =>
  (gR q20.2 l0 4 0).bind fun x30 =>
  (aI q20.2 0 x30 (1 : Int32)).bind fun x33 =>
  (gR q20.2 l0 4 0).bind fun x36 =>
  (aI q20.2 0 x36 (2 : Int32)).bind fun x39 =>
  (fX1_add q20.2 l3 x27 x33 x39).bind fun q42 =>
  if q42.1 = 0 then
  bX4_readItem_62 q42.2
  else
  bX4_readItem_64 q42.2 q20.1
  else
  if q1.1 = (115 : Int32) then
  (fX4_readNumbers q1.2 l0 l1 (l2 + (1 : Int32)) (1 : Int32)).bind fun q6 =>
  if q6.1 = (-4 : Int32) then
  bX4_readItem_108 q6.2
  else
  (gR q6.2 l0 4 0).bind fun x10 =>
  (aI q6.2 0 x10 (0 : Int32)).bind fun x13 =>
  (fX1_startAt q6.2 l3 x13).bind fun q16 =>
  if q16.1 = 0 then
  bX4_readItem_108 q16.2
  else
  bX4_readItem_110 q16.2 q6.1
  else
  some ((-4 : Int32), q1.2)
theorem EX4_readItem {K : CX} {l : Launch} {n0 k0 : Nat} {w : XW} {l0 : Nat} {l1 : Nat} {l2 : Int32} {l3 : Nat} {q : Int32 × XW} (h0 : eX4_readItem w l0 l1 l2 l3 = some q) : WP K l mX4_readItem 4 94 n0 k0 (some (.int q.1)) q.2 0 [some (.ref l0), some (.ref l1), some (.int l2), some (.ref l3), none, none] [] w := by
  unfold eX4_readItem at h0
  refine wp_aload_n dX4_readItem_0 rfl ?_
  refine wp_iload_n dX4_readItem_1 rfl ?_
  obtain ⟨q1, e3, h2⟩ := Option.bind_eq_some_iff.mp h0
  clear h0
  refine wp_Vi (As := [.int l2]) (S := []) okM_X6_letterAt tw258 tw259 tw257 (OX6_letterAt e3) rfl rfl rfl ⟨(Nat.le_of_ble_eq_true rfl), (Nat.le_of_ble_eq_true rfl)⟩ (Nat.le_of_ble_eq_true rfl) rfl dX4_readItem_2 (MX6_letterAt e3) ?_
  refine wp_istore (L1 := [some (.ref l0), some (.ref l1), some (.int l2), some (.ref l3), some (.int q1.1), none]) dX4_readItem_5 (Nat.le_of_ble_eq_true rfl) rfl ?_
  refine wp_iload dX4_readItem_7 rfl ?_
  refine wp_bipush (v := (102 : Int32)) dX4_readItem_9 (by decide) ?_
  refine wp_icmp_ne (tgt := 65) dX4_readItem_11 (by decide) (fun c4 => ?_) (fun c4 => ?_)
  · rw [if_neg c4] at h2
    refine wp_iload dX4_readItem_65 rfl ?_
    refine wp_bipush (v := (115 : Int32)) dX4_readItem_67 (by decide) ?_
    refine wp_icmp_ne (tgt := 111) dX4_readItem_69 (by decide) (fun c5 => ?_) (fun c5 => ?_)
    · rw [if_neg c5] at h2
      refine wp_bipush (v := (-4 : Int32)) dX4_readItem_111 (by decide) ?_
      cases h2
      exact wp_iret rfl dX4_readItem_113
    · rw [if_pos c5] at h2
      refine wp_aload_n dX4_readItem_72 rfl ?_
      refine wp_aload_n dX4_readItem_73 rfl ?_
      refine wp_iload_n dX4_readItem_74 rfl ?_
      refine wp_iconst (v := (1 : Int32)) dX4_readItem_75 (by decide) ?_
      refine wp_iadd dX4_readItem_76 ?_
      refine wp_iconst (v := (1 : Int32)) dX4_readItem_77 (by decide) ?_
      obtain ⟨q6, e8, h7⟩ := Option.bind_eq_some_iff.mp h2
      clear h2
      refine wp_Vi (As := [.ref l1, .int (l2 + (1 : Int32)), .int (1 : Int32)]) (S := []) okM_X4_readNumbers tw263 twP_X4_readNumbers tw261 (OX4_readNumbers e8) rfl rfl rfl ⟨(Nat.le_of_ble_eq_true rfl), (Nat.le_of_ble_eq_true rfl)⟩ (Nat.le_of_ble_eq_true rfl) rfl dX4_readItem_78 (MX4_readNumbers e8) ?_
      refine wp_istore (L1 := [some (.ref l0), some (.ref l1), some (.int l2), some (.ref l3), some (.int q1.1), some (.int q6.1)]) dX4_readItem_81 (Nat.le_of_ble_eq_true rfl) rfl ?_
      refine wp_iload dX4_readItem_83 rfl ?_
      refine wp_bipush (v := (-4 : Int32)) dX4_readItem_85 (by decide) ?_
      refine wp_icmp_eq (tgt := 108) dX4_readItem_87 (by decide) (fun c9 => ?_) (fun c9 => ?_)
      · rw [if_pos c9] at h7
        exact WP.wk (BX4_readItem_108 h7) trivial
      · rw [if_neg c9] at h7
        refine wp_aload_n dX4_readItem_90 rfl ?_
        refine wp_aload_n dX4_readItem_91 rfl ?_
        obtain ⟨x10, e12, h11⟩ := Option.bind_eq_some_iff.mp h7
        clear h7
        refine wp_getR okX4 (k := 0) (by decide) tw47 dX4_readItem_92 e12 ?_
        refine wp_iconst (v := (0 : Int32)) dX4_readItem_95 (by decide) ?_
        obtain ⟨x13, e15, h14⟩ := Option.bind_eq_some_iff.mp h11
        clear h11
        refine wp_iald dX4_readItem_96 e15 ?_
        obtain ⟨q16, e18, h17⟩ := Option.bind_eq_some_iff.mp h14
        clear h14
        refine wp_Vi (As := [.int x13]) (S := []) okM_X1_startAt tw242 tw243 tw282 (OX1_startAt e18) rfl rfl rfl ⟨(Nat.le_of_ble_eq_true rfl), (Nat.le_of_ble_eq_true rfl)⟩ (Nat.le_of_ble_eq_true rfl) rfl dX4_readItem_97 (MX1_startAt e18) ?_
        refine wp_if_eq (tgt := 108) dX4_readItem_100 (by decide) (fun c19 => ?_) (fun c19 => ?_)
        · rw [if_pos c19] at h17
          exact WP.wk (BX4_readItem_108 h17) trivial
        · rw [if_neg c19] at h17
          refine wp_iload dX4_readItem_103 rfl ?_
          refine wp_goto (tgt := 110) dX4_readItem_105 (by decide) ?_
          exact WP.wk (BX4_readItem_110 h17) trivial
  · rw [if_pos c4] at h2
    refine wp_aload_n dX4_readItem_14 rfl ?_
    refine wp_aload_n dX4_readItem_15 rfl ?_
    refine wp_iload_n dX4_readItem_16 rfl ?_
    refine wp_iconst (v := (1 : Int32)) dX4_readItem_17 (by decide) ?_
    refine wp_iadd dX4_readItem_18 ?_
    refine wp_iconst (v := (3 : Int32)) dX4_readItem_19 (by decide) ?_
    obtain ⟨q20, e22, h21⟩ := Option.bind_eq_some_iff.mp h2
    clear h2
    refine wp_Vi (As := [.ref l1, .int (l2 + (1 : Int32)), .int (3 : Int32)]) (S := []) okM_X4_readNumbers tw263 twP_X4_readNumbers tw261 (OX4_readNumbers e22) rfl rfl rfl ⟨(Nat.le_of_ble_eq_true rfl), (Nat.le_of_ble_eq_true rfl)⟩ (Nat.le_of_ble_eq_true rfl) rfl dX4_readItem_20 (MX4_readNumbers e22) ?_
    refine wp_istore (L1 := [some (.ref l0), some (.ref l1), some (.int l2), some (.ref l3), some (.int q1.1), some (.int q20.1)]) dX4_readItem_23 (Nat.le_of_ble_eq_true rfl) rfl ?_
    refine wp_iload dX4_readItem_25 rfl ?_
    refine wp_bipush (v := (-4 : Int32)) dX4_readItem_27 (by decide) ?_
    refine wp_icmp_eq (tgt := 62) dX4_readItem_29 (by decide) (fun c23 => ?_) (fun c23 => ?_)
    · rw [if_pos c23] at h21
      exact WP.wk (BX4_readItem_62 h21) trivial
    · rw [if_neg c23] at h21
      refine wp_aload_n dX4_readItem_32 rfl ?_
      refine wp_aload_n dX4_readItem_33 rfl ?_
      obtain ⟨x24, e26, h25⟩ := Option.bind_eq_some_iff.mp h21
      clear h21
      refine wp_getR okX4 (k := 0) (by decide) tw47 dX4_readItem_34 e26 ?_
      refine wp_iconst (v := (0 : Int32)) dX4_readItem_37 (by decide) ?_
      obtain ⟨x27, e29, h28⟩ := Option.bind_eq_some_iff.mp h25
      clear h25
      refine wp_iald dX4_readItem_38 e29 ?_
      refine wp_aload_n dX4_readItem_39 rfl ?_
      obtain ⟨x30, e32, h31⟩ := Option.bind_eq_some_iff.mp h28
      clear h28
      refine wp_getR okX4 (k := 0) (by decide) tw47 dX4_readItem_40 e32 ?_
      refine wp_iconst (v := (1 : Int32)) dX4_readItem_43 (by decide) ?_
      obtain ⟨x33, e35, h34⟩ := Option.bind_eq_some_iff.mp h31
      clear h31
      refine wp_iald dX4_readItem_44 e35 ?_
      refine wp_aload_n dX4_readItem_45 rfl ?_
      obtain ⟨x36, e38, h37⟩ := Option.bind_eq_some_iff.mp h34
      clear h34
      refine wp_getR okX4 (k := 0) (by decide) tw47 dX4_readItem_46 e38 ?_
      refine wp_iconst (v := (2 : Int32)) dX4_readItem_49 (by decide) ?_
      obtain ⟨x39, e41, h40⟩ := Option.bind_eq_some_iff.mp h37
      clear h37
      refine wp_iald dX4_readItem_50 e41 ?_
      obtain ⟨q42, e44, h43⟩ := Option.bind_eq_some_iff.mp h40
      clear h40
      refine wp_Vi (As := [.int x27, .int x33, .int x39]) (S := []) okM_X1_add tw273 tw274 tw272 (OX1_add e44) rfl rfl rfl ⟨(Nat.le_of_ble_eq_true rfl), (Nat.le_of_ble_eq_true rfl)⟩ (Nat.le_of_ble_eq_true rfl) rfl dX4_readItem_51 (MX1_add e44) ?_
      refine wp_if_eq (tgt := 62) dX4_readItem_54 (by decide) (fun c45 => ?_) (fun c45 => ?_)
      · rw [if_pos c45] at h43
        exact WP.wk (BX4_readItem_62 h43) trivial
      · rw [if_neg c45] at h43
        refine wp_iload dX4_readItem_57 rfl ?_
        refine wp_goto (tgt := 64) dX4_readItem_59 (by decide) ?_
        exact WP.wk (BX4_readItem_64 h43) trivial
def fX4_readItem (w : XW) (l0 : Nat) (l1 : Nat) (l2 : Int32) (l3 : Nat) : Option (Int32 × XW) := if isO w l0 4 = true then eX4_readItem w l0 l1 l2 l3 else none
theorem OX4_readItem {w : XW} {l0 : Nat} {l1 : Nat} {l2 : Int32} {l3 : Nat} {q : Int32 × XW} (h : fX4_readItem w l0 l1 l2 l3 = some q) : isO w l0 4 = true := Decidable.byContradiction fun z => by unfold fX4_readItem at h; rw [if_neg z] at h; cases h
theorem MX4_readItem {K : CX} {l : Launch} {w : XW} {l0 : Nat} {l1 : Nat} {l2 : Int32} {l3 : Nat} {q : Int32 × XW} (h : fX4_readItem w l0 l1 l2 l3 = some q) : MT K l mX4_readItem 4 94 [.ref l0, .ref l1, .int l2, .ref l3] w (some (.int q.1)) q.2 := by
  have z := OX4_readItem h
  unfold fX4_readItem at h
  rw [if_pos z] at h
  exact MT.of (by decide) (Nat.le_of_ble_eq_true rfl) rfl (EX4_readItem h)
/-! FractionRun$Reader.read(LFractionRun$Text;LFractionRun$Fractions;)I: frames 5, words 119 -/
abbrev mX4_read : MR := (⟨"FractionRun$Reader", "read", "(LFractionRun$Text;LFractionRun$Fractions;)I"⟩, prog_6_method_2_code, 6, (some .int))
theorem dX4_read_0 : decode prog_6_method_2_code 0 = .ok (.aload_n 2, 1) := by decide +kernel
theorem dX4_read_1 : decode prog_6_method_2_code 1 = .ok (.invokevirtual 15, 3) := by decide +kernel
theorem dX4_read_4 : decode prog_6_method_2_code 4 = .ok (.iconst 0, 1) := by decide +kernel
theorem dX4_read_5 : decode prog_6_method_2_code 5 = .ok (.istore_n 3, 1) := by decide +kernel
theorem dX4_read_6 : decode prog_6_method_2_code 6 = .ok (.iconst 0, 1) := by decide +kernel
theorem dX4_read_7 : decode prog_6_method_2_code 7 = .ok (.istore 4, 2) := by decide +kernel
theorem dX4_read_9 : decode prog_6_method_2_code 9 = .ok (.iload 4, 2) := by decide +kernel
theorem dX4_read_11 : decode prog_6_method_2_code 11 = .ok (.sipush 200, 3) := by decide +kernel
theorem dX4_read_14 : decode prog_6_method_2_code 14 = .ok (.if_icmp .ge 38, 3) := by decide +kernel
theorem dX4_read_17 : decode prog_6_method_2_code 17 = .ok (.iload_n 3, 1) := by decide +kernel
theorem dX4_read_18 : decode prog_6_method_2_code 18 = .ok (.aload_n 1, 1) := by decide +kernel
theorem dX4_read_19 : decode prog_6_method_2_code 19 = .ok (.getfield 20, 3) := by decide +kernel
theorem dX4_read_22 : decode prog_6_method_2_code 22 = .ok (.if_icmp .ge 30, 3) := by decide +kernel
theorem dX4_read_25 : decode prog_6_method_2_code 25 = .ok (.aload_n 0, 1) := by decide +kernel
theorem dX4_read_26 : decode prog_6_method_2_code 26 = .ok (.aload_n 1, 1) := by decide +kernel
theorem dX4_read_27 : decode prog_6_method_2_code 27 = .ok (.iload_n 3, 1) := by decide +kernel
theorem dX4_read_28 : decode prog_6_method_2_code 28 = .ok (.aload_n 2, 1) := by decide +kernel
theorem dX4_read_29 : decode prog_6_method_2_code 29 = .ok (.invokevirtual 26, 3) := by decide +kernel
theorem dX4_read_32 : decode prog_6_method_2_code 32 = .ok (.istore 5, 2) := by decide +kernel
theorem dX4_read_34 : decode prog_6_method_2_code 34 = .ok (.iload 5, 2) := by decide +kernel
theorem dX4_read_36 : decode prog_6_method_2_code 36 = .ok (.bipush (-4), 2) := by decide +kernel
theorem dX4_read_38 : decode prog_6_method_2_code 38 = .ok (.if_icmp .ne 5, 3) := by decide +kernel
theorem dX4_read_41 : decode prog_6_method_2_code 41 = .ok (.iload_n 3, 1) := by decide +kernel
theorem dX4_read_42 : decode prog_6_method_2_code 42 = .ok (.ireturn, 1) := by decide +kernel
theorem dX4_read_43 : decode prog_6_method_2_code 43 = .ok (.iload 5, 2) := by decide +kernel
theorem dX4_read_45 : decode prog_6_method_2_code 45 = .ok (.istore_n 3, 1) := by decide +kernel
theorem dX4_read_46 : decode prog_6_method_2_code 46 = .ok (.iinc 4 1, 3) := by decide +kernel
theorem dX4_read_49 : decode prog_6_method_2_code 49 = .ok (.goto (-40), 3) := by decide +kernel
theorem dX4_read_52 : decode prog_6_method_2_code 52 = .ok (.bipush (-4), 2) := by decide +kernel
theorem dX4_read_54 : decode prog_6_method_2_code 54 = .ok (.ireturn, 1) := by decide +kernel
theorem okM_X4_read : okM mX4_read 2 := ⟨tw236, tw3, by decide, by decide, by decide +kernel⟩
abbrev KTX4_read : Type := (XW → Nat → Nat → Nat → Int32 → Int32 → Option (Int32 × XW))
def bX4_read_52 (k : KTX4_read) (w : XW) : Option (Int32 × XW) :=
  some ((-4 : Int32), w)
theorem BX4_read_52 {K : CX} {l : Launch} {n0 k0 : Nat} {k : KTX4_read} (hk0 : ∀ (w : XW) (l0 : Nat) (l1 : Nat) (l2 : Nat) (l3 : Int32) (l4 : Int32) (q : Int32 × XW), k w l0 l1 l2 l3 l4 = some q → WP K l mX4_read 5 119 n0 k0 (some (.int q.1)) q.2 9 [some (.ref l0), some (.ref l1), some (.ref l2), some (.int l3), some (.int l4), none] [] w) {w : XW} {q : Int32 × XW} (h0 : bX4_read_52 k w = some q) : WP K l mX4_read 5 119 n0 k0 (some (.int q.1)) q.2 52 [none, none, none, none, none, none] [] w := by
  unfold bX4_read_52 at h0
  refine wp_bipush (v := (-4 : Int32)) dX4_read_52 (by decide) ?_
  cases h0
  exact wp_iret rfl dX4_read_54
def hX4_read_9 (k : KTX4_read) (w : XW) (l0 : Nat) (l1 : Nat) (l2 : Nat) (l3 : Int32) (l4 : Int32) : Option (Int32 × XW) :=
  if (200 : Int32) ≤ l4 then
  bX4_read_52 k w
  else
  (gI w l1 6 1).bind fun x2 =>
  if x2 ≤ l3 then
  bX4_read_52 k w
  else
  (fX4_readItem w l0 l1 l3 l2).bind fun q6 =>
  if q6.1 = (-4 : Int32) then
  some (l3, q6.2)
  else
  k q6.2 l0 l1 l2 q6.1 (l4 + (1 : Int32))
theorem HX4_read_9 {K : CX} {l : Launch} {n0 k0 : Nat} {k : KTX4_read} (hk0 : ∀ (w : XW) (l0 : Nat) (l1 : Nat) (l2 : Nat) (l3 : Int32) (l4 : Int32) (q : Int32 × XW), k w l0 l1 l2 l3 l4 = some q → WP K l mX4_read 5 119 n0 k0 (some (.int q.1)) q.2 9 [some (.ref l0), some (.ref l1), some (.ref l2), some (.int l3), some (.int l4), none] [] w) {w : XW} {l0 : Nat} {l1 : Nat} {l2 : Nat} {l3 : Int32} {l4 : Int32} {q : Int32 × XW} (h0 : hX4_read_9 k w l0 l1 l2 l3 l4 = some q) : WP K l mX4_read 5 119 n0 k0 (some (.int q.1)) q.2 9 [some (.ref l0), some (.ref l1), some (.ref l2), some (.int l3), some (.int l4), none] [] w := by
  unfold hX4_read_9 at h0
  refine wp_iload dX4_read_9 rfl ?_
  refine wp_sipush (v := (200 : Int32)) dX4_read_11 (by decide) ?_
  refine wp_icmp_ge (tgt := 52) dX4_read_14 (by decide) (fun c1 => ?_) (fun c1 => ?_)
  · rw [if_pos c1] at h0
    exact WP.wk (BX4_read_52 hk0 h0) trivial
  · rw [if_neg c1] at h0
    refine wp_iload_n dX4_read_17 rfl ?_
    refine wp_aload_n dX4_read_18 rfl ?_
    obtain ⟨x2, e4, h3⟩ := Option.bind_eq_some_iff.mp h0
    clear h0
    refine wp_getI okX6 (k := 1) (by decide) tw34 dX4_read_19 e4 ?_
    refine wp_icmp_ge (tgt := 52) dX4_read_22 (by decide) (fun c5 => ?_) (fun c5 => ?_)
    · rw [if_pos c5] at h3
      exact WP.wk (BX4_read_52 hk0 h3) trivial
    · rw [if_neg c5] at h3
      refine wp_aload_n dX4_read_25 rfl ?_
      refine wp_aload_n dX4_read_26 rfl ?_
      refine wp_iload_n dX4_read_27 rfl ?_
      refine wp_aload_n dX4_read_28 rfl ?_
      obtain ⟨q6, e8, h7⟩ := Option.bind_eq_some_iff.mp h3
      clear h3
      refine wp_Vi (As := [.ref l1, .int l3, .ref l2]) (S := []) okM_X4_readItem tw255 twP_X4_readItem tw253 (OX4_readItem e8) rfl rfl rfl ⟨(Nat.le_of_ble_eq_true rfl), (Nat.le_of_ble_eq_true rfl)⟩ (Nat.le_of_ble_eq_true rfl) rfl dX4_read_29 (MX4_readItem e8) ?_
      refine wp_istore (L1 := [some (.ref l0), some (.ref l1), some (.ref l2), some (.int l3), some (.int l4), some (.int q6.1)]) dX4_read_32 (Nat.le_of_ble_eq_true rfl) rfl ?_
      refine wp_iload dX4_read_34 rfl ?_
      refine wp_bipush (v := (-4 : Int32)) dX4_read_36 (by decide) ?_
      refine wp_icmp_ne (tgt := 43) dX4_read_38 (by decide) (fun c9 => ?_) (fun c9 => ?_)
      · rw [if_neg c9] at h7
        refine wp_iload dX4_read_43 rfl ?_
        refine wp_istore_n (L1 := [some (.ref l0), some (.ref l1), some (.ref l2), some (.int q6.1), some (.int l4), some (.int q6.1)]) dX4_read_45 (Nat.le_of_ble_eq_true rfl) rfl ?_
        refine wp_iinc (v := (l4 + (1 : Int32))) (L1 := [some (.ref l0), some (.ref l1), some (.ref l2), some (.int q6.1), some (.int (l4 + (1 : Int32))), some (.int q6.1)]) dX4_read_46 (Nat.le_of_ble_eq_true rfl) rfl (congrArg (fun z => l4 + z) (by decide)) rfl ?_
        refine wp_goto (tgt := 9) dX4_read_49 (by decide) ?_
        exact WP.wk (hk0 _ _ _ _ _ _ _ h7) (And.intro rfl (And.intro rfl (And.intro rfl (And.intro rfl (And.intro rfl trivial)))))
      · rw [if_pos c9] at h7
        refine wp_iload_n dX4_read_41 rfl ?_
        cases h7
        exact wp_iret rfl dX4_read_42
def eX4_read (k : KTX4_read) (w : XW) (l0 : Nat) (l1 : Nat) (l2 : Nat) : Option (Int32 × XW) :=
  (fX1_clear w l2).bind fun q1 =>
  k q1 l0 l1 l2 (0 : Int32) (0 : Int32)
theorem EX4_read {K : CX} {l : Launch} {n0 k0 : Nat} {k : KTX4_read} (hk0 : ∀ (w : XW) (l0 : Nat) (l1 : Nat) (l2 : Nat) (l3 : Int32) (l4 : Int32) (q : Int32 × XW), k w l0 l1 l2 l3 l4 = some q → WP K l mX4_read 5 119 n0 k0 (some (.int q.1)) q.2 9 [some (.ref l0), some (.ref l1), some (.ref l2), some (.int l3), some (.int l4), none] [] w) {w : XW} {l0 : Nat} {l1 : Nat} {l2 : Nat} {q : Int32 × XW} (h0 : eX4_read k w l0 l1 l2 = some q) : WP K l mX4_read 5 119 n0 k0 (some (.int q.1)) q.2 0 [some (.ref l0), some (.ref l1), some (.ref l2), none, none, none] [] w := by
  unfold eX4_read at h0
  refine wp_aload_n dX4_read_0 rfl ?_
  obtain ⟨q1, e3, h2⟩ := Option.bind_eq_some_iff.mp h0
  clear h0
  refine wp_Vv (As := []) (S := []) okM_X1_clear tw238 tw239 tw237 (OX1_clear e3) rfl rfl rfl ⟨(Nat.le_of_ble_eq_true rfl), (Nat.le_of_ble_eq_true rfl)⟩ (Nat.le_of_ble_eq_true rfl) rfl dX4_read_1 (MX1_clear e3) ?_
  refine wp_iconst (v := (0 : Int32)) dX4_read_4 (by decide) ?_
  refine wp_istore_n (L1 := [some (.ref l0), some (.ref l1), some (.ref l2), some (.int (0 : Int32)), none, none]) dX4_read_5 (Nat.le_of_ble_eq_true rfl) rfl ?_
  refine wp_iconst (v := (0 : Int32)) dX4_read_6 (by decide) ?_
  refine wp_istore (L1 := [some (.ref l0), some (.ref l1), some (.ref l2), some (.int (0 : Int32)), some (.int (0 : Int32)), none]) dX4_read_7 (Nat.le_of_ble_eq_true rfl) rfl ?_
  exact WP.wk (hk0 _ _ _ _ _ _ _ h2) (And.intro rfl (And.intro rfl (And.intro rfl (And.intro rfl (And.intro rfl trivial)))))
def loX4_read : Nat → KTX4_read
  | 0 => fun _ _ _ _ _ _ => none
  | n + 1 => hX4_read_9 (loX4_read n)
theorem LOX4_read {K : CX} {l : Launch} {n0 k0 : Nat} : ∀ n : Nat, (∀ (w : XW) (l0 : Nat) (l1 : Nat) (l2 : Nat) (l3 : Int32) (l4 : Int32) (q : Int32 × XW), (loX4_read n) w l0 l1 l2 l3 l4 = some q → WP K l mX4_read 5 119 n0 k0 (some (.int q.1)) q.2 9 [some (.ref l0), some (.ref l1), some (.ref l2), some (.int l3), some (.int l4), none] [] w) := by
  intro n
  induction n with
  | zero => exact fun _ _ _ _ _ _ q h => (by cases h)
  | succ n ih => exact fun _ _ _ _ _ _ q h => HX4_read_9 ih h
def fX4_read (w : XW) (l0 : Nat) (l1 : Nat) (l2 : Nat) : Option (Int32 × XW) := if isO w l0 4 = true then eX4_read (loX4_read FU) w l0 l1 l2 else none
theorem OX4_read {w : XW} {l0 : Nat} {l1 : Nat} {l2 : Nat} {q : Int32 × XW} (h : fX4_read w l0 l1 l2 = some q) : isO w l0 4 = true := Decidable.byContradiction fun z => by unfold fX4_read at h; rw [if_neg z] at h; cases h
theorem MX4_read {K : CX} {l : Launch} {w : XW} {l0 : Nat} {l1 : Nat} {l2 : Nat} {q : Int32 × XW} (h : fX4_read w l0 l1 l2 = some q) : MT K l mX4_read 5 119 [.ref l0, .ref l1, .ref l2] w (some (.int q.1)) q.2 := by
  have z := OX4_read h
  unfold fX4_read at h
  rw [if_pos z] at h
  exact MT.of (by decide) (Nat.le_of_ble_eq_true rfl) rfl (EX4_read (LOX4_read FU) h)
/-! FractionRun$Text.clear()V: frames 1, words 20 -/
abbrev mX6_clear : MR := (⟨"FractionRun$Text", "clear", "()V"⟩, prog_8_method_3_code, 1, none)
theorem dX6_clear_0 : decode prog_8_method_3_code 0 = .ok (.aload_n 0, 1) := by decide +kernel
theorem dX6_clear_1 : decode prog_8_method_3_code 1 = .ok (.iconst 0, 1) := by decide +kernel
theorem dX6_clear_2 : decode prog_8_method_3_code 2 = .ok (.putfield 15, 3) := by decide +kernel
theorem dX6_clear_5 : decode prog_8_method_3_code 5 = .ok (.return_, 1) := by decide +kernel
theorem okM_X6_clear : okM mX6_clear 0 := ⟨tw286, tw2, by decide, by decide, by decide +kernel⟩
def eX6_clear (w : XW) (l0 : Nat) : Option XW :=
  (pV w l0 6 1 (.int (0 : Int32))).bind fun w1 =>
  some w1
theorem EX6_clear {K : CX} {l : Launch} {n0 k0 : Nat} {w : XW} {l0 : Nat} {q : XW} (h0 : eX6_clear w l0 = some q) : WP K l mX6_clear 1 20 n0 k0 none q 0 [some (.ref l0)] [] w := by
  unfold eX6_clear at h0
  refine wp_aload_n dX6_clear_0 rfl ?_
  refine wp_iconst (v := (0 : Int32)) dX6_clear_1 (by decide) ?_
  obtain ⟨w1, e3, h2⟩ := Option.bind_eq_some_iff.mp h0
  clear h0
  refine wp_putV okX6 (k := 1) (by decide) rfl tw32 dX6_clear_2 rfl rfl e3 ?_
  cases h2
  exact wp_vret rfl dX6_clear_5
def fX6_clear (w : XW) (l0 : Nat) : Option XW := if isO w l0 6 = true then eX6_clear w l0 else none
theorem OX6_clear {w : XW} {l0 : Nat} {q : XW} (h : fX6_clear w l0 = some q) : isO w l0 6 = true := Decidable.byContradiction fun z => by unfold fX6_clear at h; rw [if_neg z] at h; cases h
theorem MX6_clear {K : CX} {l : Launch} {w : XW} {l0 : Nat} {q : XW} (h : fX6_clear w l0 = some q) : MT K l mX6_clear 1 20 [.ref l0] w none q := by
  have z := OX6_clear h
  unfold fX6_clear at h
  rw [if_pos z] at h
  exact MT.of (by decide) (Nat.le_of_ble_eq_true rfl) rfl (EX6_clear h)
/-! FractionRun$State.forgetSteps()V: frames 1, words 20 -/
abbrev mX5_forgetSteps : MR := (⟨"FractionRun$State", "forgetSteps", "()V"⟩, prog_7_method_4_code, 1, none)
theorem dX5_forgetSteps_0 : decode prog_7_method_4_code 0 = .ok (.aload_n 0, 1) := by decide +kernel
theorem dX5_forgetSteps_1 : decode prog_7_method_4_code 1 = .ok (.iconst 0, 1) := by decide +kernel
theorem dX5_forgetSteps_2 : decode prog_7_method_4_code 2 = .ok (.putfield 39, 3) := by decide +kernel
theorem dX5_forgetSteps_5 : decode prog_7_method_4_code 5 = .ok (.aload_n 0, 1) := by decide +kernel
theorem dX5_forgetSteps_6 : decode prog_7_method_4_code 6 = .ok (.iconst 0, 1) := by decide +kernel
theorem dX5_forgetSteps_7 : decode prog_7_method_4_code 7 = .ok (.putfield 42, 3) := by decide +kernel
theorem dX5_forgetSteps_10 : decode prog_7_method_4_code 10 = .ok (.aload_n 0, 1) := by decide +kernel
theorem dX5_forgetSteps_11 : decode prog_7_method_4_code 11 = .ok (.iconst 0, 1) := by decide +kernel
theorem dX5_forgetSteps_12 : decode prog_7_method_4_code 12 = .ok (.putfield 45, 3) := by decide +kernel
theorem dX5_forgetSteps_15 : decode prog_7_method_4_code 15 = .ok (.return_, 1) := by decide +kernel
theorem okM_X5_forgetSteps : okM mX5_forgetSteps 0 := ⟨tw297, tw5, by decide, by decide, by decide +kernel⟩
def eX5_forgetSteps (w : XW) (l0 : Nat) : Option XW :=
  (pV w l0 5 3 (.int (0 : Int32))).bind fun w1 =>
  (pV w1 l0 5 4 (.int (0 : Int32))).bind fun w4 =>
  (pV w4 l0 5 5 (.int (0 : Int32))).bind fun w7 =>
  some w7
theorem EX5_forgetSteps {K : CX} {l : Launch} {n0 k0 : Nat} {w : XW} {l0 : Nat} {q : XW} (h0 : eX5_forgetSteps w l0 = some q) : WP K l mX5_forgetSteps 1 20 n0 k0 none q 0 [some (.ref l0)] [] w := by
  unfold eX5_forgetSteps at h0
  refine wp_aload_n dX5_forgetSteps_0 rfl ?_
  refine wp_iconst (v := (0 : Int32)) dX5_forgetSteps_1 (by decide) ?_
  obtain ⟨w1, e3, h2⟩ := Option.bind_eq_some_iff.mp h0
  clear h0
  refine wp_putV okX5 (k := 3) (by decide) rfl tw100 dX5_forgetSteps_2 rfl rfl e3 ?_
  refine wp_aload_n dX5_forgetSteps_5 rfl ?_
  refine wp_iconst (v := (0 : Int32)) dX5_forgetSteps_6 (by decide) ?_
  obtain ⟨w4, e6, h5⟩ := Option.bind_eq_some_iff.mp h2
  clear h2
  refine wp_putV okX5 (k := 4) (by decide) rfl tw103 dX5_forgetSteps_7 rfl rfl e6 ?_
  refine wp_aload_n dX5_forgetSteps_10 rfl ?_
  refine wp_iconst (v := (0 : Int32)) dX5_forgetSteps_11 (by decide) ?_
  obtain ⟨w7, e9, h8⟩ := Option.bind_eq_some_iff.mp h5
  clear h5
  refine wp_putV okX5 (k := 5) (by decide) rfl tw105 dX5_forgetSteps_12 rfl rfl e9 ?_
  cases h8
  exact wp_vret rfl dX5_forgetSteps_15
def fX5_forgetSteps (w : XW) (l0 : Nat) : Option XW := if isO w l0 5 = true then eX5_forgetSteps w l0 else none
theorem OX5_forgetSteps {w : XW} {l0 : Nat} {q : XW} (h : fX5_forgetSteps w l0 = some q) : isO w l0 5 = true := Decidable.byContradiction fun z => by unfold fX5_forgetSteps at h; rw [if_neg z] at h; cases h
theorem MX5_forgetSteps {K : CX} {l : Launch} {w : XW} {l0 : Nat} {q : XW} (h : fX5_forgetSteps w l0 = some q) : MT K l mX5_forgetSteps 1 20 [.ref l0] w none q := by
  have z := OX5_forgetSteps h
  unfold fX5_forgetSteps at h
  rw [if_pos z] at h
  exact MT.of (by decide) (Nat.le_of_ble_eq_true rfl) rfl (EX5_forgetSteps h)
/-! FractionRun$State.begin(LFractionRun$Fractions;)V: frames 2, words 40 -/
abbrev mX5_begin : MR := (⟨"FractionRun$State", "begin", "(LFractionRun$Fractions;)V"⟩, prog_7_method_2_code, 3, none)
theorem dX5_begin_0 : decode prog_7_method_2_code 0 = .ok (.aload_n 1, 1) := by decide +kernel
theorem dX5_begin_1 : decode prog_7_method_2_code 1 = .ok (.getfield 18, 3) := by decide +kernel
theorem dX5_begin_4 : decode prog_7_method_2_code 4 = .ok (.iconst 0, 1) := by decide +kernel
theorem dX5_begin_5 : decode prog_7_method_2_code 5 = .ok (.aload_n 0, 1) := by decide +kernel
theorem dX5_begin_6 : decode prog_7_method_2_code 6 = .ok (.getfield 9, 3) := by decide +kernel
theorem dX5_begin_9 : decode prog_7_method_2_code 9 = .ok (.iconst 0, 1) := by decide +kernel
theorem dX5_begin_10 : decode prog_7_method_2_code 10 = .ok (.bipush 6, 2) := by decide +kernel
theorem dX5_begin_12 : decode prog_7_method_2_code 12 = .ok (.invokestatic 23, 3) := by decide +kernel
theorem dX5_begin_15 : decode prog_7_method_2_code 15 = .ok (.aload_n 0, 1) := by decide +kernel
theorem dX5_begin_16 : decode prog_7_method_2_code 16 = .ok (.aload_n 1, 1) := by decide +kernel
theorem dX5_begin_17 : decode prog_7_method_2_code 17 = .ok (.getfield 29, 3) := by decide +kernel
theorem dX5_begin_20 : decode prog_7_method_2_code 20 = .ok (.putfield 33, 3) := by decide +kernel
theorem dX5_begin_23 : decode prog_7_method_2_code 23 = .ok (.iconst 0, 1) := by decide +kernel
theorem dX5_begin_24 : decode prog_7_method_2_code 24 = .ok (.istore_n 2, 1) := by decide +kernel
theorem dX5_begin_25 : decode prog_7_method_2_code 25 = .ok (.iload_n 2, 1) := by decide +kernel
theorem dX5_begin_26 : decode prog_7_method_2_code 26 = .ok (.aload_n 0, 1) := by decide +kernel
theorem dX5_begin_27 : decode prog_7_method_2_code 27 = .ok (.getfield 33, 3) := by decide +kernel
theorem dX5_begin_30 : decode prog_7_method_2_code 30 = .ok (.if_icmp .ge 16, 3) := by decide +kernel
theorem dX5_begin_33 : decode prog_7_method_2_code 33 = .ok (.aload_n 0, 1) := by decide +kernel
theorem dX5_begin_34 : decode prog_7_method_2_code 34 = .ok (.getfield 15, 3) := by decide +kernel
theorem dX5_begin_37 : decode prog_7_method_2_code 37 = .ok (.iload_n 2, 1) := by decide +kernel
theorem dX5_begin_38 : decode prog_7_method_2_code 38 = .ok (.iload_n 2, 1) := by decide +kernel
theorem dX5_begin_39 : decode prog_7_method_2_code 39 = .ok (.iastore, 1) := by decide +kernel
theorem dX5_begin_40 : decode prog_7_method_2_code 40 = .ok (.iinc 2 1, 3) := by decide +kernel
theorem dX5_begin_43 : decode prog_7_method_2_code 43 = .ok (.goto (-18), 3) := by decide +kernel
theorem dX5_begin_46 : decode prog_7_method_2_code 46 = .ok (.aload_n 0, 1) := by decide +kernel
theorem dX5_begin_47 : decode prog_7_method_2_code 47 = .ok (.invokevirtual 36, 3) := by decide +kernel
theorem dX5_begin_50 : decode prog_7_method_2_code 50 = .ok (.return_, 1) := by decide +kernel
theorem okM_X5_begin : okM mX5_begin 1 := ⟨tw290, tw5, by decide, by decide, by decide +kernel⟩
abbrev KTX5_begin : Type := (XW → Nat → Int32 → Option XW)
def hX5_begin_25 (k : KTX5_begin) (w : XW) (l0 : Nat) (l2 : Int32) : Option XW :=
  (gI w l0 5 2).bind fun x1 =>
  if x1 ≤ l2 then
  (fX5_forgetSteps w l0).bind fun q5 =>
  some q5
  else
  (gR w l0 5 1).bind fun x8 =>
  (sI w 0 x8 l2 l2).bind fun w11 =>
  k w11 l0 (l2 + (1 : Int32))
theorem HX5_begin_25 {K : CX} {l : Launch} {n0 k0 : Nat} {k : KTX5_begin} (hk0 : ∀ (w : XW) (l0 : Nat) (l2 : Int32) (q : XW), k w l0 l2 = some q → WP K l mX5_begin 2 40 n0 k0 none q 25 [some (.ref l0), none, some (.int l2)] [] w) {w : XW} {l0 : Nat} {l2 : Int32} {q : XW} (h0 : hX5_begin_25 k w l0 l2 = some q) : WP K l mX5_begin 2 40 n0 k0 none q 25 [some (.ref l0), none, some (.int l2)] [] w := by
  unfold hX5_begin_25 at h0
  refine wp_iload_n dX5_begin_25 rfl ?_
  refine wp_aload_n dX5_begin_26 rfl ?_
  obtain ⟨x1, e3, h2⟩ := Option.bind_eq_some_iff.mp h0
  clear h0
  refine wp_getI okX5 (k := 2) (by decide) tw97 dX5_begin_27 e3 ?_
  refine wp_icmp_ge (tgt := 46) dX5_begin_30 (by decide) (fun c4 => ?_) (fun c4 => ?_)
  · rw [if_pos c4] at h2
    refine wp_aload_n dX5_begin_46 rfl ?_
    obtain ⟨q5, e7, h6⟩ := Option.bind_eq_some_iff.mp h2
    clear h2
    refine wp_Vv (As := []) (S := []) okM_X5_forgetSteps tw296 twP_X5_forgetSteps tw294 (OX5_forgetSteps e7) rfl rfl rfl ⟨(Nat.le_of_ble_eq_true rfl), (Nat.le_of_ble_eq_true rfl)⟩ (Nat.le_of_ble_eq_true rfl) rfl dX5_begin_47 (MX5_forgetSteps e7) ?_
    cases h6
    exact wp_vret rfl dX5_begin_50
  · rw [if_neg c4] at h2
    refine wp_aload_n dX5_begin_33 rfl ?_
    obtain ⟨x8, e10, h9⟩ := Option.bind_eq_some_iff.mp h2
    clear h2
    refine wp_getR okX5 (k := 1) (by decide) tw95 dX5_begin_34 e10 ?_
    refine wp_iload_n dX5_begin_37 rfl ?_
    refine wp_iload_n dX5_begin_38 rfl ?_
    obtain ⟨w11, e13, h12⟩ := Option.bind_eq_some_iff.mp h9
    clear h9
    refine wp_iast dX5_begin_39 e13 ?_
    refine wp_iinc (v := (l2 + (1 : Int32))) (L1 := [some (.ref l0), none, some (.int (l2 + (1 : Int32)))]) dX5_begin_40 (Nat.le_of_ble_eq_true rfl) rfl (congrArg (fun z => l2 + z) (by decide)) rfl ?_
    refine wp_goto (tgt := 25) dX5_begin_43 (by decide) ?_
    exact WP.wk (hk0 _ _ _ _ h12) (And.intro rfl (And.intro rfl trivial))
def eX5_begin (k : KTX5_begin) (w : XW) (l0 : Nat) (l1 : Nat) : Option XW :=
  (gR w l1 1 4).bind fun x1 =>
  (gR w l0 5 0).bind fun x4 =>
  (cpI w 0 x1 (0 : Int32) x4 (0 : Int32) (6 : Int32)).bind fun w7 =>
  (gI w7 l1 1 5).bind fun x10 =>
  (pV w7 l0 5 2 (.int x10)).bind fun w13 =>
  k w13 l0 (0 : Int32)
theorem EX5_begin {K : CX} {l : Launch} {n0 k0 : Nat} {k : KTX5_begin} (hk0 : ∀ (w : XW) (l0 : Nat) (l2 : Int32) (q : XW), k w l0 l2 = some q → WP K l mX5_begin 2 40 n0 k0 none q 25 [some (.ref l0), none, some (.int l2)] [] w) {w : XW} {l0 : Nat} {l1 : Nat} {q : XW} (h0 : eX5_begin k w l0 l1 = some q) : WP K l mX5_begin 2 40 n0 k0 none q 0 [some (.ref l0), some (.ref l1), none] [] w := by
  unfold eX5_begin at h0
  refine wp_aload_n dX5_begin_0 rfl ?_
  obtain ⟨x1, e3, h2⟩ := Option.bind_eq_some_iff.mp h0
  clear h0
  refine wp_getR okX1 (k := 4) (by decide) tw69 dX5_begin_1 e3 ?_
  refine wp_iconst (v := (0 : Int32)) dX5_begin_4 (by decide) ?_
  refine wp_aload_n dX5_begin_5 rfl ?_
  obtain ⟨x4, e6, h5⟩ := Option.bind_eq_some_iff.mp h2
  clear h2
  refine wp_getR okX5 (k := 0) (by decide) tw92 dX5_begin_6 e6 ?_
  refine wp_iconst (v := (0 : Int32)) dX5_begin_9 (by decide) ?_
  refine wp_bipush (v := (6 : Int32)) dX5_begin_10 (by decide) ?_
  obtain ⟨w7, e9, h8⟩ := Option.bind_eq_some_iff.mp h5
  clear h5
  refine wp_copy (t := 0) rfl (Or.inl rfl) tw291 tw293 tw292 tw14 ⟨(Nat.le_of_ble_eq_true rfl), (Nat.le_of_ble_eq_true rfl)⟩ rfl dX5_begin_12 e9 ?_
  refine wp_aload_n dX5_begin_15 rfl ?_
  refine wp_aload_n dX5_begin_16 rfl ?_
  obtain ⟨x10, e12, h11⟩ := Option.bind_eq_some_iff.mp h8
  clear h8
  refine wp_getI okX1 (k := 5) (by decide) tw71 dX5_begin_17 e12 ?_
  obtain ⟨w13, e15, h14⟩ := Option.bind_eq_some_iff.mp h11
  clear h11
  refine wp_putV okX5 (k := 2) (by decide) rfl tw97 dX5_begin_20 rfl rfl e15 ?_
  refine wp_iconst (v := (0 : Int32)) dX5_begin_23 (by decide) ?_
  refine wp_istore_n (L1 := [some (.ref l0), some (.ref l1), some (.int (0 : Int32))]) dX5_begin_24 (Nat.le_of_ble_eq_true rfl) rfl ?_
  exact WP.wk (hk0 _ _ _ _ h14) (And.intro rfl (And.intro rfl trivial))
def loX5_begin : Nat → KTX5_begin
  | 0 => fun _ _ _ => none
  | n + 1 => hX5_begin_25 (loX5_begin n)
theorem LOX5_begin {K : CX} {l : Launch} {n0 k0 : Nat} : ∀ n : Nat, (∀ (w : XW) (l0 : Nat) (l2 : Int32) (q : XW), (loX5_begin n) w l0 l2 = some q → WP K l mX5_begin 2 40 n0 k0 none q 25 [some (.ref l0), none, some (.int l2)] [] w) := by
  intro n
  induction n with
  | zero => exact fun _ _ _ q h => (by cases h)
  | succ n ih => exact fun _ _ _ q h => HX5_begin_25 ih h
def fX5_begin (w : XW) (l0 : Nat) (l1 : Nat) : Option XW := if isO w l0 5 = true then eX5_begin (loX5_begin FU) w l0 l1 else none
theorem OX5_begin {w : XW} {l0 : Nat} {l1 : Nat} {q : XW} (h : fX5_begin w l0 l1 = some q) : isO w l0 5 = true := Decidable.byContradiction fun z => by unfold fX5_begin at h; rw [if_neg z] at h; cases h
theorem MX5_begin {K : CX} {l : Launch} {w : XW} {l0 : Nat} {l1 : Nat} {q : XW} (h : fX5_begin w l0 l1 = some q) : MT K l mX5_begin 2 40 [.ref l0, .ref l1] w none q := by
  have z := OX5_begin h
  unfold fX5_begin at h
  rw [if_pos z] at h
  exact MT.of (by decide) (Nat.le_of_ble_eq_true rfl) rfl (EX5_begin (LOX5_begin FU) h)
/-! java/lang/String.isLatin1()Z: frames 1, words 20 -/
abbrev mJ0_isLatin1_aae02 : MR := (⟨"java/lang/String", "isLatin1", "()Z"⟩, prog_13_method_154_code, 1, (some .boolean))
theorem dJ0_isLatin1_aae02_0 : decode prog_13_method_154_code 0 = .ok (.getstatic 38, 3) := by decide +kernel
theorem dJ0_isLatin1_aae02_3 : decode prog_13_method_154_code 3 = .ok (.ifCond .eq 14, 3) := by decide +kernel
theorem dJ0_isLatin1_aae02_6 : decode prog_13_method_154_code 6 = .ok (.aload_n 0, 1) := by decide +kernel
theorem dJ0_isLatin1_aae02_7 : decode prog_13_method_154_code 7 = .ok (.getfield 15, 3) := by decide +kernel
theorem dJ0_isLatin1_aae02_10 : decode prog_13_method_154_code 10 = .ok (.ifCond .ne 7, 3) := by decide +kernel
theorem dJ0_isLatin1_aae02_13 : decode prog_13_method_154_code 13 = .ok (.iconst 1, 1) := by decide +kernel
theorem dJ0_isLatin1_aae02_14 : decode prog_13_method_154_code 14 = .ok (.goto 4, 3) := by decide +kernel
theorem dJ0_isLatin1_aae02_17 : decode prog_13_method_154_code 17 = .ok (.iconst 0, 1) := by decide +kernel
theorem dJ0_isLatin1_aae02_18 : decode prog_13_method_154_code 18 = .ok (.ireturn, 1) := by decide +kernel
theorem okM_J0_isLatin1_aae02 : okM mJ0_isLatin1_aae02 0 := ⟨tw198, tw9, by decide, by decide, by decide +kernel⟩
def bJ0_isLatin1_aae02_18 (w : XW) (s0 : Int32) : Option (Int32 × XW) :=
  if s0 &&& 1 = s0 then some (s0, w) else none
theorem BJ0_isLatin1_aae02_18 {K : CX} {l : Launch} {n0 k0 : Nat} {w : XW} {s0 : Int32} {q : Int32 × XW} (h0 : bJ0_isLatin1_aae02_18 w s0 = some q) : WP K l mJ0_isLatin1_aae02 1 20 n0 k0 (some (.int q.1)) q.2 18 [none] [.int s0] w := by
  unfold bJ0_isLatin1_aae02_18 at h0
  have c1 : s0 &&& 1 = s0 := Decidable.byContradiction fun z => by rw [if_neg z] at h0; cases h0
  rw [if_pos c1] at h0
  cases h0
  exact wp_zret rfl (zb_n c1) dJ0_isLatin1_aae02_18
def bJ0_isLatin1_aae02_17 (w : XW) : Option (Int32 × XW) :=
  bJ0_isLatin1_aae02_18 w (0 : Int32)
theorem BJ0_isLatin1_aae02_17 {K : CX} {l : Launch} {n0 k0 : Nat} {w : XW} {q : Int32 × XW} (h0 : bJ0_isLatin1_aae02_17 w = some q) : WP K l mJ0_isLatin1_aae02 1 20 n0 k0 (some (.int q.1)) q.2 17 [none] [] w := by
  unfold bJ0_isLatin1_aae02_17 at h0
  refine wp_iconst (v := (0 : Int32)) dJ0_isLatin1_aae02_17 (by decide) ?_
  exact WP.wk (BJ0_isLatin1_aae02_18 h0) trivial
def eJ0_isLatin1_aae02 (w : XW) : Option (Int32 × XW) :=
  if (1 : Int32) = 0 then
  bJ0_isLatin1_aae02_17 w
  else
  if (0 : Int32) = 0 then
  bJ0_isLatin1_aae02_18 w (1 : Int32)
  else
  bJ0_isLatin1_aae02_17 w
theorem EJ0_isLatin1_aae02 {K : CX} {l : Launch} {n0 k0 : Nat} {w : XW} {q : Int32 × XW} (h0 : eJ0_isLatin1_aae02 w = some q) : WP K l mJ0_isLatin1_aae02 1 20 n0 k0 (some (.int q.1)) q.2 0 [some (.float 2)] [] w := by
  unfold eJ0_isLatin1_aae02 at h0
  refine wp_gets (v := .int 1) (fun U hU => hU.2.2.2.2.2.2.2.2.2.2.2.1) tw189 dJ0_isLatin1_aae02_0 ?_
  refine wp_if_eq (tgt := 17) dJ0_isLatin1_aae02_3 (by decide) (fun c1 => ?_) (fun c1 => ?_)
  · rw [if_pos c1] at h0
    exact WP.wk (BJ0_isLatin1_aae02_17 h0) trivial
  · rw [if_neg c1] at h0
    refine wp_xload_n dJ0_isLatin1_aae02_6 rfl ?_
    refine wp_xcoder tw1057 dJ0_isLatin1_aae02_7 ?_
    refine wp_if_ne (tgt := 17) dJ0_isLatin1_aae02_10 (by decide) (fun c2 => ?_) (fun c2 => ?_)
    · rw [if_neg c2] at h0
      exact WP.wk (BJ0_isLatin1_aae02_17 h0) trivial
    · rw [if_pos c2] at h0
      refine wp_iconst (v := (1 : Int32)) dJ0_isLatin1_aae02_13 (by decide) ?_
      refine wp_goto (tgt := 18) dJ0_isLatin1_aae02_14 (by decide) ?_
      exact WP.wk (BJ0_isLatin1_aae02_18 h0) trivial
def fJ0_isLatin1_aae02 (w : XW) : Option (Int32 × XW) := eJ0_isLatin1_aae02 w
theorem MJ0_isLatin1_aae02 {K : CX} {l : Launch} {w : XW} {q : Int32 × XW} (h : fJ0_isLatin1_aae02 w = some q) : MT K l mJ0_isLatin1_aae02 1 20 [.float 2] w (some (.int q.1)) q.2 := by
  unfold fJ0_isLatin1_aae02 at h
  exact MT.of (by decide) (Nat.le_of_ble_eq_true rfl) rfl (EJ0_isLatin1_aae02 h)
