/-! FractionRun.look(II)I: frames 5, words 118 -/
abbrev mX7_look : MR := (⟨"FractionRun", "look", "(II)I"⟩, prog_1_method_27_code, 6, (some .int))
theorem dX7_look_0 : decode prog_1_method_27_code 0 = .ok (.aload_n 0, 1) := by decide +kernel
theorem dX7_look_1 : decode prog_1_method_27_code 1 = .ok (.iload_n 1, 1) := by decide +kernel
theorem dX7_look_2 : decode prog_1_method_27_code 2 = .ok (.invokevirtual 120, 3) := by decide +kernel
theorem dX7_look_5 : decode prog_1_method_27_code 5 = .ok (.ifCond .eq 12, 3) := by decide +kernel
theorem dX7_look_8 : decode prog_1_method_27_code 8 = .ok (.iload_n 2, 1) := by decide +kernel
theorem dX7_look_9 : decode prog_1_method_27_code 9 = .ok (.ifCond .lt 8, 3) := by decide +kernel
theorem dX7_look_12 : decode prog_1_method_27_code 12 = .ok (.iload_n 2, 1) := by decide +kernel
theorem dX7_look_13 : decode prog_1_method_27_code 13 = .ok (.iconst 1, 1) := by decide +kernel
theorem dX7_look_14 : decode prog_1_method_27_code 14 = .ok (.if_icmp .le 5, 3) := by decide +kernel
theorem dX7_look_17 : decode prog_1_method_27_code 17 = .ok (.iconst (-1), 1) := by decide +kernel
theorem dX7_look_18 : decode prog_1_method_27_code 18 = .ok (.ireturn, 1) := by decide +kernel
theorem dX7_look_19 : decode prog_1_method_27_code 19 = .ok (.aload_n 0, 1) := by decide +kernel
theorem dX7_look_20 : decode prog_1_method_27_code 20 = .ok (.iload_n 1, 1) := by decide +kernel
theorem dX7_look_21 : decode prog_1_method_27_code 21 = .ok (.invokevirtual 233, 3) := by decide +kernel
theorem dX7_look_24 : decode prog_1_method_27_code 24 = .ok (.istore_n 3, 1) := by decide +kernel
theorem dX7_look_25 : decode prog_1_method_27_code 25 = .ok (.iload_n 3, 1) := by decide +kernel
theorem dX7_look_26 : decode prog_1_method_27_code 26 = .ok (.invokestatic 236, 3) := by decide +kernel
theorem dX7_look_29 : decode prog_1_method_27_code 29 = .ok (.iconst 1, 1) := by decide +kernel
theorem dX7_look_30 : decode prog_1_method_27_code 30 = .ok (.if_icmp .gt 6, 3) := by decide +kernel
theorem dX7_look_33 : decode prog_1_method_27_code 33 = .ok (.bipush (-4), 2) := by decide +kernel
theorem dX7_look_35 : decode prog_1_method_27_code 35 = .ok (.ireturn, 1) := by decide +kernel
theorem dX7_look_36 : decode prog_1_method_27_code 36 = .ok (.iconst 1, 1) := by decide +kernel
theorem dX7_look_37 : decode prog_1_method_27_code 37 = .ok (.istore 4, 2) := by decide +kernel
theorem dX7_look_39 : decode prog_1_method_27_code 39 = .ok (.iconst 2, 1) := by decide +kernel
theorem dX7_look_40 : decode prog_1_method_27_code 40 = .ok (.istore 5, 2) := by decide +kernel
theorem dX7_look_42 : decode prog_1_method_27_code 42 = .ok (.iload 5, 2) := by decide +kernel
theorem dX7_look_44 : decode prog_1_method_27_code 44 = .ok (.bipush 20, 2) := by decide +kernel
theorem dX7_look_46 : decode prog_1_method_27_code 46 = .ok (.if_icmp .gt 30, 3) := by decide +kernel
theorem dX7_look_49 : decode prog_1_method_27_code 49 = .ok (.aload_n 0, 1) := by decide +kernel
theorem dX7_look_50 : decode prog_1_method_27_code 50 = .ok (.iload_n 3, 1) := by decide +kernel
theorem dX7_look_51 : decode prog_1_method_27_code 51 = .ok (.iload 5, 2) := by decide +kernel
theorem dX7_look_53 : decode prog_1_method_27_code 53 = .ok (.invokevirtual 241, 3) := by decide +kernel
theorem dX7_look_56 : decode prog_1_method_27_code 56 = .ok (.aload_n 0, 1) := by decide +kernel
theorem dX7_look_57 : decode prog_1_method_27_code 57 = .ok (.iload_n 3, 1) := by decide +kernel
theorem dX7_look_58 : decode prog_1_method_27_code 58 = .ok (.iload 4, 2) := by decide +kernel
theorem dX7_look_60 : decode prog_1_method_27_code 60 = .ok (.invokevirtual 241, 3) := by decide +kernel
theorem dX7_look_63 : decode prog_1_method_27_code 63 = .ok (.if_icmp .ge 7, 3) := by decide +kernel
theorem dX7_look_66 : decode prog_1_method_27_code 66 = .ok (.iload 5, 2) := by decide +kernel
theorem dX7_look_68 : decode prog_1_method_27_code 68 = .ok (.istore 4, 2) := by decide +kernel
theorem dX7_look_70 : decode prog_1_method_27_code 70 = .ok (.iinc 5 1, 3) := by decide +kernel
theorem dX7_look_73 : decode prog_1_method_27_code 73 = .ok (.goto (-31), 3) := by decide +kernel
theorem dX7_look_76 : decode prog_1_method_27_code 76 = .ok (.iload_n 2, 1) := by decide +kernel
theorem dX7_look_77 : decode prog_1_method_27_code 77 = .ok (.ifCond .ne 8, 3) := by decide +kernel
theorem dX7_look_80 : decode prog_1_method_27_code 80 = .ok (.iload 4, 2) := by decide +kernel
theorem dX7_look_82 : decode prog_1_method_27_code 82 = .ok (.goto 10, 3) := by decide +kernel
theorem dX7_look_85 : decode prog_1_method_27_code 85 = .ok (.aload_n 0, 1) := by decide +kernel
theorem dX7_look_86 : decode prog_1_method_27_code 86 = .ok (.iload_n 3, 1) := by decide +kernel
theorem dX7_look_87 : decode prog_1_method_27_code 87 = .ok (.iload 4, 2) := by decide +kernel
theorem dX7_look_89 : decode prog_1_method_27_code 89 = .ok (.invokevirtual 241, 3) := by decide +kernel
theorem dX7_look_92 : decode prog_1_method_27_code 92 = .ok (.ireturn, 1) := by decide +kernel
theorem okM_X7_look : okM mX7_look 2 := ⟨tw608, tw1, by decide, by decide, by decide +kernel⟩
abbrev KTX7_look : Type := (XW → Nat → Int32 → Int32 → Int32 → Int32 → Option (Int32 × XW))
def bX7_look_92 (k : KTX7_look) (w : XW) (s0 : Int32) : Option (Int32 × XW) :=
  some (s0, w)
theorem BX7_look_92 {K : CX} {l : Launch} {n0 k0 : Nat} {k : KTX7_look} (hk0 : ∀ (w : XW) (l0 : Nat) (l2 : Int32) (l3 : Int32) (l4 : Int32) (l5 : Int32) (q : Int32 × XW), k w l0 l2 l3 l4 l5 = some q → WP K l mX7_look 5 118 n0 k0 (some (.int q.1)) q.2 42 [some (.ref l0), none, some (.int l2), some (.int l3), some (.int l4), some (.int l5)] [] w) {w : XW} {s0 : Int32} {q : Int32 × XW} (h0 : bX7_look_92 k w s0 = some q) : WP K l mX7_look 5 118 n0 k0 (some (.int q.1)) q.2 92 [none, none, none, none, none, none] [.int s0] w := by
  unfold bX7_look_92 at h0
  cases h0
  exact wp_iret rfl dX7_look_92
def bX7_look_70 (k : KTX7_look) (w : XW) (l0 : Nat) (l2 : Int32) (l3 : Int32) (l4 : Int32) (l5 : Int32) : Option (Int32 × XW) :=
  k w l0 l2 l3 l4 (l5 + (1 : Int32))
theorem BX7_look_70 {K : CX} {l : Launch} {n0 k0 : Nat} {k : KTX7_look} (hk0 : ∀ (w : XW) (l0 : Nat) (l2 : Int32) (l3 : Int32) (l4 : Int32) (l5 : Int32) (q : Int32 × XW), k w l0 l2 l3 l4 l5 = some q → WP K l mX7_look 5 118 n0 k0 (some (.int q.1)) q.2 42 [some (.ref l0), none, some (.int l2), some (.int l3), some (.int l4), some (.int l5)] [] w) {w : XW} {l0 : Nat} {l2 : Int32} {l3 : Int32} {l4 : Int32} {l5 : Int32} {q : Int32 × XW} (h0 : bX7_look_70 k w l0 l2 l3 l4 l5 = some q) : WP K l mX7_look 5 118 n0 k0 (some (.int q.1)) q.2 70 [some (.ref l0), none, some (.int l2), some (.int l3), some (.int l4), some (.int l5)] [] w := by
  unfold bX7_look_70 at h0
  refine wp_iinc (v := (l5 + (1 : Int32))) (L1 := [some (.ref l0), none, some (.int l2), some (.int l3), some (.int l4), some (.int (l5 + (1 : Int32)))]) dX7_look_70 (Nat.le_of_ble_eq_true rfl) rfl (congrArg (fun z => l5 + z) (by decide)) rfl ?_
  refine wp_goto (tgt := 42) dX7_look_73 (by decide) ?_
  exact WP.wk (hk0 _ _ _ _ _ _ _ h0) (And.intro rfl (And.intro rfl (And.intro rfl (And.intro rfl (And.intro rfl trivial)))))
def bX7_look_17 (k : KTX7_look) (w : XW) : Option (Int32 × XW) :=
  some ((-1 : Int32), w)
theorem BX7_look_17 {K : CX} {l : Launch} {n0 k0 : Nat} {k : KTX7_look} (hk0 : ∀ (w : XW) (l0 : Nat) (l2 : Int32) (l3 : Int32) (l4 : Int32) (l5 : Int32) (q : Int32 × XW), k w l0 l2 l3 l4 l5 = some q → WP K l mX7_look 5 118 n0 k0 (some (.int q.1)) q.2 42 [some (.ref l0), none, some (.int l2), some (.int l3), some (.int l4), some (.int l5)] [] w) {w : XW} {q : Int32 × XW} (h0 : bX7_look_17 k w = some q) : WP K l mX7_look 5 118 n0 k0 (some (.int q.1)) q.2 17 [none, none, none, none, none, none] [] w := by
  unfold bX7_look_17 at h0
  refine wp_iconst (v := (-1 : Int32)) dX7_look_17 (by decide) ?_
  cases h0
  exact wp_iret rfl dX7_look_18
def hX7_look_42 (k : KTX7_look) (w : XW) (l0 : Nat) (l2 : Int32) (l3 : Int32) (l4 : Int32) (l5 : Int32) : Option (Int32 × XW) :=
  if (20 : Int32) < l5 then
  if l2 = 0 then
  bX7_look_92 k w l4
  else
  (fX7_greatestPart w l0 l3 l4).bind fun q3 =>
  bX7_look_92 k q3.2 q3.1
  else
  (fX7_greatestPart w l0 l3 l5).bind fun q6 =>
  (fX7_greatestPart q6.2 l0 l3 l4).bind fun q9 =>
  if q9.1 ≤ q6.1 then
  bX7_look_70 k q9.2 l0 l2 l3 l4 l5
  else
  bX7_look_70 k q9.2 l0 l2 l3 l5 l5
theorem HX7_look_42 {K : CX} {l : Launch} {n0 k0 : Nat} {k : KTX7_look} (hk0 : ∀ (w : XW) (l0 : Nat) (l2 : Int32) (l3 : Int32) (l4 : Int32) (l5 : Int32) (q : Int32 × XW), k w l0 l2 l3 l4 l5 = some q → WP K l mX7_look 5 118 n0 k0 (some (.int q.1)) q.2 42 [some (.ref l0), none, some (.int l2), some (.int l3), some (.int l4), some (.int l5)] [] w) {w : XW} {l0 : Nat} {l2 : Int32} {l3 : Int32} {l4 : Int32} {l5 : Int32} {q : Int32 × XW} (h0 : hX7_look_42 k w l0 l2 l3 l4 l5 = some q) : WP K l mX7_look 5 118 n0 k0 (some (.int q.1)) q.2 42 [some (.ref l0), none, some (.int l2), some (.int l3), some (.int l4), some (.int l5)] [] w := by
  unfold hX7_look_42 at h0
  refine wp_iload dX7_look_42 rfl ?_
  refine wp_bipush (v := (20 : Int32)) dX7_look_44 (by decide) ?_
  refine wp_icmp_gt (tgt := 76) dX7_look_46 (by decide) (fun c1 => ?_) (fun c1 => ?_)
  · rw [if_pos c1] at h0
    refine wp_iload_n dX7_look_76 rfl ?_
    refine wp_if_ne (tgt := 85) dX7_look_77 (by decide) (fun c2 => ?_) (fun c2 => ?_)
    · rw [if_neg c2] at h0
      refine wp_aload_n dX7_look_85 rfl ?_
      refine wp_iload_n dX7_look_86 rfl ?_
      refine wp_iload dX7_look_87 rfl ?_
      obtain ⟨q3, e5, h4⟩ := Option.bind_eq_some_iff.mp h0
      clear h0
      refine wp_Vi (As := [.int l3, .int l4]) (S := []) okM_X7_greatestPart tw617 twP_X7_greatestPart tw615 (OX7_greatestPart e5) rfl rfl rfl ⟨(Nat.le_of_ble_eq_true rfl), (Nat.le_of_ble_eq_true rfl)⟩ (Nat.le_of_ble_eq_true rfl) rfl dX7_look_89 (MX7_greatestPart e5) ?_
      exact WP.wk (BX7_look_92 hk0 h4) trivial
    · rw [if_pos c2] at h0
      refine wp_iload dX7_look_80 rfl ?_
      refine wp_goto (tgt := 92) dX7_look_82 (by decide) ?_
      exact WP.wk (BX7_look_92 hk0 h0) trivial
  · rw [if_neg c1] at h0
    refine wp_aload_n dX7_look_49 rfl ?_
    refine wp_iload_n dX7_look_50 rfl ?_
    refine wp_iload dX7_look_51 rfl ?_
    obtain ⟨q6, e8, h7⟩ := Option.bind_eq_some_iff.mp h0
    clear h0
    refine wp_Vi (As := [.int l3, .int l5]) (S := []) okM_X7_greatestPart tw617 twP_X7_greatestPart tw615 (OX7_greatestPart e8) rfl rfl rfl ⟨(Nat.le_of_ble_eq_true rfl), (Nat.le_of_ble_eq_true rfl)⟩ (Nat.le_of_ble_eq_true rfl) rfl dX7_look_53 (MX7_greatestPart e8) ?_
    refine wp_aload_n dX7_look_56 rfl ?_
    refine wp_iload_n dX7_look_57 rfl ?_
    refine wp_iload dX7_look_58 rfl ?_
    obtain ⟨q9, e11, h10⟩ := Option.bind_eq_some_iff.mp h7
    clear h7
    refine wp_Vi (As := [.int l3, .int l4]) (S := [.int q6.1]) okM_X7_greatestPart tw617 twP_X7_greatestPart tw615 (OX7_greatestPart e11) rfl rfl rfl ⟨(Nat.le_of_ble_eq_true rfl), (Nat.le_of_ble_eq_true rfl)⟩ (Nat.le_of_ble_eq_true rfl) rfl dX7_look_60 (MX7_greatestPart e11) ?_
    refine wp_icmp_ge (tgt := 70) dX7_look_63 (by decide) (fun c12 => ?_) (fun c12 => ?_)
    · rw [if_pos c12] at h10
      exact WP.wk (BX7_look_70 hk0 h10) (And.intro rfl (And.intro rfl (And.intro rfl (And.intro rfl (And.intro rfl trivial)))))
    · rw [if_neg c12] at h10
      refine wp_iload dX7_look_66 rfl ?_
      refine wp_istore (L1 := [some (.ref l0), none, some (.int l2), some (.int l3), some (.int l5), some (.int l5)]) dX7_look_68 (Nat.le_of_ble_eq_true rfl) rfl ?_
      exact WP.wk (BX7_look_70 hk0 h10) (And.intro rfl (And.intro rfl (And.intro rfl (And.intro rfl (And.intro rfl trivial)))))
def eX7_look (k : KTX7_look) (w : XW) (l0 : Nat) (l1 : Int32) (l2 : Int32) : Option (Int32 × XW) :=
  (fX7_isTold w l0 l1).bind fun q1 =>
  if q1.1 = 0 then
  bX7_look_17 k q1.2
  else
  if l2 < 0 then
  bX7_look_17 k q1.2
  else
  if l2 ≤ (1 : Int32) then
  (fX7_findKinds q1.2 l0 l1).bind fun q7 =>
  (fJ6_bitCount_0f7a4 q7.2 q7.1).bind fun q10 =>
  if (1 : Int32) < q10.1 then
  k q10.2 l0 l2 q7.1 (1 : Int32) (2 : Int32)
  else
  some ((-4 : Int32), q10.2)
  else
  bX7_look_17 k q1.2
theorem EX7_look {K : CX} {l : Launch} {n0 k0 : Nat} {k : KTX7_look} (hk0 : ∀ (w : XW) (l0 : Nat) (l2 : Int32) (l3 : Int32) (l4 : Int32) (l5 : Int32) (q : Int32 × XW), k w l0 l2 l3 l4 l5 = some q → WP K l mX7_look 5 118 n0 k0 (some (.int q.1)) q.2 42 [some (.ref l0), none, some (.int l2), some (.int l3), some (.int l4), some (.int l5)] [] w) {w : XW} {l0 : Nat} {l1 : Int32} {l2 : Int32} {q : Int32 × XW} (h0 : eX7_look k w l0 l1 l2 = some q) : WP K l mX7_look 5 118 n0 k0 (some (.int q.1)) q.2 0 [some (.ref l0), some (.int l1), some (.int l2), none, none, none] [] w := by
  unfold eX7_look at h0
  refine wp_aload_n dX7_look_0 rfl ?_
  refine wp_iload_n dX7_look_1 rfl ?_
  obtain ⟨q1, e3, h2⟩ := Option.bind_eq_some_iff.mp h0
  clear h0
  refine wp_Vi (As := [.int l1]) (S := []) okM_X7_isTold tw380 twP_X7_isTold tw378 (OX7_isTold e3) rfl rfl rfl ⟨(Nat.le_of_ble_eq_true rfl), (Nat.le_of_ble_eq_true rfl)⟩ (Nat.le_of_ble_eq_true rfl) rfl dX7_look_2 (MX7_isTold e3) ?_
  refine wp_if_eq (tgt := 17) dX7_look_5 (by decide) (fun c4 => ?_) (fun c4 => ?_)
  · rw [if_pos c4] at h2
    exact WP.wk (BX7_look_17 hk0 h2) trivial
  · rw [if_neg c4] at h2
    refine wp_iload_n dX7_look_8 rfl ?_
    refine wp_if_lt (tgt := 17) dX7_look_9 (by decide) (fun c5 => ?_) (fun c5 => ?_)
    · rw [if_pos c5] at h2
      exact WP.wk (BX7_look_17 hk0 h2) trivial
    · rw [if_neg c5] at h2
      refine wp_iload_n dX7_look_12 rfl ?_
      refine wp_iconst (v := (1 : Int32)) dX7_look_13 (by decide) ?_
      refine wp_icmp_le (tgt := 19) dX7_look_14 (by decide) (fun c6 => ?_) (fun c6 => ?_)
      · rw [if_pos c6] at h2
        refine wp_aload_n dX7_look_19 rfl ?_
        refine wp_iload_n dX7_look_20 rfl ?_
        obtain ⟨q7, e9, h8⟩ := Option.bind_eq_some_iff.mp h2
        clear h2
        refine wp_Vi (As := [.int l1]) (S := []) okM_X7_findKinds tw596 twP_X7_findKinds tw594 (OX7_findKinds e9) rfl rfl rfl ⟨(Nat.le_of_ble_eq_true rfl), (Nat.le_of_ble_eq_true rfl)⟩ (Nat.le_of_ble_eq_true rfl) rfl dX7_look_21 (MX7_findKinds e9) ?_
        refine wp_istore_n (L1 := [some (.ref l0), some (.int l1), some (.int l2), some (.int q7.1), none, none]) dX7_look_24 (Nat.le_of_ble_eq_true rfl) rfl ?_
        refine wp_iload_n dX7_look_25 rfl ?_
        obtain ⟨q10, e12, h11⟩ := Option.bind_eq_some_iff.mp h8
        clear h8
        refine wp_Si (As := [.int q7.1]) (S := []) okM_J6_bitCount_0f7a4 tw610 tw609 rfl ⟨(Nat.le_of_ble_eq_true rfl), (Nat.le_of_ble_eq_true rfl)⟩ (Nat.le_of_ble_eq_true rfl) rfl dX7_look_26 (MJ6_bitCount_0f7a4 e12) ?_
        refine wp_iconst (v := (1 : Int32)) dX7_look_29 (by decide) ?_
        refine wp_icmp_gt (tgt := 36) dX7_look_30 (by decide) (fun c13 => ?_) (fun c13 => ?_)
        · rw [if_pos c13] at h11
          refine wp_iconst (v := (1 : Int32)) dX7_look_36 (by decide) ?_
          refine wp_istore (L1 := [some (.ref l0), some (.int l1), some (.int l2), some (.int q7.1), some (.int (1 : Int32)), none]) dX7_look_37 (Nat.le_of_ble_eq_true rfl) rfl ?_
          refine wp_iconst (v := (2 : Int32)) dX7_look_39 (by decide) ?_
          refine wp_istore (L1 := [some (.ref l0), some (.int l1), some (.int l2), some (.int q7.1), some (.int (1 : Int32)), some (.int (2 : Int32))]) dX7_look_40 (Nat.le_of_ble_eq_true rfl) rfl ?_
          exact WP.wk (hk0 _ _ _ _ _ _ _ h11) (And.intro rfl (And.intro rfl (And.intro rfl (And.intro rfl (And.intro rfl trivial)))))
        · rw [if_neg c13] at h11
          refine wp_bipush (v := (-4 : Int32)) dX7_look_33 (by decide) ?_
          cases h11
          exact wp_iret rfl dX7_look_35
      · rw [if_neg c6] at h2
        exact WP.wk (BX7_look_17 hk0 h2) trivial
def loX7_look : Nat → KTX7_look
  | 0 => fun _ _ _ _ _ _ => none
  | n + 1 => hX7_look_42 (loX7_look n)
theorem LOX7_look {K : CX} {l : Launch} {n0 k0 : Nat} : ∀ n : Nat, (∀ (w : XW) (l0 : Nat) (l2 : Int32) (l3 : Int32) (l4 : Int32) (l5 : Int32) (q : Int32 × XW), (loX7_look n) w l0 l2 l3 l4 l5 = some q → WP K l mX7_look 5 118 n0 k0 (some (.int q.1)) q.2 42 [some (.ref l0), none, some (.int l2), some (.int l3), some (.int l4), some (.int l5)] [] w) := by
  intro n
  induction n with
  | zero => exact fun _ _ _ _ _ _ q h => (by cases h)
  | succ n ih => exact fun _ _ _ _ _ _ q h => HX7_look_42 ih h
def fX7_look (w : XW) (l0 : Nat) (l1 : Int32) (l2 : Int32) : Option (Int32 × XW) := if isO w l0 7 = true then eX7_look (loX7_look FU) w l0 l1 l2 else none
theorem OX7_look {w : XW} {l0 : Nat} {l1 : Int32} {l2 : Int32} {q : Int32 × XW} (h : fX7_look w l0 l1 l2 = some q) : isO w l0 7 = true := Decidable.byContradiction fun z => by unfold fX7_look at h; rw [if_neg z] at h; cases h
theorem MX7_look {K : CX} {l : Launch} {w : XW} {l0 : Nat} {l1 : Int32} {l2 : Int32} {q : Int32 × XW} (h : fX7_look w l0 l1 l2 = some q) : MT K l mX7_look 5 118 [.ref l0, .int l1, .int l2] w (some (.int q.1)) q.2 := by
  have z := OX7_look h
  unfold fX7_look at h
  rw [if_pos z] at h
  exact MT.of (by decide) (Nat.le_of_ble_eq_true rfl) rfl (EX7_look (LOX7_look FU) h)
/-! FractionRunModel.look(II)I: frames 8, words 188 -/
abbrev mX8_look : MR := (⟨"FractionRunModel", "look", "(II)I"⟩, prog_10_method_62_code, 13, (some .int))
theorem dX8_look_0 : decode prog_10_method_62_code 0 = .ok (.aload_n 0, 1) := by decide +kernel
theorem dX8_look_1 : decode prog_10_method_62_code 1 = .ok (.iload_n 1, 1) := by decide +kernel
theorem dX8_look_2 : decode prog_10_method_62_code 2 = .ok (.invokevirtual 158, 3) := by decide +kernel
theorem dX8_look_5 : decode prog_10_method_62_code 5 = .ok (.ifCond .eq 13, 3) := by decide +kernel
theorem dX8_look_8 : decode prog_10_method_62_code 8 = .ok (.iload_n 2, 1) := by decide +kernel
theorem dX8_look_9 : decode prog_10_method_62_code 9 = .ok (.i2l, 1) := by decide +kernel
theorem dX8_look_10 : decode prog_10_method_62_code 10 = .ok (.lconst 0, 1) := by decide +kernel
theorem dX8_look_11 : decode prog_10_method_62_code 11 = .ok (.lconst 1, 1) := by decide +kernel
theorem dX8_look_12 : decode prog_10_method_62_code 12 = .ok (.invokestatic 88, 3) := by decide +kernel
theorem dX8_look_15 : decode prog_10_method_62_code 15 = .ok (.ifCond .ne 5, 3) := by decide +kernel
theorem dX8_look_18 : decode prog_10_method_62_code 18 = .ok (.iconst (-1), 1) := by decide +kernel
theorem dX8_look_19 : decode prog_10_method_62_code 19 = .ok (.ireturn, 1) := by decide +kernel
theorem dX8_look_20 : decode prog_10_method_62_code 20 = .ok (.aload_n 0, 1) := by decide +kernel
theorem dX8_look_21 : decode prog_10_method_62_code 21 = .ok (.iload_n 1, 1) := by decide +kernel
theorem dX8_look_22 : decode prog_10_method_62_code 22 = .ok (.invokevirtual 230, 3) := by decide +kernel
theorem dX8_look_25 : decode prog_10_method_62_code 25 = .ok (.istore_n 3, 1) := by decide +kernel
theorem dX8_look_26 : decode prog_10_method_62_code 26 = .ok (.aload_n 0, 1) := by decide +kernel
theorem dX8_look_27 : decode prog_10_method_62_code 27 = .ok (.getfield 7, 3) := by decide +kernel
theorem dX8_look_30 : decode prog_10_method_62_code 30 = .ok (.iload_n 1, 1) := by decide +kernel
theorem dX8_look_31 : decode prog_10_method_62_code 31 = .ok (.iaload, 1) := by decide +kernel
theorem dX8_look_32 : decode prog_10_method_62_code 32 = .ok (.istore 4, 2) := by decide +kernel
theorem dX8_look_34 : decode prog_10_method_62_code 34 = .ok (.iconst 0, 1) := by decide +kernel
theorem dX8_look_35 : decode prog_10_method_62_code 35 = .ok (.istore 5, 2) := by decide +kernel
theorem dX8_look_37 : decode prog_10_method_62_code 37 = .ok (.iconst 0, 1) := by decide +kernel
theorem dX8_look_38 : decode prog_10_method_62_code 38 = .ok (.istore 6, 2) := by decide +kernel
theorem dX8_look_40 : decode prog_10_method_62_code 40 = .ok (.iload 6, 2) := by decide +kernel
theorem dX8_look_42 : decode prog_10_method_62_code 42 = .ok (.bipush 6, 2) := by decide +kernel
theorem dX8_look_44 : decode prog_10_method_62_code 44 = .ok (.if_icmp .ge 72, 3) := by decide +kernel
theorem dX8_look_47 : decode prog_10_method_62_code 47 = .ok (.iload 5, 2) := by decide +kernel
theorem dX8_look_49 : decode prog_10_method_62_code 49 = .ok (.iload_n 3, 1) := by decide +kernel
theorem dX8_look_50 : decode prog_10_method_62_code 50 = .ok (.iload 6, 2) := by decide +kernel
theorem dX8_look_52 : decode prog_10_method_62_code 52 = .ok (.ishr, 1) := by decide +kernel
theorem dX8_look_53 : decode prog_10_method_62_code 53 = .ok (.iconst 1, 1) := by decide +kernel
theorem dX8_look_54 : decode prog_10_method_62_code 54 = .ok (.iand, 1) := by decide +kernel
theorem dX8_look_55 : decode prog_10_method_62_code 55 = .ok (.iadd, 1) := by decide +kernel
theorem dX8_look_56 : decode prog_10_method_62_code 56 = .ok (.istore 5, 2) := by decide +kernel
theorem dX8_look_58 : decode prog_10_method_62_code 58 = .ok (.aload_n 0, 1) := by decide +kernel
theorem dX8_look_59 : decode prog_10_method_62_code 59 = .ok (.getfield 7, 3) := by decide +kernel
theorem dX8_look_62 : decode prog_10_method_62_code 62 = .ok (.iload_n 1, 1) := by decide +kernel
theorem dX8_look_63 : decode prog_10_method_62_code 63 = .ok (.iload 6, 2) := by decide +kernel
theorem dX8_look_65 : decode prog_10_method_62_code 65 = .ok (.iastore, 1) := by decide +kernel
theorem dX8_look_66 : decode prog_10_method_62_code 66 = .ok (.aload_n 0, 1) := by decide +kernel
theorem dX8_look_67 : decode prog_10_method_62_code 67 = .ok (.iconst 0, 1) := by decide +kernel
theorem dX8_look_68 : decode prog_10_method_62_code 68 = .ok (.sipush 198, 3) := by decide +kernel
theorem dX8_look_71 : decode prog_10_method_62_code 71 = .ok (.invokevirtual 155, 3) := by decide +kernel
theorem dX8_look_74 : decode prog_10_method_62_code 74 = .ok (.iconst 0, 1) := by decide +kernel
theorem dX8_look_75 : decode prog_10_method_62_code 75 = .ok (.istore 7, 2) := by decide +kernel
theorem dX8_look_77 : decode prog_10_method_62_code 77 = .ok (.iload 7, 2) := by decide +kernel
theorem dX8_look_79 : decode prog_10_method_62_code 79 = .ok (.bipush 20, 2) := by decide +kernel
theorem dX8_look_81 : decode prog_10_method_62_code 81 = .ok (.if_icmp .ge 29, 3) := by decide +kernel
theorem dX8_look_84 : decode prog_10_method_62_code 84 = .ok (.aload_n 0, 1) := by decide +kernel
theorem dX8_look_85 : decode prog_10_method_62_code 85 = .ok (.getfield 47, 3) := by decide +kernel
theorem dX8_look_88 : decode prog_10_method_62_code 88 = .ok (.bipush 20, 2) := by decide +kernel
theorem dX8_look_90 : decode prog_10_method_62_code 90 = .ok (.iload 6, 2) := by decide +kernel
theorem dX8_look_92 : decode prog_10_method_62_code 92 = .ok (.imul, 1) := by decide +kernel
theorem dX8_look_93 : decode prog_10_method_62_code 93 = .ok (.iload 7, 2) := by decide +kernel
theorem dX8_look_95 : decode prog_10_method_62_code 95 = .ok (.iadd, 1) := by decide +kernel
theorem dX8_look_96 : decode prog_10_method_62_code 96 = .ok (.aload_n 0, 1) := by decide +kernel
theorem dX8_look_97 : decode prog_10_method_62_code 97 = .ok (.sipush 198, 3) := by decide +kernel
theorem dX8_look_100 : decode prog_10_method_62_code 100 = .ok (.invokevirtual 175, 3) := by decide +kernel
theorem dX8_look_103 : decode prog_10_method_62_code 103 = .ok (.iastore, 1) := by decide +kernel
theorem dX8_look_104 : decode prog_10_method_62_code 104 = .ok (.iinc 7 1, 3) := by decide +kernel
theorem dX8_look_107 : decode prog_10_method_62_code 107 = .ok (.goto (-30), 3) := by decide +kernel
theorem dX8_look_110 : decode prog_10_method_62_code 110 = .ok (.iinc 6 1, 3) := by decide +kernel
theorem dX8_look_113 : decode prog_10_method_62_code 113 = .ok (.goto (-73), 3) := by decide +kernel
theorem dX8_look_116 : decode prog_10_method_62_code 116 = .ok (.aload_n 0, 1) := by decide +kernel
theorem dX8_look_117 : decode prog_10_method_62_code 117 = .ok (.getfield 7, 3) := by decide +kernel
theorem dX8_look_120 : decode prog_10_method_62_code 120 = .ok (.iload_n 1, 1) := by decide +kernel
theorem dX8_look_121 : decode prog_10_method_62_code 121 = .ok (.iload 4, 2) := by decide +kernel
theorem dX8_look_123 : decode prog_10_method_62_code 123 = .ok (.iastore, 1) := by decide +kernel
theorem dX8_look_124 : decode prog_10_method_62_code 124 = .ok (.bipush (-4), 2) := by decide +kernel
theorem dX8_look_126 : decode prog_10_method_62_code 126 = .ok (.istore 6, 2) := by decide +kernel
theorem dX8_look_128 : decode prog_10_method_62_code 128 = .ok (.bipush 9, 2) := by decide +kernel
theorem dX8_look_130 : decode prog_10_method_62_code 130 = .ok (.istore 7, 2) := by decide +kernel
theorem dX8_look_132 : decode prog_10_method_62_code 132 = .ok (.iconst 0, 1) := by decide +kernel
theorem dX8_look_133 : decode prog_10_method_62_code 133 = .ok (.istore 8, 2) := by decide +kernel
theorem dX8_look_135 : decode prog_10_method_62_code 135 = .ok (.iload 8, 2) := by decide +kernel
theorem dX8_look_137 : decode prog_10_method_62_code 137 = .ok (.bipush 20, 2) := by decide +kernel
theorem dX8_look_139 : decode prog_10_method_62_code 139 = .ok (.if_icmp .ge 153, 3) := by decide +kernel
theorem dX8_look_142 : decode prog_10_method_62_code 142 = .ok (.iload 5, 2) := by decide +kernel
theorem dX8_look_144 : decode prog_10_method_62_code 144 = .ok (.iconst 1, 1) := by decide +kernel
theorem dX8_look_145 : decode prog_10_method_62_code 145 = .ok (.if_icmp .le 147, 3) := by decide +kernel
theorem dX8_look_148 : decode prog_10_method_62_code 148 = .ok (.iconst 0, 1) := by decide +kernel
theorem dX8_look_149 : decode prog_10_method_62_code 149 = .ok (.istore 9, 2) := by decide +kernel
theorem dX8_look_151 : decode prog_10_method_62_code 151 = .ok (.iconst 0, 1) := by decide +kernel
theorem dX8_look_152 : decode prog_10_method_62_code 152 = .ok (.istore 10, 2) := by decide +kernel
theorem dX8_look_154 : decode prog_10_method_62_code 154 = .ok (.iload 10, 2) := by decide +kernel
theorem dX8_look_156 : decode prog_10_method_62_code 156 = .ok (.bipush 6, 2) := by decide +kernel
theorem dX8_look_158 : decode prog_10_method_62_code 158 = .ok (.if_icmp .ge 94, 3) := by decide +kernel
theorem dX8_look_161 : decode prog_10_method_62_code 161 = .ok (.iconst 0, 1) := by decide +kernel
theorem dX8_look_162 : decode prog_10_method_62_code 162 = .ok (.istore 11, 2) := by decide +kernel
theorem dX8_look_164 : decode prog_10_method_62_code 164 = .ok (.iconst 0, 1) := by decide +kernel
theorem dX8_look_165 : decode prog_10_method_62_code 165 = .ok (.istore 12, 2) := by decide +kernel
theorem dX8_look_167 : decode prog_10_method_62_code 167 = .ok (.iload 12, 2) := by decide +kernel
theorem dX8_look_169 : decode prog_10_method_62_code 169 = .ok (.bipush 6, 2) := by decide +kernel
theorem dX8_look_171 : decode prog_10_method_62_code 171 = .ok (.if_icmp .ge 66, 3) := by decide +kernel
theorem dX8_look_174 : decode prog_10_method_62_code 174 = .ok (.iload 11, 2) := by decide +kernel
theorem dX8_look_176 : decode prog_10_method_62_code 176 = .ok (.iload_n 3, 1) := by decide +kernel
theorem dX8_look_177 : decode prog_10_method_62_code 177 = .ok (.iload 10, 2) := by decide +kernel
theorem dX8_look_179 : decode prog_10_method_62_code 179 = .ok (.invokestatic 135, 3) := by decide +kernel
theorem dX8_look_182 : decode prog_10_method_62_code 182 = .ok (.ifCond .eq 45, 3) := by decide +kernel
theorem dX8_look_185 : decode prog_10_method_62_code 185 = .ok (.iload_n 3, 1) := by decide +kernel
theorem dX8_look_186 : decode prog_10_method_62_code 186 = .ok (.iload 12, 2) := by decide +kernel
theorem dX8_look_188 : decode prog_10_method_62_code 188 = .ok (.invokestatic 135, 3) := by decide +kernel
theorem dX8_look_191 : decode prog_10_method_62_code 191 = .ok (.ifCond .eq 36, 3) := by decide +kernel
theorem dX8_look_194 : decode prog_10_method_62_code 194 = .ok (.aload_n 0, 1) := by decide +kernel
theorem dX8_look_195 : decode prog_10_method_62_code 195 = .ok (.getfield 47, 3) := by decide +kernel
theorem dX8_look_198 : decode prog_10_method_62_code 198 = .ok (.bipush 20, 2) := by decide +kernel
theorem dX8_look_200 : decode prog_10_method_62_code 200 = .ok (.iload 10, 2) := by decide +kernel
theorem dX8_look_202 : decode prog_10_method_62_code 202 = .ok (.imul, 1) := by decide +kernel
theorem dX8_look_203 : decode prog_10_method_62_code 203 = .ok (.iload 8, 2) := by decide +kernel
theorem dX8_look_205 : decode prog_10_method_62_code 205 = .ok (.iadd, 1) := by decide +kernel
theorem dX8_look_206 : decode prog_10_method_62_code 206 = .ok (.iaload, 1) := by decide +kernel
theorem dX8_look_207 : decode prog_10_method_62_code 207 = .ok (.aload_n 0, 1) := by decide +kernel
theorem dX8_look_208 : decode prog_10_method_62_code 208 = .ok (.getfield 47, 3) := by decide +kernel
theorem dX8_look_211 : decode prog_10_method_62_code 211 = .ok (.bipush 20, 2) := by decide +kernel
theorem dX8_look_213 : decode prog_10_method_62_code 213 = .ok (.iload 12, 2) := by decide +kernel
theorem dX8_look_215 : decode prog_10_method_62_code 215 = .ok (.imul, 1) := by decide +kernel
theorem dX8_look_216 : decode prog_10_method_62_code 216 = .ok (.iload 8, 2) := by decide +kernel
theorem dX8_look_218 : decode prog_10_method_62_code 218 = .ok (.iadd, 1) := by decide +kernel
theorem dX8_look_219 : decode prog_10_method_62_code 219 = .ok (.iaload, 1) := by decide +kernel
theorem dX8_look_220 : decode prog_10_method_62_code 220 = .ok (.if_icmp .ne 7, 3) := by decide +kernel
theorem dX8_look_223 : decode prog_10_method_62_code 223 = .ok (.iconst 1, 1) := by decide +kernel
theorem dX8_look_224 : decode prog_10_method_62_code 224 = .ok (.goto 4, 3) := by decide +kernel
theorem dX8_look_227 : decode prog_10_method_62_code 227 = .ok (.iconst 0, 1) := by decide +kernel
theorem dX8_look_228 : decode prog_10_method_62_code 228 = .ok (.iadd, 1) := by decide +kernel
theorem dX8_look_229 : decode prog_10_method_62_code 229 = .ok (.istore 11, 2) := by decide +kernel
theorem dX8_look_231 : decode prog_10_method_62_code 231 = .ok (.iinc 12 1, 3) := by decide +kernel
theorem dX8_look_234 : decode prog_10_method_62_code 234 = .ok (.goto (-67), 3) := by decide +kernel
theorem dX8_look_237 : decode prog_10_method_62_code 237 = .ok (.iload 9, 2) := by decide +kernel
theorem dX8_look_239 : decode prog_10_method_62_code 239 = .ok (.iload 11, 2) := by decide +kernel
theorem dX8_look_241 : decode prog_10_method_62_code 241 = .ok (.invokestatic 203, 3) := by decide +kernel
theorem dX8_look_244 : decode prog_10_method_62_code 244 = .ok (.istore 9, 2) := by decide +kernel
theorem dX8_look_246 : decode prog_10_method_62_code 246 = .ok (.iinc 10 1, 3) := by decide +kernel
theorem dX8_look_249 : decode prog_10_method_62_code 249 = .ok (.goto (-95), 3) := by decide +kernel
theorem dX8_look_252 : decode prog_10_method_62_code 252 = .ok (.iload 9, 2) := by decide +kernel
theorem dX8_look_254 : decode prog_10_method_62_code 254 = .ok (.iload 7, 2) := by decide +kernel
theorem dX8_look_256 : decode prog_10_method_62_code 256 = .ok (.if_icmp .ge 10, 3) := by decide +kernel
theorem dX8_look_259 : decode prog_10_method_62_code 259 = .ok (.iload 8, 2) := by decide +kernel
theorem dX8_look_261 : decode prog_10_method_62_code 261 = .ok (.iconst 1, 1) := by decide +kernel
theorem dX8_look_262 : decode prog_10_method_62_code 262 = .ok (.iadd, 1) := by decide +kernel
theorem dX8_look_263 : decode prog_10_method_62_code 263 = .ok (.goto 5, 3) := by decide +kernel
theorem dX8_look_266 : decode prog_10_method_62_code 266 = .ok (.iload 6, 2) := by decide +kernel
theorem dX8_look_268 : decode prog_10_method_62_code 268 = .ok (.istore 6, 2) := by decide +kernel
theorem dX8_look_270 : decode prog_10_method_62_code 270 = .ok (.iload 9, 2) := by decide +kernel
theorem dX8_look_272 : decode prog_10_method_62_code 272 = .ok (.iload 7, 2) := by decide +kernel
theorem dX8_look_274 : decode prog_10_method_62_code 274 = .ok (.if_icmp .ge 8, 3) := by decide +kernel
theorem dX8_look_277 : decode prog_10_method_62_code 277 = .ok (.iload 9, 2) := by decide +kernel
theorem dX8_look_279 : decode prog_10_method_62_code 279 = .ok (.goto 5, 3) := by decide +kernel
theorem dX8_look_282 : decode prog_10_method_62_code 282 = .ok (.iload 7, 2) := by decide +kernel
theorem dX8_look_284 : decode prog_10_method_62_code 284 = .ok (.istore 7, 2) := by decide +kernel
theorem dX8_look_286 : decode prog_10_method_62_code 286 = .ok (.iinc 8 1, 3) := by decide +kernel
theorem dX8_look_289 : decode prog_10_method_62_code 289 = .ok (.goto (-154), 3) := by decide +kernel
theorem dX8_look_292 : decode prog_10_method_62_code 292 = .ok (.iload 6, 2) := by decide +kernel
theorem dX8_look_294 : decode prog_10_method_62_code 294 = .ok (.ifCond .lt 7, 3) := by decide +kernel
theorem dX8_look_297 : decode prog_10_method_62_code 297 = .ok (.iload_n 2, 1) := by decide +kernel
theorem dX8_look_298 : decode prog_10_method_62_code 298 = .ok (.ifCond .ne 8, 3) := by decide +kernel
theorem dX8_look_301 : decode prog_10_method_62_code 301 = .ok (.iload 6, 2) := by decide +kernel
theorem dX8_look_303 : decode prog_10_method_62_code 303 = .ok (.goto 5, 3) := by decide +kernel
theorem dX8_look_306 : decode prog_10_method_62_code 306 = .ok (.iload 7, 2) := by decide +kernel
theorem dX8_look_308 : decode prog_10_method_62_code 308 = .ok (.ireturn, 1) := by decide +kernel
theorem okM_X8_look : okM mX8_look 2 := ⟨tw1017, tw15, by decide, by decide, by decide +kernel⟩
abbrev KTX8_look : Type := (XW → Nat → Int32 → Int32 → Int32 → Int32 → Int32 → Int32 → Option (Int32 × XW)) × (XW → Nat → Int32 → Int32 → Int32 → Int32 → Int32 → Int32 → Int32 → Option (Int32 × XW)) × (XW → Nat → Int32 → Int32 → Int32 → Int32 → Int32 → Int32 → Option (Int32 × XW)) × (XW → Nat → Int32 → Int32 → Int32 → Int32 → Int32 → Int32 → Int32 → Int32 → Option (Int32 × XW)) × (XW → Nat → Int32 → Int32 → Int32 → Int32 → Int32 → Int32 → Int32 → Int32 → Int32 → Int32 → Option (Int32 × XW))
def bX8_look_308 (k : KTX8_look) (w : XW) (s0 : Int32) : Option (Int32 × XW) :=
  some (s0, w)
theorem BX8_look_308 {K : CX} {l : Launch} {n0 k0 : Nat} {k : KTX8_look} (hk0 : ∀ (w : XW) (l0 : Nat) (l1 : Int32) (l2 : Int32) (l3 : Int32) (l4 : Int32) (l5 : Int32) (l6 : Int32) (q : Int32 × XW), k.1 w l0 l1 l2 l3 l4 l5 l6 = some q → WP K l mX8_look 8 188 n0 k0 (some (.int q.1)) q.2 40 [some (.ref l0), some (.int l1), some (.int l2), some (.int l3), some (.int l4), some (.int l5), some (.int l6), none, none, none, none, none, none] [] w) (hk1 : ∀ (w : XW) (l0 : Nat) (l1 : Int32) (l2 : Int32) (l3 : Int32) (l4 : Int32) (l5 : Int32) (l6 : Int32) (l7 : Int32) (q : Int32 × XW), k.2.1 w l0 l1 l2 l3 l4 l5 l6 l7 = some q → WP K l mX8_look 8 188 n0 k0 (some (.int q.1)) q.2 77 [some (.ref l0), some (.int l1), some (.int l2), some (.int l3), some (.int l4), some (.int l5), some (.int l6), some (.int l7), none, none, none, none, none] [] w) (hk2 : ∀ (w : XW) (l0 : Nat) (l2 : Int32) (l3 : Int32) (l5 : Int32) (l6 : Int32) (l7 : Int32) (l8 : Int32) (q : Int32 × XW), k.2.2.1 w l0 l2 l3 l5 l6 l7 l8 = some q → WP K l mX8_look 8 188 n0 k0 (some (.int q.1)) q.2 135 [some (.ref l0), none, some (.int l2), some (.int l3), none, some (.int l5), some (.int l6), some (.int l7), some (.int l8), none, none, none, none] [] w) (hk3 : ∀ (w : XW) (l0 : Nat) (l2 : Int32) (l3 : Int32) (l5 : Int32) (l6 : Int32) (l7 : Int32) (l8 : Int32) (l9 : Int32) (l10 : Int32) (q : Int32 × XW), k.2.2.2.1 w l0 l2 l3 l5 l6 l7 l8 l9 l10 = some q → WP K l mX8_look 8 188 n0 k0 (some (.int q.1)) q.2 154 [some (.ref l0), none, some (.int l2), some (.int l3), none, some (.int l5), some (.int l6), some (.int l7), some (.int l8), some (.int l9), some (.int l10), none, none] [] w) (hk4 : ∀ (w : XW) (l0 : Nat) (l2 : Int32) (l3 : Int32) (l5 : Int32) (l6 : Int32) (l7 : Int32) (l8 : Int32) (l9 : Int32) (l10 : Int32) (l11 : Int32) (l12 : Int32) (q : Int32 × XW), k.2.2.2.2 w l0 l2 l3 l5 l6 l7 l8 l9 l10 l11 l12 = some q → WP K l mX8_look 8 188 n0 k0 (some (.int q.1)) q.2 167 [some (.ref l0), none, some (.int l2), some (.int l3), none, some (.int l5), some (.int l6), some (.int l7), some (.int l8), some (.int l9), some (.int l10), some (.int l11), some (.int l12)] [] w) {w : XW} {s0 : Int32} {q : Int32 × XW} (h0 : bX8_look_308 k w s0 = some q) : WP K l mX8_look 8 188 n0 k0 (some (.int q.1)) q.2 308 [none, none, none, none, none, none, none, none, none, none, none, none, none] [.int s0] w := by
  unfold bX8_look_308 at h0
  cases h0
  exact wp_iret rfl dX8_look_308
def bX8_look_301 (k : KTX8_look) (w : XW) (l6 : Int32) : Option (Int32 × XW) :=
  bX8_look_308 k w l6
theorem BX8_look_301 {K : CX} {l : Launch} {n0 k0 : Nat} {k : KTX8_look} (hk0 : ∀ (w : XW) (l0 : Nat) (l1 : Int32) (l2 : Int32) (l3 : Int32) (l4 : Int32) (l5 : Int32) (l6 : Int32) (q : Int32 × XW), k.1 w l0 l1 l2 l3 l4 l5 l6 = some q → WP K l mX8_look 8 188 n0 k0 (some (.int q.1)) q.2 40 [some (.ref l0), some (.int l1), some (.int l2), some (.int l3), some (.int l4), some (.int l5), some (.int l6), none, none, none, none, none, none] [] w) (hk1 : ∀ (w : XW) (l0 : Nat) (l1 : Int32) (l2 : Int32) (l3 : Int32) (l4 : Int32) (l5 : Int32) (l6 : Int32) (l7 : Int32) (q : Int32 × XW), k.2.1 w l0 l1 l2 l3 l4 l5 l6 l7 = some q → WP K l mX8_look 8 188 n0 k0 (some (.int q.1)) q.2 77 [some (.ref l0), some (.int l1), some (.int l2), some (.int l3), some (.int l4), some (.int l5), some (.int l6), some (.int l7), none, none, none, none, none] [] w) (hk2 : ∀ (w : XW) (l0 : Nat) (l2 : Int32) (l3 : Int32) (l5 : Int32) (l6 : Int32) (l7 : Int32) (l8 : Int32) (q : Int32 × XW), k.2.2.1 w l0 l2 l3 l5 l6 l7 l8 = some q → WP K l mX8_look 8 188 n0 k0 (some (.int q.1)) q.2 135 [some (.ref l0), none, some (.int l2), some (.int l3), none, some (.int l5), some (.int l6), some (.int l7), some (.int l8), none, none, none, none] [] w) (hk3 : ∀ (w : XW) (l0 : Nat) (l2 : Int32) (l3 : Int32) (l5 : Int32) (l6 : Int32) (l7 : Int32) (l8 : Int32) (l9 : Int32) (l10 : Int32) (q : Int32 × XW), k.2.2.2.1 w l0 l2 l3 l5 l6 l7 l8 l9 l10 = some q → WP K l mX8_look 8 188 n0 k0 (some (.int q.1)) q.2 154 [some (.ref l0), none, some (.int l2), some (.int l3), none, some (.int l5), some (.int l6), some (.int l7), some (.int l8), some (.int l9), some (.int l10), none, none] [] w) (hk4 : ∀ (w : XW) (l0 : Nat) (l2 : Int32) (l3 : Int32) (l5 : Int32) (l6 : Int32) (l7 : Int32) (l8 : Int32) (l9 : Int32) (l10 : Int32) (l11 : Int32) (l12 : Int32) (q : Int32 × XW), k.2.2.2.2 w l0 l2 l3 l5 l6 l7 l8 l9 l10 l11 l12 = some q → WP K l mX8_look 8 188 n0 k0 (some (.int q.1)) q.2 167 [some (.ref l0), none, some (.int l2), some (.int l3), none, some (.int l5), some (.int l6), some (.int l7), some (.int l8), some (.int l9), some (.int l10), some (.int l11), some (.int l12)] [] w) {w : XW} {l6 : Int32} {q : Int32 × XW} (h0 : bX8_look_301 k w l6 = some q) : WP K l mX8_look 8 188 n0 k0 (some (.int q.1)) q.2 301 [none, none, none, none, none, none, some (.int l6), none, none, none, none, none, none] [] w := by
  unfold bX8_look_301 at h0
  refine wp_iload dX8_look_301 rfl ?_
  refine wp_goto (tgt := 308) dX8_look_303 (by decide) ?_
  exact WP.wk (BX8_look_308 hk0 hk1 hk2 hk3 hk4 h0) trivial
def bX8_look_292 (k : KTX8_look) (w : XW) (l2 : Int32) (l6 : Int32) (l7 : Int32) : Option (Int32 × XW) :=
  if l6 < 0 then
  bX8_look_301 k w l6
  else
  if l2 = 0 then
  bX8_look_301 k w l6
  else
  bX8_look_308 k w l7
theorem BX8_look_292 {K : CX} {l : Launch} {n0 k0 : Nat} {k : KTX8_look} (hk0 : ∀ (w : XW) (l0 : Nat) (l1 : Int32) (l2 : Int32) (l3 : Int32) (l4 : Int32) (l5 : Int32) (l6 : Int32) (q : Int32 × XW), k.1 w l0 l1 l2 l3 l4 l5 l6 = some q → WP K l mX8_look 8 188 n0 k0 (some (.int q.1)) q.2 40 [some (.ref l0), some (.int l1), some (.int l2), some (.int l3), some (.int l4), some (.int l5), some (.int l6), none, none, none, none, none, none] [] w) (hk1 : ∀ (w : XW) (l0 : Nat) (l1 : Int32) (l2 : Int32) (l3 : Int32) (l4 : Int32) (l5 : Int32) (l6 : Int32) (l7 : Int32) (q : Int32 × XW), k.2.1 w l0 l1 l2 l3 l4 l5 l6 l7 = some q → WP K l mX8_look 8 188 n0 k0 (some (.int q.1)) q.2 77 [some (.ref l0), some (.int l1), some (.int l2), some (.int l3), some (.int l4), some (.int l5), some (.int l6), some (.int l7), none, none, none, none, none] [] w) (hk2 : ∀ (w : XW) (l0 : Nat) (l2 : Int32) (l3 : Int32) (l5 : Int32) (l6 : Int32) (l7 : Int32) (l8 : Int32) (q : Int32 × XW), k.2.2.1 w l0 l2 l3 l5 l6 l7 l8 = some q → WP K l mX8_look 8 188 n0 k0 (some (.int q.1)) q.2 135 [some (.ref l0), none, some (.int l2), some (.int l3), none, some (.int l5), some (.int l6), some (.int l7), some (.int l8), none, none, none, none] [] w) (hk3 : ∀ (w : XW) (l0 : Nat) (l2 : Int32) (l3 : Int32) (l5 : Int32) (l6 : Int32) (l7 : Int32) (l8 : Int32) (l9 : Int32) (l10 : Int32) (q : Int32 × XW), k.2.2.2.1 w l0 l2 l3 l5 l6 l7 l8 l9 l10 = some q → WP K l mX8_look 8 188 n0 k0 (some (.int q.1)) q.2 154 [some (.ref l0), none, some (.int l2), some (.int l3), none, some (.int l5), some (.int l6), some (.int l7), some (.int l8), some (.int l9), some (.int l10), none, none] [] w) (hk4 : ∀ (w : XW) (l0 : Nat) (l2 : Int32) (l3 : Int32) (l5 : Int32) (l6 : Int32) (l7 : Int32) (l8 : Int32) (l9 : Int32) (l10 : Int32) (l11 : Int32) (l12 : Int32) (q : Int32 × XW), k.2.2.2.2 w l0 l2 l3 l5 l6 l7 l8 l9 l10 l11 l12 = some q → WP K l mX8_look 8 188 n0 k0 (some (.int q.1)) q.2 167 [some (.ref l0), none, some (.int l2), some (.int l3), none, some (.int l5), some (.int l6), some (.int l7), some (.int l8), some (.int l9), some (.int l10), some (.int l11), some (.int l12)] [] w) {w : XW} {l2 : Int32} {l6 : Int32} {l7 : Int32} {q : Int32 × XW} (h0 : bX8_look_292 k w l2 l6 l7 = some q) : WP K l mX8_look 8 188 n0 k0 (some (.int q.1)) q.2 292 [none, none, some (.int l2), none, none, none, some (.int l6), some (.int l7), none, none, none, none, none] [] w := by
  unfold bX8_look_292 at h0
  refine wp_iload dX8_look_292 rfl ?_
  refine wp_if_lt (tgt := 301) dX8_look_294 (by decide) (fun c1 => ?_) (fun c1 => ?_)
  · rw [if_pos c1] at h0
    exact WP.wk (BX8_look_301 hk0 hk1 hk2 hk3 hk4 h0) (And.intro rfl trivial)
  · rw [if_neg c1] at h0
    refine wp_iload_n dX8_look_297 rfl ?_
    refine wp_if_ne (tgt := 306) dX8_look_298 (by decide) (fun c2 => ?_) (fun c2 => ?_)
    · rw [if_neg c2] at h0
      refine wp_iload dX8_look_306 rfl ?_
      exact WP.wk (BX8_look_308 hk0 hk1 hk2 hk3 hk4 h0) trivial
    · rw [if_pos c2] at h0
      exact WP.wk (BX8_look_301 hk0 hk1 hk2 hk3 hk4 h0) (And.intro rfl trivial)
def bX8_look_284 (k : KTX8_look) (w : XW) (l0 : Nat) (l2 : Int32) (l3 : Int32) (l5 : Int32) (l6 : Int32) (l8 : Int32) (s0 : Int32) : Option (Int32 × XW) :=
  k.2.2.1 w l0 l2 l3 l5 l6 s0 (l8 + (1 : Int32))
theorem BX8_look_284 {K : CX} {l : Launch} {n0 k0 : Nat} {k : KTX8_look} (hk0 : ∀ (w : XW) (l0 : Nat) (l1 : Int32) (l2 : Int32) (l3 : Int32) (l4 : Int32) (l5 : Int32) (l6 : Int32) (q : Int32 × XW), k.1 w l0 l1 l2 l3 l4 l5 l6 = some q → WP K l mX8_look 8 188 n0 k0 (some (.int q.1)) q.2 40 [some (.ref l0), some (.int l1), some (.int l2), some (.int l3), some (.int l4), some (.int l5), some (.int l6), none, none, none, none, none, none] [] w) (hk1 : ∀ (w : XW) (l0 : Nat) (l1 : Int32) (l2 : Int32) (l3 : Int32) (l4 : Int32) (l5 : Int32) (l6 : Int32) (l7 : Int32) (q : Int32 × XW), k.2.1 w l0 l1 l2 l3 l4 l5 l6 l7 = some q → WP K l mX8_look 8 188 n0 k0 (some (.int q.1)) q.2 77 [some (.ref l0), some (.int l1), some (.int l2), some (.int l3), some (.int l4), some (.int l5), some (.int l6), some (.int l7), none, none, none, none, none] [] w) (hk2 : ∀ (w : XW) (l0 : Nat) (l2 : Int32) (l3 : Int32) (l5 : Int32) (l6 : Int32) (l7 : Int32) (l8 : Int32) (q : Int32 × XW), k.2.2.1 w l0 l2 l3 l5 l6 l7 l8 = some q → WP K l mX8_look 8 188 n0 k0 (some (.int q.1)) q.2 135 [some (.ref l0), none, some (.int l2), some (.int l3), none, some (.int l5), some (.int l6), some (.int l7), some (.int l8), none, none, none, none] [] w) (hk3 : ∀ (w : XW) (l0 : Nat) (l2 : Int32) (l3 : Int32) (l5 : Int32) (l6 : Int32) (l7 : Int32) (l8 : Int32) (l9 : Int32) (l10 : Int32) (q : Int32 × XW), k.2.2.2.1 w l0 l2 l3 l5 l6 l7 l8 l9 l10 = some q → WP K l mX8_look 8 188 n0 k0 (some (.int q.1)) q.2 154 [some (.ref l0), none, some (.int l2), some (.int l3), none, some (.int l5), some (.int l6), some (.int l7), some (.int l8), some (.int l9), some (.int l10), none, none] [] w) (hk4 : ∀ (w : XW) (l0 : Nat) (l2 : Int32) (l3 : Int32) (l5 : Int32) (l6 : Int32) (l7 : Int32) (l8 : Int32) (l9 : Int32) (l10 : Int32) (l11 : Int32) (l12 : Int32) (q : Int32 × XW), k.2.2.2.2 w l0 l2 l3 l5 l6 l7 l8 l9 l10 l11 l12 = some q → WP K l mX8_look 8 188 n0 k0 (some (.int q.1)) q.2 167 [some (.ref l0), none, some (.int l2), some (.int l3), none, some (.int l5), some (.int l6), some (.int l7), some (.int l8), some (.int l9), some (.int l10), some (.int l11), some (.int l12)] [] w) {w : XW} {l0 : Nat} {l2 : Int32} {l3 : Int32} {l5 : Int32} {l6 : Int32} {l8 : Int32} {s0 : Int32} {q : Int32 × XW} (h0 : bX8_look_284 k w l0 l2 l3 l5 l6 l8 s0 = some q) : WP K l mX8_look 8 188 n0 k0 (some (.int q.1)) q.2 284 [some (.ref l0), none, some (.int l2), some (.int l3), none, some (.int l5), some (.int l6), none, some (.int l8), none, none, none, none] [.int s0] w := by
  unfold bX8_look_284 at h0
  refine wp_istore (L1 := [some (.ref l0), none, some (.int l2), some (.int l3), none, some (.int l5), some (.int l6), some (.int s0), some (.int l8), none, none, none, none]) dX8_look_284 (Nat.le_of_ble_eq_true rfl) rfl ?_
  refine wp_iinc (v := (l8 + (1 : Int32))) (L1 := [some (.ref l0), none, some (.int l2), some (.int l3), none, some (.int l5), some (.int l6), some (.int s0), some (.int (l8 + (1 : Int32))), none, none, none, none]) dX8_look_286 (Nat.le_of_ble_eq_true rfl) rfl (congrArg (fun z => l8 + z) (by decide)) rfl ?_
  refine wp_goto (tgt := 135) dX8_look_289 (by decide) ?_
  exact WP.wk (hk2 _ _ _ _ _ _ _ _ _ h0) (And.intro rfl (And.intro rfl (And.intro rfl (And.intro rfl (And.intro rfl (And.intro rfl (And.intro rfl trivial)))))))
def bX8_look_268 (k : KTX8_look) (w : XW) (l0 : Nat) (l2 : Int32) (l3 : Int32) (l5 : Int32) (l7 : Int32) (l8 : Int32) (l9 : Int32) (s0 : Int32) : Option (Int32 × XW) :=
  if l7 ≤ l9 then
  bX8_look_284 k w l0 l2 l3 l5 s0 l8 l7
  else
  bX8_look_284 k w l0 l2 l3 l5 s0 l8 l9
theorem BX8_look_268 {K : CX} {l : Launch} {n0 k0 : Nat} {k : KTX8_look} (hk0 : ∀ (w : XW) (l0 : Nat) (l1 : Int32) (l2 : Int32) (l3 : Int32) (l4 : Int32) (l5 : Int32) (l6 : Int32) (q : Int32 × XW), k.1 w l0 l1 l2 l3 l4 l5 l6 = some q → WP K l mX8_look 8 188 n0 k0 (some (.int q.1)) q.2 40 [some (.ref l0), some (.int l1), some (.int l2), some (.int l3), some (.int l4), some (.int l5), some (.int l6), none, none, none, none, none, none] [] w) (hk1 : ∀ (w : XW) (l0 : Nat) (l1 : Int32) (l2 : Int32) (l3 : Int32) (l4 : Int32) (l5 : Int32) (l6 : Int32) (l7 : Int32) (q : Int32 × XW), k.2.1 w l0 l1 l2 l3 l4 l5 l6 l7 = some q → WP K l mX8_look 8 188 n0 k0 (some (.int q.1)) q.2 77 [some (.ref l0), some (.int l1), some (.int l2), some (.int l3), some (.int l4), some (.int l5), some (.int l6), some (.int l7), none, none, none, none, none] [] w) (hk2 : ∀ (w : XW) (l0 : Nat) (l2 : Int32) (l3 : Int32) (l5 : Int32) (l6 : Int32) (l7 : Int32) (l8 : Int32) (q : Int32 × XW), k.2.2.1 w l0 l2 l3 l5 l6 l7 l8 = some q → WP K l mX8_look 8 188 n0 k0 (some (.int q.1)) q.2 135 [some (.ref l0), none, some (.int l2), some (.int l3), none, some (.int l5), some (.int l6), some (.int l7), some (.int l8), none, none, none, none] [] w) (hk3 : ∀ (w : XW) (l0 : Nat) (l2 : Int32) (l3 : Int32) (l5 : Int32) (l6 : Int32) (l7 : Int32) (l8 : Int32) (l9 : Int32) (l10 : Int32) (q : Int32 × XW), k.2.2.2.1 w l0 l2 l3 l5 l6 l7 l8 l9 l10 = some q → WP K l mX8_look 8 188 n0 k0 (some (.int q.1)) q.2 154 [some (.ref l0), none, some (.int l2), some (.int l3), none, some (.int l5), some (.int l6), some (.int l7), some (.int l8), some (.int l9), some (.int l10), none, none] [] w) (hk4 : ∀ (w : XW) (l0 : Nat) (l2 : Int32) (l3 : Int32) (l5 : Int32) (l6 : Int32) (l7 : Int32) (l8 : Int32) (l9 : Int32) (l10 : Int32) (l11 : Int32) (l12 : Int32) (q : Int32 × XW), k.2.2.2.2 w l0 l2 l3 l5 l6 l7 l8 l9 l10 l11 l12 = some q → WP K l mX8_look 8 188 n0 k0 (some (.int q.1)) q.2 167 [some (.ref l0), none, some (.int l2), some (.int l3), none, some (.int l5), some (.int l6), some (.int l7), some (.int l8), some (.int l9), some (.int l10), some (.int l11), some (.int l12)] [] w) {w : XW} {l0 : Nat} {l2 : Int32} {l3 : Int32} {l5 : Int32} {l7 : Int32} {l8 : Int32} {l9 : Int32} {s0 : Int32} {q : Int32 × XW} (h0 : bX8_look_268 k w l0 l2 l3 l5 l7 l8 l9 s0 = some q) : WP K l mX8_look 8 188 n0 k0 (some (.int q.1)) q.2 268 [some (.ref l0), none, some (.int l2), some (.int l3), none, some (.int l5), none, some (.int l7), some (.int l8), some (.int l9), none, none, none] [.int s0] w := by
  unfold bX8_look_268 at h0
  refine wp_istore (L1 := [some (.ref l0), none, some (.int l2), some (.int l3), none, some (.int l5), some (.int s0), some (.int l7), some (.int l8), some (.int l9), none, none, none]) dX8_look_268 (Nat.le_of_ble_eq_true rfl) rfl ?_
  refine wp_iload dX8_look_270 rfl ?_
  refine wp_iload dX8_look_272 rfl ?_
  refine wp_icmp_ge (tgt := 282) dX8_look_274 (by decide) (fun c1 => ?_) (fun c1 => ?_)
  · rw [if_pos c1] at h0
    refine wp_iload dX8_look_282 rfl ?_
    exact WP.wk (BX8_look_284 hk0 hk1 hk2 hk3 hk4 h0) (And.intro rfl (And.intro rfl (And.intro rfl (And.intro rfl (And.intro rfl (And.intro rfl trivial))))))
  · rw [if_neg c1] at h0
    refine wp_iload dX8_look_277 rfl ?_
    refine wp_goto (tgt := 284) dX8_look_279 (by decide) ?_
    exact WP.wk (BX8_look_284 hk0 hk1 hk2 hk3 hk4 h0) (And.intro rfl (And.intro rfl (And.intro rfl (And.intro rfl (And.intro rfl (And.intro rfl trivial))))))
def bX8_look_228 (k : KTX8_look) (w : XW) (l0 : Nat) (l2 : Int32) (l3 : Int32) (l5 : Int32) (l6 : Int32) (l7 : Int32) (l8 : Int32) (l9 : Int32) (l10 : Int32) (l12 : Int32) (s0 : Int32) (s1 : Int32) : Option (Int32 × XW) :=
  k.2.2.2.2 w l0 l2 l3 l5 l6 l7 l8 l9 l10 (s0 + s1) (l12 + (1 : Int32))
theorem BX8_look_228 {K : CX} {l : Launch} {n0 k0 : Nat} {k : KTX8_look} (hk0 : ∀ (w : XW) (l0 : Nat) (l1 : Int32) (l2 : Int32) (l3 : Int32) (l4 : Int32) (l5 : Int32) (l6 : Int32) (q : Int32 × XW), k.1 w l0 l1 l2 l3 l4 l5 l6 = some q → WP K l mX8_look 8 188 n0 k0 (some (.int q.1)) q.2 40 [some (.ref l0), some (.int l1), some (.int l2), some (.int l3), some (.int l4), some (.int l5), some (.int l6), none, none, none, none, none, none] [] w) (hk1 : ∀ (w : XW) (l0 : Nat) (l1 : Int32) (l2 : Int32) (l3 : Int32) (l4 : Int32) (l5 : Int32) (l6 : Int32) (l7 : Int32) (q : Int32 × XW), k.2.1 w l0 l1 l2 l3 l4 l5 l6 l7 = some q → WP K l mX8_look 8 188 n0 k0 (some (.int q.1)) q.2 77 [some (.ref l0), some (.int l1), some (.int l2), some (.int l3), some (.int l4), some (.int l5), some (.int l6), some (.int l7), none, none, none, none, none] [] w) (hk2 : ∀ (w : XW) (l0 : Nat) (l2 : Int32) (l3 : Int32) (l5 : Int32) (l6 : Int32) (l7 : Int32) (l8 : Int32) (q : Int32 × XW), k.2.2.1 w l0 l2 l3 l5 l6 l7 l8 = some q → WP K l mX8_look 8 188 n0 k0 (some (.int q.1)) q.2 135 [some (.ref l0), none, some (.int l2), some (.int l3), none, some (.int l5), some (.int l6), some (.int l7), some (.int l8), none, none, none, none] [] w) (hk3 : ∀ (w : XW) (l0 : Nat) (l2 : Int32) (l3 : Int32) (l5 : Int32) (l6 : Int32) (l7 : Int32) (l8 : Int32) (l9 : Int32) (l10 : Int32) (q : Int32 × XW), k.2.2.2.1 w l0 l2 l3 l5 l6 l7 l8 l9 l10 = some q → WP K l mX8_look 8 188 n0 k0 (some (.int q.1)) q.2 154 [some (.ref l0), none, some (.int l2), some (.int l3), none, some (.int l5), some (.int l6), some (.int l7), some (.int l8), some (.int l9), some (.int l10), none, none] [] w) (hk4 : ∀ (w : XW) (l0 : Nat) (l2 : Int32) (l3 : Int32) (l5 : Int32) (l6 : Int32) (l7 : Int32) (l8 : Int32) (l9 : Int32) (l10 : Int32) (l11 : Int32) (l12 : Int32) (q : Int32 × XW), k.2.2.2.2 w l0 l2 l3 l5 l6 l7 l8 l9 l10 l11 l12 = some q → WP K l mX8_look 8 188 n0 k0 (some (.int q.1)) q.2 167 [some (.ref l0), none, some (.int l2), some (.int l3), none, some (.int l5), some (.int l6), some (.int l7), some (.int l8), some (.int l9), some (.int l10), some (.int l11), some (.int l12)] [] w) {w : XW} {l0 : Nat} {l2 : Int32} {l3 : Int32} {l5 : Int32} {l6 : Int32} {l7 : Int32} {l8 : Int32} {l9 : Int32} {l10 : Int32} {l12 : Int32} {s0 : Int32} {s1 : Int32} {q : Int32 × XW} (h0 : bX8_look_228 k w l0 l2 l3 l5 l6 l7 l8 l9 l10 l12 s0 s1 = some q) : WP K l mX8_look 8 188 n0 k0 (some (.int q.1)) q.2 228 [some (.ref l0), none, some (.int l2), some (.int l3), none, some (.int l5), some (.int l6), some (.int l7), some (.int l8), some (.int l9), some (.int l10), none, some (.int l12)] [.int s1, .int s0] w := by
  unfold bX8_look_228 at h0
  refine wp_iadd dX8_look_228 ?_
  refine wp_istore (L1 := [some (.ref l0), none, some (.int l2), some (.int l3), none, some (.int l5), some (.int l6), some (.int l7), some (.int l8), some (.int l9), some (.int l10), some (.int (s0 + s1)), some (.int l12)]) dX8_look_229 (Nat.le_of_ble_eq_true rfl) rfl ?_
  refine wp_iinc (v := (l12 + (1 : Int32))) (L1 := [some (.ref l0), none, some (.int l2), some (.int l3), none, some (.int l5), some (.int l6), some (.int l7), some (.int l8), some (.int l9), some (.int l10), some (.int (s0 + s1)), some (.int (l12 + (1 : Int32)))]) dX8_look_231 (Nat.le_of_ble_eq_true rfl) rfl (congrArg (fun z => l12 + z) (by decide)) rfl ?_
  refine wp_goto (tgt := 167) dX8_look_234 (by decide) ?_
  exact WP.wk (hk4 _ _ _ _ _ _ _ _ _ _ _ _ _ h0) (And.intro rfl (And.intro rfl (And.intro rfl (And.intro rfl (And.intro rfl (And.intro rfl (And.intro rfl (And.intro rfl (And.intro rfl (And.intro rfl (And.intro rfl trivial)))))))))))
def bX8_look_227 (k : KTX8_look) (w : XW) (l0 : Nat) (l2 : Int32) (l3 : Int32) (l5 : Int32) (l6 : Int32) (l7 : Int32) (l8 : Int32) (l9 : Int32) (l10 : Int32) (l12 : Int32) (s0 : Int32) : Option (Int32 × XW) :=
  bX8_look_228 k w l0 l2 l3 l5 l6 l7 l8 l9 l10 l12 s0 (0 : Int32)
theorem BX8_look_227 {K : CX} {l : Launch} {n0 k0 : Nat} {k : KTX8_look} (hk0 : ∀ (w : XW) (l0 : Nat) (l1 : Int32) (l2 : Int32) (l3 : Int32) (l4 : Int32) (l5 : Int32) (l6 : Int32) (q : Int32 × XW), k.1 w l0 l1 l2 l3 l4 l5 l6 = some q → WP K l mX8_look 8 188 n0 k0 (some (.int q.1)) q.2 40 [some (.ref l0), some (.int l1), some (.int l2), some (.int l3), some (.int l4), some (.int l5), some (.int l6), none, none, none, none, none, none] [] w) (hk1 : ∀ (w : XW) (l0 : Nat) (l1 : Int32) (l2 : Int32) (l3 : Int32) (l4 : Int32) (l5 : Int32) (l6 : Int32) (l7 : Int32) (q : Int32 × XW), k.2.1 w l0 l1 l2 l3 l4 l5 l6 l7 = some q → WP K l mX8_look 8 188 n0 k0 (some (.int q.1)) q.2 77 [some (.ref l0), some (.int l1), some (.int l2), some (.int l3), some (.int l4), some (.int l5), some (.int l6), some (.int l7), none, none, none, none, none] [] w) (hk2 : ∀ (w : XW) (l0 : Nat) (l2 : Int32) (l3 : Int32) (l5 : Int32) (l6 : Int32) (l7 : Int32) (l8 : Int32) (q : Int32 × XW), k.2.2.1 w l0 l2 l3 l5 l6 l7 l8 = some q → WP K l mX8_look 8 188 n0 k0 (some (.int q.1)) q.2 135 [some (.ref l0), none, some (.int l2), some (.int l3), none, some (.int l5), some (.int l6), some (.int l7), some (.int l8), none, none, none, none] [] w) (hk3 : ∀ (w : XW) (l0 : Nat) (l2 : Int32) (l3 : Int32) (l5 : Int32) (l6 : Int32) (l7 : Int32) (l8 : Int32) (l9 : Int32) (l10 : Int32) (q : Int32 × XW), k.2.2.2.1 w l0 l2 l3 l5 l6 l7 l8 l9 l10 = some q → WP K l mX8_look 8 188 n0 k0 (some (.int q.1)) q.2 154 [some (.ref l0), none, some (.int l2), some (.int l3), none, some (.int l5), some (.int l6), some (.int l7), some (.int l8), some (.int l9), some (.int l10), none, none] [] w) (hk4 : ∀ (w : XW) (l0 : Nat) (l2 : Int32) (l3 : Int32) (l5 : Int32) (l6 : Int32) (l7 : Int32) (l8 : Int32) (l9 : Int32) (l10 : Int32) (l11 : Int32) (l12 : Int32) (q : Int32 × XW), k.2.2.2.2 w l0 l2 l3 l5 l6 l7 l8 l9 l10 l11 l12 = some q → WP K l mX8_look 8 188 n0 k0 (some (.int q.1)) q.2 167 [some (.ref l0), none, some (.int l2), some (.int l3), none, some (.int l5), some (.int l6), some (.int l7), some (.int l8), some (.int l9), some (.int l10), some (.int l11), some (.int l12)] [] w) {w : XW} {l0 : Nat} {l2 : Int32} {l3 : Int32} {l5 : Int32} {l6 : Int32} {l7 : Int32} {l8 : Int32} {l9 : Int32} {l10 : Int32} {l12 : Int32} {s0 : Int32} {q : Int32 × XW} (h0 : bX8_look_227 k w l0 l2 l3 l5 l6 l7 l8 l9 l10 l12 s0 = some q) : WP K l mX8_look 8 188 n0 k0 (some (.int q.1)) q.2 227 [some (.ref l0), none, some (.int l2), some (.int l3), none, some (.int l5), some (.int l6), some (.int l7), some (.int l8), some (.int l9), some (.int l10), none, some (.int l12)] [.int s0] w := by
  unfold bX8_look_227 at h0
  refine wp_iconst (v := (0 : Int32)) dX8_look_227 (by decide) ?_
  exact WP.wk (BX8_look_228 hk0 hk1 hk2 hk3 hk4 h0) (And.intro rfl (And.intro rfl (And.intro rfl (And.intro rfl (And.intro rfl (And.intro rfl (And.intro rfl (And.intro rfl (And.intro rfl (And.intro rfl trivial))))))))))
def bX8_look_18 (k : KTX8_look) (w : XW) : Option (Int32 × XW) :=
  some ((-1 : Int32), w)
theorem BX8_look_18 {K : CX} {l : Launch} {n0 k0 : Nat} {k : KTX8_look} (hk0 : ∀ (w : XW) (l0 : Nat) (l1 : Int32) (l2 : Int32) (l3 : Int32) (l4 : Int32) (l5 : Int32) (l6 : Int32) (q : Int32 × XW), k.1 w l0 l1 l2 l3 l4 l5 l6 = some q → WP K l mX8_look 8 188 n0 k0 (some (.int q.1)) q.2 40 [some (.ref l0), some (.int l1), some (.int l2), some (.int l3), some (.int l4), some (.int l5), some (.int l6), none, none, none, none, none, none] [] w) (hk1 : ∀ (w : XW) (l0 : Nat) (l1 : Int32) (l2 : Int32) (l3 : Int32) (l4 : Int32) (l5 : Int32) (l6 : Int32) (l7 : Int32) (q : Int32 × XW), k.2.1 w l0 l1 l2 l3 l4 l5 l6 l7 = some q → WP K l mX8_look 8 188 n0 k0 (some (.int q.1)) q.2 77 [some (.ref l0), some (.int l1), some (.int l2), some (.int l3), some (.int l4), some (.int l5), some (.int l6), some (.int l7), none, none, none, none, none] [] w) (hk2 : ∀ (w : XW) (l0 : Nat) (l2 : Int32) (l3 : Int32) (l5 : Int32) (l6 : Int32) (l7 : Int32) (l8 : Int32) (q : Int32 × XW), k.2.2.1 w l0 l2 l3 l5 l6 l7 l8 = some q → WP K l mX8_look 8 188 n0 k0 (some (.int q.1)) q.2 135 [some (.ref l0), none, some (.int l2), some (.int l3), none, some (.int l5), some (.int l6), some (.int l7), some (.int l8), none, none, none, none] [] w) (hk3 : ∀ (w : XW) (l0 : Nat) (l2 : Int32) (l3 : Int32) (l5 : Int32) (l6 : Int32) (l7 : Int32) (l8 : Int32) (l9 : Int32) (l10 : Int32) (q : Int32 × XW), k.2.2.2.1 w l0 l2 l3 l5 l6 l7 l8 l9 l10 = some q → WP K l mX8_look 8 188 n0 k0 (some (.int q.1)) q.2 154 [some (.ref l0), none, some (.int l2), some (.int l3), none, some (.int l5), some (.int l6), some (.int l7), some (.int l8), some (.int l9), some (.int l10), none, none] [] w) (hk4 : ∀ (w : XW) (l0 : Nat) (l2 : Int32) (l3 : Int32) (l5 : Int32) (l6 : Int32) (l7 : Int32) (l8 : Int32) (l9 : Int32) (l10 : Int32) (l11 : Int32) (l12 : Int32) (q : Int32 × XW), k.2.2.2.2 w l0 l2 l3 l5 l6 l7 l8 l9 l10 l11 l12 = some q → WP K l mX8_look 8 188 n0 k0 (some (.int q.1)) q.2 167 [some (.ref l0), none, some (.int l2), some (.int l3), none, some (.int l5), some (.int l6), some (.int l7), some (.int l8), some (.int l9), some (.int l10), some (.int l11), some (.int l12)] [] w) {w : XW} {q : Int32 × XW} (h0 : bX8_look_18 k w = some q) : WP K l mX8_look 8 188 n0 k0 (some (.int q.1)) q.2 18 [none, none, none, none, none, none, none, none, none, none, none, none, none] [] w := by
  unfold bX8_look_18 at h0
  refine wp_iconst (v := (-1 : Int32)) dX8_look_18 (by decide) ?_
  cases h0
  exact wp_iret rfl dX8_look_19
def hX8_look_167 (k : KTX8_look) (w : XW) (l0 : Nat) (l2 : Int32) (l3 : Int32) (l5 : Int32) (l6 : Int32) (l7 : Int32) (l8 : Int32) (l9 : Int32) (l10 : Int32) (l11 : Int32) (l12 : Int32) : Option (Int32 × XW) :=
  if (6 : Int32) ≤ l12 then
  (fX8_larger w l9 l11).bind fun q2 =>
  k.2.2.2.1 q2.2 l0 l2 l3 l5 l6 l7 l8 q2.1 (l10 + (1 : Int32))
  else
  (fX8_has w l3 l10).bind fun q5 =>
  if q5.1 = 0 then
  bX8_look_227 k q5.2 l0 l2 l3 l5 l6 l7 l8 l9 l10 l12 l11
  else
  (fX8_has q5.2 l3 l12).bind fun q9 =>
  if q9.1 = 0 then
  bX8_look_227 k q9.2 l0 l2 l3 l5 l6 l7 l8 l9 l10 l12 l11
  else
  (gR q9.2 l0 8 22).bind fun x13 =>
  (aI q9.2 0 x13 (((20 : Int32) * l10) + l8)).bind fun x16 =>
  (gR q9.2 l0 8 22).bind fun x19 =>
  (aI q9.2 0 x19 (((20 : Int32) * l12) + l8)).bind fun x22 =>
  if x16 = x22 then
  bX8_look_228 k q9.2 l0 l2 l3 l5 l6 l7 l8 l9 l10 l12 l11 (1 : Int32)
  else
  bX8_look_227 k q9.2 l0 l2 l3 l5 l6 l7 l8 l9 l10 l12 l11
theorem HX8_look_167 {K : CX} {l : Launch} {n0 k0 : Nat} {k : KTX8_look} (hk0 : ∀ (w : XW) (l0 : Nat) (l1 : Int32) (l2 : Int32) (l3 : Int32) (l4 : Int32) (l5 : Int32) (l6 : Int32) (q : Int32 × XW), k.1 w l0 l1 l2 l3 l4 l5 l6 = some q → WP K l mX8_look 8 188 n0 k0 (some (.int q.1)) q.2 40 [some (.ref l0), some (.int l1), some (.int l2), some (.int l3), some (.int l4), some (.int l5), some (.int l6), none, none, none, none, none, none] [] w) (hk1 : ∀ (w : XW) (l0 : Nat) (l1 : Int32) (l2 : Int32) (l3 : Int32) (l4 : Int32) (l5 : Int32) (l6 : Int32) (l7 : Int32) (q : Int32 × XW), k.2.1 w l0 l1 l2 l3 l4 l5 l6 l7 = some q → WP K l mX8_look 8 188 n0 k0 (some (.int q.1)) q.2 77 [some (.ref l0), some (.int l1), some (.int l2), some (.int l3), some (.int l4), some (.int l5), some (.int l6), some (.int l7), none, none, none, none, none] [] w) (hk2 : ∀ (w : XW) (l0 : Nat) (l2 : Int32) (l3 : Int32) (l5 : Int32) (l6 : Int32) (l7 : Int32) (l8 : Int32) (q : Int32 × XW), k.2.2.1 w l0 l2 l3 l5 l6 l7 l8 = some q → WP K l mX8_look 8 188 n0 k0 (some (.int q.1)) q.2 135 [some (.ref l0), none, some (.int l2), some (.int l3), none, some (.int l5), some (.int l6), some (.int l7), some (.int l8), none, none, none, none] [] w) (hk3 : ∀ (w : XW) (l0 : Nat) (l2 : Int32) (l3 : Int32) (l5 : Int32) (l6 : Int32) (l7 : Int32) (l8 : Int32) (l9 : Int32) (l10 : Int32) (q : Int32 × XW), k.2.2.2.1 w l0 l2 l3 l5 l6 l7 l8 l9 l10 = some q → WP K l mX8_look 8 188 n0 k0 (some (.int q.1)) q.2 154 [some (.ref l0), none, some (.int l2), some (.int l3), none, some (.int l5), some (.int l6), some (.int l7), some (.int l8), some (.int l9), some (.int l10), none, none] [] w) (hk4 : ∀ (w : XW) (l0 : Nat) (l2 : Int32) (l3 : Int32) (l5 : Int32) (l6 : Int32) (l7 : Int32) (l8 : Int32) (l9 : Int32) (l10 : Int32) (l11 : Int32) (l12 : Int32) (q : Int32 × XW), k.2.2.2.2 w l0 l2 l3 l5 l6 l7 l8 l9 l10 l11 l12 = some q → WP K l mX8_look 8 188 n0 k0 (some (.int q.1)) q.2 167 [some (.ref l0), none, some (.int l2), some (.int l3), none, some (.int l5), some (.int l6), some (.int l7), some (.int l8), some (.int l9), some (.int l10), some (.int l11), some (.int l12)] [] w) {w : XW} {l0 : Nat} {l2 : Int32} {l3 : Int32} {l5 : Int32} {l6 : Int32} {l7 : Int32} {l8 : Int32} {l9 : Int32} {l10 : Int32} {l11 : Int32} {l12 : Int32} {q : Int32 × XW} (h0 : hX8_look_167 k w l0 l2 l3 l5 l6 l7 l8 l9 l10 l11 l12 = some q) : WP K l mX8_look 8 188 n0 k0 (some (.int q.1)) q.2 167 [some (.ref l0), none, some (.int l2), some (.int l3), none, some (.int l5), some (.int l6), some (.int l7), some (.int l8), some (.int l9), some (.int l10), some (.int l11), some (.int l12)] [] w := by
  unfold hX8_look_167 at h0
  refine wp_iload dX8_look_167 rfl ?_
  refine wp_bipush (v := (6 : Int32)) dX8_look_169 (by decide) ?_
  refine wp_icmp_ge (tgt := 237) dX8_look_171 (by decide) (fun c1 => ?_) (fun c1 => ?_)
  · rw [if_pos c1] at h0
    refine wp_iload dX8_look_237 rfl ?_
    refine wp_iload dX8_look_239 rfl ?_
    obtain ⟨q2, e4, h3⟩ := Option.bind_eq_some_iff.mp h0
    clear h0
    refine wp_Si (As := [.int l9, .int l11]) (S := []) okM_X8_larger tw948 tw947 rfl ⟨(Nat.le_of_ble_eq_true rfl), (Nat.le_of_ble_eq_true rfl)⟩ (Nat.le_of_ble_eq_true rfl) rfl dX8_look_241 (MX8_larger e4) ?_
    refine wp_istore (L1 := [some (.ref l0), none, some (.int l2), some (.int l3), none, some (.int l5), some (.int l6), some (.int l7), some (.int l8), some (.int q2.1), some (.int l10), some (.int l11), some (.int l12)]) dX8_look_244 (Nat.le_of_ble_eq_true rfl) rfl ?_
    refine wp_iinc (v := (l10 + (1 : Int32))) (L1 := [some (.ref l0), none, some (.int l2), some (.int l3), none, some (.int l5), some (.int l6), some (.int l7), some (.int l8), some (.int q2.1), some (.int (l10 + (1 : Int32))), some (.int l11), some (.int l12)]) dX8_look_246 (Nat.le_of_ble_eq_true rfl) rfl (congrArg (fun z => l10 + z) (by decide)) rfl ?_
    refine wp_goto (tgt := 154) dX8_look_249 (by decide) ?_
    exact WP.wk (hk3 _ _ _ _ _ _ _ _ _ _ _ h3) (And.intro rfl (And.intro rfl (And.intro rfl (And.intro rfl (And.intro rfl (And.intro rfl (And.intro rfl (And.intro rfl (And.intro rfl trivial)))))))))
  · rw [if_neg c1] at h0
    refine wp_iload dX8_look_174 rfl ?_
    refine wp_iload_n dX8_look_176 rfl ?_
    refine wp_iload dX8_look_177 rfl ?_
    obtain ⟨q5, e7, h6⟩ := Option.bind_eq_some_iff.mp h0
    clear h0
    refine wp_Si (As := [.int l3, .int l10]) (S := [.int l11]) okM_X8_has tw851 tw850 rfl ⟨(Nat.le_of_ble_eq_true rfl), (Nat.le_of_ble_eq_true rfl)⟩ (Nat.le_of_ble_eq_true rfl) rfl dX8_look_179 (MX8_has e7) ?_
    refine wp_if_eq (tgt := 227) dX8_look_182 (by decide) (fun c8 => ?_) (fun c8 => ?_)
    · rw [if_pos c8] at h6
      exact WP.wk (BX8_look_227 hk0 hk1 hk2 hk3 hk4 h6) (And.intro rfl (And.intro rfl (And.intro rfl (And.intro rfl (And.intro rfl (And.intro rfl (And.intro rfl (And.intro rfl (And.intro rfl (And.intro rfl trivial))))))))))
    · rw [if_neg c8] at h6
      refine wp_iload_n dX8_look_185 rfl ?_
      refine wp_iload dX8_look_186 rfl ?_
      obtain ⟨q9, e11, h10⟩ := Option.bind_eq_some_iff.mp h6
      clear h6
      refine wp_Si (As := [.int l3, .int l12]) (S := [.int l11]) okM_X8_has tw851 tw850 rfl ⟨(Nat.le_of_ble_eq_true rfl), (Nat.le_of_ble_eq_true rfl)⟩ (Nat.le_of_ble_eq_true rfl) rfl dX8_look_188 (MX8_has e11) ?_
      refine wp_if_eq (tgt := 227) dX8_look_191 (by decide) (fun c12 => ?_) (fun c12 => ?_)
      · rw [if_pos c12] at h10
        exact WP.wk (BX8_look_227 hk0 hk1 hk2 hk3 hk4 h10) (And.intro rfl (And.intro rfl (And.intro rfl (And.intro rfl (And.intro rfl (And.intro rfl (And.intro rfl (And.intro rfl (And.intro rfl (And.intro rfl trivial))))))))))
      · rw [if_neg c12] at h10
        refine wp_aload_n dX8_look_194 rfl ?_
        obtain ⟨x13, e15, h14⟩ := Option.bind_eq_some_iff.mp h10
        clear h10
        refine wp_getR okX8 (k := 22) (by decide) tw727 dX8_look_195 e15 ?_
        refine wp_bipush (v := (20 : Int32)) dX8_look_198 (by decide) ?_
        refine wp_iload dX8_look_200 rfl ?_
        refine wp_imul dX8_look_202 ?_
        refine wp_iload dX8_look_203 rfl ?_
        refine wp_iadd dX8_look_205 ?_
        obtain ⟨x16, e18, h17⟩ := Option.bind_eq_some_iff.mp h14
        clear h14
        refine wp_iald dX8_look_206 e18 ?_
        refine wp_aload_n dX8_look_207 rfl ?_
        obtain ⟨x19, e21, h20⟩ := Option.bind_eq_some_iff.mp h17
        clear h17
        refine wp_getR okX8 (k := 22) (by decide) tw727 dX8_look_208 e21 ?_
        refine wp_bipush (v := (20 : Int32)) dX8_look_211 (by decide) ?_
        refine wp_iload dX8_look_213 rfl ?_
        refine wp_imul dX8_look_215 ?_
        refine wp_iload dX8_look_216 rfl ?_
        refine wp_iadd dX8_look_218 ?_
        obtain ⟨x22, e24, h23⟩ := Option.bind_eq_some_iff.mp h20
        clear h20
        refine wp_iald dX8_look_219 e24 ?_
        refine wp_icmp_ne (tgt := 227) dX8_look_220 (by decide) (fun c25 => ?_) (fun c25 => ?_)
        · rw [if_neg c25] at h23
          exact WP.wk (BX8_look_227 hk0 hk1 hk2 hk3 hk4 h23) (And.intro rfl (And.intro rfl (And.intro rfl (And.intro rfl (And.intro rfl (And.intro rfl (And.intro rfl (And.intro rfl (And.intro rfl (And.intro rfl trivial))))))))))
        · rw [if_pos c25] at h23
          refine wp_iconst (v := (1 : Int32)) dX8_look_223 (by decide) ?_
          refine wp_goto (tgt := 228) dX8_look_224 (by decide) ?_
          exact WP.wk (BX8_look_228 hk0 hk1 hk2 hk3 hk4 h23) (And.intro rfl (And.intro rfl (And.intro rfl (And.intro rfl (And.intro rfl (And.intro rfl (And.intro rfl (And.intro rfl (And.intro rfl (And.intro rfl trivial))))))))))
def hX8_look_154 (k : KTX8_look) (w : XW) (l0 : Nat) (l2 : Int32) (l3 : Int32) (l5 : Int32) (l6 : Int32) (l7 : Int32) (l8 : Int32) (l9 : Int32) (l10 : Int32) : Option (Int32 × XW) :=
  if (6 : Int32) ≤ l10 then
  if l7 ≤ l9 then
  bX8_look_268 k w l0 l2 l3 l5 l7 l8 l9 l6
  else
  bX8_look_268 k w l0 l2 l3 l5 l7 l8 l9 (l8 + (1 : Int32))
  else
  k.2.2.2.2 w l0 l2 l3 l5 l6 l7 l8 l9 l10 (0 : Int32) (0 : Int32)
theorem HX8_look_154 {K : CX} {l : Launch} {n0 k0 : Nat} {k : KTX8_look} (hk0 : ∀ (w : XW) (l0 : Nat) (l1 : Int32) (l2 : Int32) (l3 : Int32) (l4 : Int32) (l5 : Int32) (l6 : Int32) (q : Int32 × XW), k.1 w l0 l1 l2 l3 l4 l5 l6 = some q → WP K l mX8_look 8 188 n0 k0 (some (.int q.1)) q.2 40 [some (.ref l0), some (.int l1), some (.int l2), some (.int l3), some (.int l4), some (.int l5), some (.int l6), none, none, none, none, none, none] [] w) (hk1 : ∀ (w : XW) (l0 : Nat) (l1 : Int32) (l2 : Int32) (l3 : Int32) (l4 : Int32) (l5 : Int32) (l6 : Int32) (l7 : Int32) (q : Int32 × XW), k.2.1 w l0 l1 l2 l3 l4 l5 l6 l7 = some q → WP K l mX8_look 8 188 n0 k0 (some (.int q.1)) q.2 77 [some (.ref l0), some (.int l1), some (.int l2), some (.int l3), some (.int l4), some (.int l5), some (.int l6), some (.int l7), none, none, none, none, none] [] w) (hk2 : ∀ (w : XW) (l0 : Nat) (l2 : Int32) (l3 : Int32) (l5 : Int32) (l6 : Int32) (l7 : Int32) (l8 : Int32) (q : Int32 × XW), k.2.2.1 w l0 l2 l3 l5 l6 l7 l8 = some q → WP K l mX8_look 8 188 n0 k0 (some (.int q.1)) q.2 135 [some (.ref l0), none, some (.int l2), some (.int l3), none, some (.int l5), some (.int l6), some (.int l7), some (.int l8), none, none, none, none] [] w) (hk3 : ∀ (w : XW) (l0 : Nat) (l2 : Int32) (l3 : Int32) (l5 : Int32) (l6 : Int32) (l7 : Int32) (l8 : Int32) (l9 : Int32) (l10 : Int32) (q : Int32 × XW), k.2.2.2.1 w l0 l2 l3 l5 l6 l7 l8 l9 l10 = some q → WP K l mX8_look 8 188 n0 k0 (some (.int q.1)) q.2 154 [some (.ref l0), none, some (.int l2), some (.int l3), none, some (.int l5), some (.int l6), some (.int l7), some (.int l8), some (.int l9), some (.int l10), none, none] [] w) (hk4 : ∀ (w : XW) (l0 : Nat) (l2 : Int32) (l3 : Int32) (l5 : Int32) (l6 : Int32) (l7 : Int32) (l8 : Int32) (l9 : Int32) (l10 : Int32) (l11 : Int32) (l12 : Int32) (q : Int32 × XW), k.2.2.2.2 w l0 l2 l3 l5 l6 l7 l8 l9 l10 l11 l12 = some q → WP K l mX8_look 8 188 n0 k0 (some (.int q.1)) q.2 167 [some (.ref l0), none, some (.int l2), some (.int l3), none, some (.int l5), some (.int l6), some (.int l7), some (.int l8), some (.int l9), some (.int l10), some (.int l11), some (.int l12)] [] w) {w : XW} {l0 : Nat} {l2 : Int32} {l3 : Int32} {l5 : Int32} {l6 : Int32} {l7 : Int32} {l8 : Int32} {l9 : Int32} {l10 : Int32} {q : Int32 × XW} (h0 : hX8_look_154 k w l0 l2 l3 l5 l6 l7 l8 l9 l10 = some q) : WP K l mX8_look 8 188 n0 k0 (some (.int q.1)) q.2 154 [some (.ref l0), none, some (.int l2), some (.int l3), none, some (.int l5), some (.int l6), some (.int l7), some (.int l8), some (.int l9), some (.int l10), none, none] [] w := by
  unfold hX8_look_154 at h0
  refine wp_iload dX8_look_154 rfl ?_
  refine wp_bipush (v := (6 : Int32)) dX8_look_156 (by decide) ?_
  refine wp_icmp_ge (tgt := 252) dX8_look_158 (by decide) (fun c1 => ?_) (fun c1 => ?_)
  · rw [if_pos c1] at h0
    refine wp_iload dX8_look_252 rfl ?_
    refine wp_iload dX8_look_254 rfl ?_
    refine wp_icmp_ge (tgt := 266) dX8_look_256 (by decide) (fun c2 => ?_) (fun c2 => ?_)
    · rw [if_pos c2] at h0
      refine wp_iload dX8_look_266 rfl ?_
      exact WP.wk (BX8_look_268 hk0 hk1 hk2 hk3 hk4 h0) (And.intro rfl (And.intro rfl (And.intro rfl (And.intro rfl (And.intro rfl (And.intro rfl (And.intro rfl trivial)))))))
    · rw [if_neg c2] at h0
      refine wp_iload dX8_look_259 rfl ?_
      refine wp_iconst (v := (1 : Int32)) dX8_look_261 (by decide) ?_
      refine wp_iadd dX8_look_262 ?_
      refine wp_goto (tgt := 268) dX8_look_263 (by decide) ?_
      exact WP.wk (BX8_look_268 hk0 hk1 hk2 hk3 hk4 h0) (And.intro rfl (And.intro rfl (And.intro rfl (And.intro rfl (And.intro rfl (And.intro rfl (And.intro rfl trivial)))))))
  · rw [if_neg c1] at h0
    refine wp_iconst (v := (0 : Int32)) dX8_look_161 (by decide) ?_
    refine wp_istore (L1 := [some (.ref l0), none, some (.int l2), some (.int l3), none, some (.int l5), some (.int l6), some (.int l7), some (.int l8), some (.int l9), some (.int l10), some (.int (0 : Int32)), none]) dX8_look_162 (Nat.le_of_ble_eq_true rfl) rfl ?_
    refine wp_iconst (v := (0 : Int32)) dX8_look_164 (by decide) ?_
    refine wp_istore (L1 := [some (.ref l0), none, some (.int l2), some (.int l3), none, some (.int l5), some (.int l6), some (.int l7), some (.int l8), some (.int l9), some (.int l10), some (.int (0 : Int32)), some (.int (0 : Int32))]) dX8_look_165 (Nat.le_of_ble_eq_true rfl) rfl ?_
    exact WP.wk (hk4 _ _ _ _ _ _ _ _ _ _ _ _ _ h0) (And.intro rfl (And.intro rfl (And.intro rfl (And.intro rfl (And.intro rfl (And.intro rfl (And.intro rfl (And.intro rfl (And.intro rfl (And.intro rfl (And.intro rfl trivial)))))))))))
def hX8_look_135 (k : KTX8_look) (w : XW) (l0 : Nat) (l2 : Int32) (l3 : Int32) (l5 : Int32) (l6 : Int32) (l7 : Int32) (l8 : Int32) : Option (Int32 × XW) :=
  if (20 : Int32) ≤ l8 then
  bX8_look_292 k w l2 l6 l7
  else
  if l5 ≤ (1 : Int32) then
  bX8_look_292 k w l2 l6 l7
  else
  k.2.2.2.1 w l0 l2 l3 l5 l6 l7 l8 (0 : Int32) (0 : Int32)
theorem HX8_look_135 {K : CX} {l : Launch} {n0 k0 : Nat} {k : KTX8_look} (hk0 : ∀ (w : XW) (l0 : Nat) (l1 : Int32) (l2 : Int32) (l3 : Int32) (l4 : Int32) (l5 : Int32) (l6 : Int32) (q : Int32 × XW), k.1 w l0 l1 l2 l3 l4 l5 l6 = some q → WP K l mX8_look 8 188 n0 k0 (some (.int q.1)) q.2 40 [some (.ref l0), some (.int l1), some (.int l2), some (.int l3), some (.int l4), some (.int l5), some (.int l6), none, none, none, none, none, none] [] w) (hk1 : ∀ (w : XW) (l0 : Nat) (l1 : Int32) (l2 : Int32) (l3 : Int32) (l4 : Int32) (l5 : Int32) (l6 : Int32) (l7 : Int32) (q : Int32 × XW), k.2.1 w l0 l1 l2 l3 l4 l5 l6 l7 = some q → WP K l mX8_look 8 188 n0 k0 (some (.int q.1)) q.2 77 [some (.ref l0), some (.int l1), some (.int l2), some (.int l3), some (.int l4), some (.int l5), some (.int l6), some (.int l7), none, none, none, none, none] [] w) (hk2 : ∀ (w : XW) (l0 : Nat) (l2 : Int32) (l3 : Int32) (l5 : Int32) (l6 : Int32) (l7 : Int32) (l8 : Int32) (q : Int32 × XW), k.2.2.1 w l0 l2 l3 l5 l6 l7 l8 = some q → WP K l mX8_look 8 188 n0 k0 (some (.int q.1)) q.2 135 [some (.ref l0), none, some (.int l2), some (.int l3), none, some (.int l5), some (.int l6), some (.int l7), some (.int l8), none, none, none, none] [] w) (hk3 : ∀ (w : XW) (l0 : Nat) (l2 : Int32) (l3 : Int32) (l5 : Int32) (l6 : Int32) (l7 : Int32) (l8 : Int32) (l9 : Int32) (l10 : Int32) (q : Int32 × XW), k.2.2.2.1 w l0 l2 l3 l5 l6 l7 l8 l9 l10 = some q → WP K l mX8_look 8 188 n0 k0 (some (.int q.1)) q.2 154 [some (.ref l0), none, some (.int l2), some (.int l3), none, some (.int l5), some (.int l6), some (.int l7), some (.int l8), some (.int l9), some (.int l10), none, none] [] w) (hk4 : ∀ (w : XW) (l0 : Nat) (l2 : Int32) (l3 : Int32) (l5 : Int32) (l6 : Int32) (l7 : Int32) (l8 : Int32) (l9 : Int32) (l10 : Int32) (l11 : Int32) (l12 : Int32) (q : Int32 × XW), k.2.2.2.2 w l0 l2 l3 l5 l6 l7 l8 l9 l10 l11 l12 = some q → WP K l mX8_look 8 188 n0 k0 (some (.int q.1)) q.2 167 [some (.ref l0), none, some (.int l2), some (.int l3), none, some (.int l5), some (.int l6), some (.int l7), some (.int l8), some (.int l9), some (.int l10), some (.int l11), some (.int l12)] [] w) {w : XW} {l0 : Nat} {l2 : Int32} {l3 : Int32} {l5 : Int32} {l6 : Int32} {l7 : Int32} {l8 : Int32} {q : Int32 × XW} (h0 : hX8_look_135 k w l0 l2 l3 l5 l6 l7 l8 = some q) : WP K l mX8_look 8 188 n0 k0 (some (.int q.1)) q.2 135 [some (.ref l0), none, some (.int l2), some (.int l3), none, some (.int l5), some (.int l6), some (.int l7), some (.int l8), none, none, none, none] [] w := by
  unfold hX8_look_135 at h0
  refine wp_iload dX8_look_135 rfl ?_
  refine wp_bipush (v := (20 : Int32)) dX8_look_137 (by decide) ?_
  refine wp_icmp_ge (tgt := 292) dX8_look_139 (by decide) (fun c1 => ?_) (fun c1 => ?_)
  · rw [if_pos c1] at h0
    exact WP.wk (BX8_look_292 hk0 hk1 hk2 hk3 hk4 h0) (And.intro rfl (And.intro rfl (And.intro rfl trivial)))
  · rw [if_neg c1] at h0
    refine wp_iload dX8_look_142 rfl ?_
    refine wp_iconst (v := (1 : Int32)) dX8_look_144 (by decide) ?_
    refine wp_icmp_le (tgt := 292) dX8_look_145 (by decide) (fun c2 => ?_) (fun c2 => ?_)
    · rw [if_pos c2] at h0
      exact WP.wk (BX8_look_292 hk0 hk1 hk2 hk3 hk4 h0) (And.intro rfl (And.intro rfl (And.intro rfl trivial)))
    · rw [if_neg c2] at h0
      refine wp_iconst (v := (0 : Int32)) dX8_look_148 (by decide) ?_
      refine wp_istore (L1 := [some (.ref l0), none, some (.int l2), some (.int l3), none, some (.int l5), some (.int l6), some (.int l7), some (.int l8), some (.int (0 : Int32)), none, none, none]) dX8_look_149 (Nat.le_of_ble_eq_true rfl) rfl ?_
      refine wp_iconst (v := (0 : Int32)) dX8_look_151 (by decide) ?_
      refine wp_istore (L1 := [some (.ref l0), none, some (.int l2), some (.int l3), none, some (.int l5), some (.int l6), some (.int l7), some (.int l8), some (.int (0 : Int32)), some (.int (0 : Int32)), none, none]) dX8_look_152 (Nat.le_of_ble_eq_true rfl) rfl ?_
      exact WP.wk (hk3 _ _ _ _ _ _ _ _ _ _ _ h0) (And.intro rfl (And.intro rfl (And.intro rfl (And.intro rfl (And.intro rfl (And.intro rfl (And.intro rfl (And.intro rfl (And.intro rfl trivial)))))))))
def hX8_look_77 (k : KTX8_look) (w : XW) (l0 : Nat) (l1 : Int32) (l2 : Int32) (l3 : Int32) (l4 : Int32) (l5 : Int32) (l6 : Int32) (l7 : Int32) : Option (Int32 × XW) :=
  if (20 : Int32) ≤ l7 then
  k.1 w l0 l1 l2 l3 l4 l5 (l6 + (1 : Int32))
  else
  (gR w l0 8 22).bind fun x2 =>
  (fX8_step w l0 (198 : Int32)).bind fun q5 =>
  (sI q5.2 0 x2 (((20 : Int32) * l6) + l7) q5.1).bind fun w8 =>
  k.2.1 w8 l0 l1 l2 l3 l4 l5 l6 (l7 + (1 : Int32))
theorem HX8_look_77 {K : CX} {l : Launch} {n0 k0 : Nat} {k : KTX8_look} (hk0 : ∀ (w : XW) (l0 : Nat) (l1 : Int32) (l2 : Int32) (l3 : Int32) (l4 : Int32) (l5 : Int32) (l6 : Int32) (q : Int32 × XW), k.1 w l0 l1 l2 l3 l4 l5 l6 = some q → WP K l mX8_look 8 188 n0 k0 (some (.int q.1)) q.2 40 [some (.ref l0), some (.int l1), some (.int l2), some (.int l3), some (.int l4), some (.int l5), some (.int l6), none, none, none, none, none, none] [] w) (hk1 : ∀ (w : XW) (l0 : Nat) (l1 : Int32) (l2 : Int32) (l3 : Int32) (l4 : Int32) (l5 : Int32) (l6 : Int32) (l7 : Int32) (q : Int32 × XW), k.2.1 w l0 l1 l2 l3 l4 l5 l6 l7 = some q → WP K l mX8_look 8 188 n0 k0 (some (.int q.1)) q.2 77 [some (.ref l0), some (.int l1), some (.int l2), some (.int l3), some (.int l4), some (.int l5), some (.int l6), some (.int l7), none, none, none, none, none] [] w) (hk2 : ∀ (w : XW) (l0 : Nat) (l2 : Int32) (l3 : Int32) (l5 : Int32) (l6 : Int32) (l7 : Int32) (l8 : Int32) (q : Int32 × XW), k.2.2.1 w l0 l2 l3 l5 l6 l7 l8 = some q → WP K l mX8_look 8 188 n0 k0 (some (.int q.1)) q.2 135 [some (.ref l0), none, some (.int l2), some (.int l3), none, some (.int l5), some (.int l6), some (.int l7), some (.int l8), none, none, none, none] [] w) (hk3 : ∀ (w : XW) (l0 : Nat) (l2 : Int32) (l3 : Int32) (l5 : Int32) (l6 : Int32) (l7 : Int32) (l8 : Int32) (l9 : Int32) (l10 : Int32) (q : Int32 × XW), k.2.2.2.1 w l0 l2 l3 l5 l6 l7 l8 l9 l10 = some q → WP K l mX8_look 8 188 n0 k0 (some (.int q.1)) q.2 154 [some (.ref l0), none, some (.int l2), some (.int l3), none, some (.int l5), some (.int l6), some (.int l7), some (.int l8), some (.int l9), some (.int l10), none, none] [] w) (hk4 : ∀ (w : XW) (l0 : Nat) (l2 : Int32) (l3 : Int32) (l5 : Int32) (l6 : Int32) (l7 : Int32) (l8 : Int32) (l9 : Int32) (l10 : Int32) (l11 : Int32) (l12 : Int32) (q : Int32 × XW), k.2.2.2.2 w l0 l2 l3 l5 l6 l7 l8 l9 l10 l11 l12 = some q → WP K l mX8_look 8 188 n0 k0 (some (.int q.1)) q.2 167 [some (.ref l0), none, some (.int l2), some (.int l3), none, some (.int l5), some (.int l6), some (.int l7), some (.int l8), some (.int l9), some (.int l10), some (.int l11), some (.int l12)] [] w) {w : XW} {l0 : Nat} {l1 : Int32} {l2 : Int32} {l3 : Int32} {l4 : Int32} {l5 : Int32} {l6 : Int32} {l7 : Int32} {q : Int32 × XW} (h0 : hX8_look_77 k w l0 l1 l2 l3 l4 l5 l6 l7 = some q) : WP K l mX8_look 8 188 n0 k0 (some (.int q.1)) q.2 77 [some (.ref l0), some (.int l1), some (.int l2), some (.int l3), some (.int l4), some (.int l5), some (.int l6), some (.int l7), none, none, none, none, none] [] w := by
  unfold hX8_look_77 at h0
  refine wp_iload dX8_look_77 rfl ?_
  refine wp_bipush (v := (20 : Int32)) dX8_look_79 (by decide) ?_
  refine wp_icmp_ge (tgt := 110) dX8_look_81 (by decide) (fun c1 => ?_) (fun c1 => ?_)
  · rw [if_pos c1] at h0
    refine wp_iinc (v := (l6 + (1 : Int32))) (L1 := [some (.ref l0), some (.int l1), some (.int l2), some (.int l3), some (.int l4), some (.int l5), some (.int (l6 + (1 : Int32))), some (.int l7), none, none, none, none, none]) dX8_look_110 (Nat.le_of_ble_eq_true rfl) rfl (congrArg (fun z => l6 + z) (by decide)) rfl ?_
    refine wp_goto (tgt := 40) dX8_look_113 (by decide) ?_
    exact WP.wk (hk0 _ _ _ _ _ _ _ _ _ h0) (And.intro rfl (And.intro rfl (And.intro rfl (And.intro rfl (And.intro rfl (And.intro rfl (And.intro rfl trivial)))))))
  · rw [if_neg c1] at h0
    refine wp_aload_n dX8_look_84 rfl ?_
    obtain ⟨x2, e4, h3⟩ := Option.bind_eq_some_iff.mp h0
    clear h0
    refine wp_getR okX8 (k := 22) (by decide) tw727 dX8_look_85 e4 ?_
    refine wp_bipush (v := (20 : Int32)) dX8_look_88 (by decide) ?_
    refine wp_iload dX8_look_90 rfl ?_
    refine wp_imul dX8_look_92 ?_
    refine wp_iload dX8_look_93 rfl ?_
    refine wp_iadd dX8_look_95 ?_
    refine wp_aload_n dX8_look_96 rfl ?_
    refine wp_sipush (v := (198 : Int32)) dX8_look_97 (by decide) ?_
    obtain ⟨q5, e7, h6⟩ := Option.bind_eq_some_iff.mp h3
    clear h3
    refine wp_Vi (As := [.int (198 : Int32)]) (S := [.int (((20 : Int32) * l6) + l7), .ref x2]) okM_X8_step tw881 twP_X8_step tw879 (OX8_step e7) rfl rfl rfl ⟨(Nat.le_of_ble_eq_true rfl), (Nat.le_of_ble_eq_true rfl)⟩ (Nat.le_of_ble_eq_true rfl) rfl dX8_look_100 (MX8_step e7) ?_
    obtain ⟨w8, e10, h9⟩ := Option.bind_eq_some_iff.mp h6
    clear h6
    refine wp_iast dX8_look_103 e10 ?_
    refine wp_iinc (v := (l7 + (1 : Int32))) (L1 := [some (.ref l0), some (.int l1), some (.int l2), some (.int l3), some (.int l4), some (.int l5), some (.int l6), some (.int (l7 + (1 : Int32))), none, none, none, none, none]) dX8_look_104 (Nat.le_of_ble_eq_true rfl) rfl (congrArg (fun z => l7 + z) (by decide)) rfl ?_
    refine wp_goto (tgt := 77) dX8_look_107 (by decide) ?_
    exact WP.wk (hk1 _ _ _ _ _ _ _ _ _ _ h9) (And.intro rfl (And.intro rfl (And.intro rfl (And.intro rfl (And.intro rfl (And.intro rfl (And.intro rfl (And.intro rfl trivial))))))))
def hX8_look_40 (k : KTX8_look) (w : XW) (l0 : Nat) (l1 : Int32) (l2 : Int32) (l3 : Int32) (l4 : Int32) (l5 : Int32) (l6 : Int32) : Option (Int32 × XW) :=
  if (6 : Int32) ≤ l6 then
  (gR w l0 8 1).bind fun x2 =>
  (sI w 0 x2 l1 l4).bind fun w5 =>
  k.2.2.1 w5 l0 l2 l3 l5 (-4 : Int32) (9 : Int32) (0 : Int32)
  else
  (gR w l0 8 1).bind fun x8 =>
  (sI w 0 x8 l1 l6).bind fun w11 =>
  (fX8_copies w11 l0 (0 : Int32) (198 : Int32)).bind fun q14 =>
  k.2.1 q14 l0 l1 l2 l3 l4 (l5 + ((l3 >>> (l6 &&& 31)) &&& (1 : Int32))) l6 (0 : Int32)
theorem HX8_look_40 {K : CX} {l : Launch} {n0 k0 : Nat} {k : KTX8_look} (hk0 : ∀ (w : XW) (l0 : Nat) (l1 : Int32) (l2 : Int32) (l3 : Int32) (l4 : Int32) (l5 : Int32) (l6 : Int32) (q : Int32 × XW), k.1 w l0 l1 l2 l3 l4 l5 l6 = some q → WP K l mX8_look 8 188 n0 k0 (some (.int q.1)) q.2 40 [some (.ref l0), some (.int l1), some (.int l2), some (.int l3), some (.int l4), some (.int l5), some (.int l6), none, none, none, none, none, none] [] w) (hk1 : ∀ (w : XW) (l0 : Nat) (l1 : Int32) (l2 : Int32) (l3 : Int32) (l4 : Int32) (l5 : Int32) (l6 : Int32) (l7 : Int32) (q : Int32 × XW), k.2.1 w l0 l1 l2 l3 l4 l5 l6 l7 = some q → WP K l mX8_look 8 188 n0 k0 (some (.int q.1)) q.2 77 [some (.ref l0), some (.int l1), some (.int l2), some (.int l3), some (.int l4), some (.int l5), some (.int l6), some (.int l7), none, none, none, none, none] [] w) (hk2 : ∀ (w : XW) (l0 : Nat) (l2 : Int32) (l3 : Int32) (l5 : Int32) (l6 : Int32) (l7 : Int32) (l8 : Int32) (q : Int32 × XW), k.2.2.1 w l0 l2 l3 l5 l6 l7 l8 = some q → WP K l mX8_look 8 188 n0 k0 (some (.int q.1)) q.2 135 [some (.ref l0), none, some (.int l2), some (.int l3), none, some (.int l5), some (.int l6), some (.int l7), some (.int l8), none, none, none, none] [] w) (hk3 : ∀ (w : XW) (l0 : Nat) (l2 : Int32) (l3 : Int32) (l5 : Int32) (l6 : Int32) (l7 : Int32) (l8 : Int32) (l9 : Int32) (l10 : Int32) (q : Int32 × XW), k.2.2.2.1 w l0 l2 l3 l5 l6 l7 l8 l9 l10 = some q → WP K l mX8_look 8 188 n0 k0 (some (.int q.1)) q.2 154 [some (.ref l0), none, some (.int l2), some (.int l3), none, some (.int l5), some (.int l6), some (.int l7), some (.int l8), some (.int l9), some (.int l10), none, none] [] w) (hk4 : ∀ (w : XW) (l0 : Nat) (l2 : Int32) (l3 : Int32) (l5 : Int32) (l6 : Int32) (l7 : Int32) (l8 : Int32) (l9 : Int32) (l10 : Int32) (l11 : Int32) (l12 : Int32) (q : Int32 × XW), k.2.2.2.2 w l0 l2 l3 l5 l6 l7 l8 l9 l10 l11 l12 = some q → WP K l mX8_look 8 188 n0 k0 (some (.int q.1)) q.2 167 [some (.ref l0), none, some (.int l2), some (.int l3), none, some (.int l5), some (.int l6), some (.int l7), some (.int l8), some (.int l9), some (.int l10), some (.int l11), some (.int l12)] [] w) {w : XW} {l0 : Nat} {l1 : Int32} {l2 : Int32} {l3 : Int32} {l4 : Int32} {l5 : Int32} {l6 : Int32} {q : Int32 × XW} (h0 : hX8_look_40 k w l0 l1 l2 l3 l4 l5 l6 = some q) : WP K l mX8_look 8 188 n0 k0 (some (.int q.1)) q.2 40 [some (.ref l0), some (.int l1), some (.int l2), some (.int l3), some (.int l4), some (.int l5), some (.int l6), none, none, none, none, none, none] [] w := by
  unfold hX8_look_40 at h0
  refine wp_iload dX8_look_40 rfl ?_
  refine wp_bipush (v := (6 : Int32)) dX8_look_42 (by decide) ?_
  refine wp_icmp_ge (tgt := 116) dX8_look_44 (by decide) (fun c1 => ?_) (fun c1 => ?_)
  · rw [if_pos c1] at h0
    refine wp_aload_n dX8_look_116 rfl ?_
    obtain ⟨x2, e4, h3⟩ := Option.bind_eq_some_iff.mp h0
    clear h0
    refine wp_getR okX8 (k := 1) (by decide) tw706 dX8_look_117 e4 ?_
    refine wp_iload_n dX8_look_120 rfl ?_
    refine wp_iload dX8_look_121 rfl ?_
    obtain ⟨w5, e7, h6⟩ := Option.bind_eq_some_iff.mp h3
    clear h3
    refine wp_iast dX8_look_123 e7 ?_
    refine wp_bipush (v := (-4 : Int32)) dX8_look_124 (by decide) ?_
    refine wp_istore (L1 := [some (.ref l0), some (.int l1), some (.int l2), some (.int l3), some (.int l4), some (.int l5), some (.int (-4 : Int32)), none, none, none, none, none, none]) dX8_look_126 (Nat.le_of_ble_eq_true rfl) rfl ?_
    refine wp_bipush (v := (9 : Int32)) dX8_look_128 (by decide) ?_
    refine wp_istore (L1 := [some (.ref l0), some (.int l1), some (.int l2), some (.int l3), some (.int l4), some (.int l5), some (.int (-4 : Int32)), some (.int (9 : Int32)), none, none, none, none, none]) dX8_look_130 (Nat.le_of_ble_eq_true rfl) rfl ?_
    refine wp_iconst (v := (0 : Int32)) dX8_look_132 (by decide) ?_
    refine wp_istore (L1 := [some (.ref l0), some (.int l1), some (.int l2), some (.int l3), some (.int l4), some (.int l5), some (.int (-4 : Int32)), some (.int (9 : Int32)), some (.int (0 : Int32)), none, none, none, none]) dX8_look_133 (Nat.le_of_ble_eq_true rfl) rfl ?_
    exact WP.wk (hk2 _ _ _ _ _ _ _ _ _ h6) (And.intro rfl (And.intro rfl (And.intro rfl (And.intro rfl (And.intro rfl (And.intro rfl (And.intro rfl trivial)))))))
  · rw [if_neg c1] at h0
    refine wp_iload dX8_look_47 rfl ?_
    refine wp_iload_n dX8_look_49 rfl ?_
    refine wp_iload dX8_look_50 rfl ?_
    refine wp_ishr dX8_look_52 ?_
    refine wp_iconst (v := (1 : Int32)) dX8_look_53 (by decide) ?_
    refine wp_iand dX8_look_54 ?_
    refine wp_iadd dX8_look_55 ?_
    refine wp_istore (L1 := [some (.ref l0), some (.int l1), some (.int l2), some (.int l3), some (.int l4), some (.int (l5 + ((l3 >>> (l6 &&& 31)) &&& (1 : Int32)))), some (.int l6), none, none, none, none, none, none]) dX8_look_56 (Nat.le_of_ble_eq_true rfl) rfl ?_
    refine wp_aload_n dX8_look_58 rfl ?_
    obtain ⟨x8, e10, h9⟩ := Option.bind_eq_some_iff.mp h0
    clear h0
    refine wp_getR okX8 (k := 1) (by decide) tw706 dX8_look_59 e10 ?_
    refine wp_iload_n dX8_look_62 rfl ?_
    refine wp_iload dX8_look_63 rfl ?_
    obtain ⟨w11, e13, h12⟩ := Option.bind_eq_some_iff.mp h9
    clear h9
    refine wp_iast dX8_look_65 e13 ?_
    refine wp_aload_n dX8_look_66 rfl ?_
    refine wp_iconst (v := (0 : Int32)) dX8_look_67 (by decide) ?_
    refine wp_sipush (v := (198 : Int32)) dX8_look_68 (by decide) ?_
    obtain ⟨q14, e16, h15⟩ := Option.bind_eq_some_iff.mp h12
    clear h12
    refine wp_Vv (As := [.int (0 : Int32), .int (198 : Int32)]) (S := []) okM_X8_copies tw877 twP_X8_copies tw875 (OX8_copies e16) rfl rfl rfl ⟨(Nat.le_of_ble_eq_true rfl), (Nat.le_of_ble_eq_true rfl)⟩ (Nat.le_of_ble_eq_true rfl) rfl dX8_look_71 (MX8_copies e16) ?_
    refine wp_iconst (v := (0 : Int32)) dX8_look_74 (by decide) ?_
    refine wp_istore (L1 := [some (.ref l0), some (.int l1), some (.int l2), some (.int l3), some (.int l4), some (.int (l5 + ((l3 >>> (l6 &&& 31)) &&& (1 : Int32)))), some (.int l6), some (.int (0 : Int32)), none, none, none, none, none]) dX8_look_75 (Nat.le_of_ble_eq_true rfl) rfl ?_
    exact WP.wk (hk1 _ _ _ _ _ _ _ _ _ _ h15) (And.intro rfl (And.intro rfl (And.intro rfl (And.intro rfl (And.intro rfl (And.intro rfl (And.intro rfl (And.intro rfl trivial))))))))
def eX8_look (k : KTX8_look) (w : XW) (l0 : Nat) (l1 : Int32) (l2 : Int32) : Option (Int32 × XW) :=
  (fX8_isFraction w l0 l1).bind fun q1 =>
  if q1.1 = 0 then
  bX8_look_18 k q1.2
  else
  (fX8_in q1.2 (l2.toInt64) (0 : Int64) (1 : Int64)).bind fun q5 =>
  if q5.1 = 0 then
  bX8_look_18 k q5.2
  else
  (fX8_kindsOf q5.2 l0 l1).bind fun q9 =>
  (gR q9.2 l0 8 1).bind fun x12 =>
  (aI q9.2 0 x12 l1).bind fun x15 =>
  k.1 q9.2 l0 l1 l2 q9.1 x15 (0 : Int32) (0 : Int32)
theorem EX8_look {K : CX} {l : Launch} {n0 k0 : Nat} {k : KTX8_look} (hk0 : ∀ (w : XW) (l0 : Nat) (l1 : Int32) (l2 : Int32) (l3 : Int32) (l4 : Int32) (l5 : Int32) (l6 : Int32) (q : Int32 × XW), k.1 w l0 l1 l2 l3 l4 l5 l6 = some q → WP K l mX8_look 8 188 n0 k0 (some (.int q.1)) q.2 40 [some (.ref l0), some (.int l1), some (.int l2), some (.int l3), some (.int l4), some (.int l5), some (.int l6), none, none, none, none, none, none] [] w) (hk1 : ∀ (w : XW) (l0 : Nat) (l1 : Int32) (l2 : Int32) (l3 : Int32) (l4 : Int32) (l5 : Int32) (l6 : Int32) (l7 : Int32) (q : Int32 × XW), k.2.1 w l0 l1 l2 l3 l4 l5 l6 l7 = some q → WP K l mX8_look 8 188 n0 k0 (some (.int q.1)) q.2 77 [some (.ref l0), some (.int l1), some (.int l2), some (.int l3), some (.int l4), some (.int l5), some (.int l6), some (.int l7), none, none, none, none, none] [] w) (hk2 : ∀ (w : XW) (l0 : Nat) (l2 : Int32) (l3 : Int32) (l5 : Int32) (l6 : Int32) (l7 : Int32) (l8 : Int32) (q : Int32 × XW), k.2.2.1 w l0 l2 l3 l5 l6 l7 l8 = some q → WP K l mX8_look 8 188 n0 k0 (some (.int q.1)) q.2 135 [some (.ref l0), none, some (.int l2), some (.int l3), none, some (.int l5), some (.int l6), some (.int l7), some (.int l8), none, none, none, none] [] w) (hk3 : ∀ (w : XW) (l0 : Nat) (l2 : Int32) (l3 : Int32) (l5 : Int32) (l6 : Int32) (l7 : Int32) (l8 : Int32) (l9 : Int32) (l10 : Int32) (q : Int32 × XW), k.2.2.2.1 w l0 l2 l3 l5 l6 l7 l8 l9 l10 = some q → WP K l mX8_look 8 188 n0 k0 (some (.int q.1)) q.2 154 [some (.ref l0), none, some (.int l2), some (.int l3), none, some (.int l5), some (.int l6), some (.int l7), some (.int l8), some (.int l9), some (.int l10), none, none] [] w) (hk4 : ∀ (w : XW) (l0 : Nat) (l2 : Int32) (l3 : Int32) (l5 : Int32) (l6 : Int32) (l7 : Int32) (l8 : Int32) (l9 : Int32) (l10 : Int32) (l11 : Int32) (l12 : Int32) (q : Int32 × XW), k.2.2.2.2 w l0 l2 l3 l5 l6 l7 l8 l9 l10 l11 l12 = some q → WP K l mX8_look 8 188 n0 k0 (some (.int q.1)) q.2 167 [some (.ref l0), none, some (.int l2), some (.int l3), none, some (.int l5), some (.int l6), some (.int l7), some (.int l8), some (.int l9), some (.int l10), some (.int l11), some (.int l12)] [] w) {w : XW} {l0 : Nat} {l1 : Int32} {l2 : Int32} {q : Int32 × XW} (h0 : eX8_look k w l0 l1 l2 = some q) : WP K l mX8_look 8 188 n0 k0 (some (.int q.1)) q.2 0 [some (.ref l0), some (.int l1), some (.int l2), none, none, none, none, none, none, none, none, none, none] [] w := by
  unfold eX8_look at h0
  refine wp_aload_n dX8_look_0 rfl ?_
  refine wp_iload_n dX8_look_1 rfl ?_
  obtain ⟨q1, e3, h2⟩ := Option.bind_eq_some_iff.mp h0
  clear h0
  refine wp_Vi (As := [.int l1]) (S := []) okM_X8_isFraction tw835 twP_X8_isFraction tw833 (OX8_isFraction e3) rfl rfl rfl ⟨(Nat.le_of_ble_eq_true rfl), (Nat.le_of_ble_eq_true rfl)⟩ (Nat.le_of_ble_eq_true rfl) rfl dX8_look_2 (MX8_isFraction e3) ?_
  refine wp_if_eq (tgt := 18) dX8_look_5 (by decide) (fun c4 => ?_) (fun c4 => ?_)
  · rw [if_pos c4] at h2
    exact WP.wk (BX8_look_18 hk0 hk1 hk2 hk3 hk4 h2) trivial
  · rw [if_neg c4] at h2
    refine wp_iload_n dX8_look_8 rfl ?_
    refine wp_i2l dX8_look_9 ?_
    refine wp_lconst (v := (0 : Int64)) dX8_look_10 (by decide) ?_
    refine wp_lconst (v := (1 : Int64)) dX8_look_11 (by decide) ?_
    obtain ⟨q5, e7, h6⟩ := Option.bind_eq_some_iff.mp h2
    clear h2
    refine wp_Si (As := [.long (l2.toInt64), .long (0 : Int64), .long (1 : Int64)]) (S := []) okM_X8_in tw785 tw784 rfl ⟨(Nat.le_of_ble_eq_true rfl), (Nat.le_of_ble_eq_true rfl)⟩ (Nat.le_of_ble_eq_true rfl) rfl dX8_look_12 (MX8_in e7) ?_
    refine wp_if_ne (tgt := 20) dX8_look_15 (by decide) (fun c8 => ?_) (fun c8 => ?_)
    · rw [if_neg c8] at h6
      refine wp_aload_n dX8_look_20 rfl ?_
      refine wp_iload_n dX8_look_21 rfl ?_
      obtain ⟨q9, e11, h10⟩ := Option.bind_eq_some_iff.mp h6
      clear h6
      refine wp_Vi (As := [.int l1]) (S := []) okM_X8_kindsOf tw1008 twP_X8_kindsOf tw1006 (OX8_kindsOf e11) rfl rfl rfl ⟨(Nat.le_of_ble_eq_true rfl), (Nat.le_of_ble_eq_true rfl)⟩ (Nat.le_of_ble_eq_true rfl) rfl dX8_look_22 (MX8_kindsOf e11) ?_
      refine wp_istore_n (L1 := [some (.ref l0), some (.int l1), some (.int l2), some (.int q9.1), none, none, none, none, none, none, none, none, none]) dX8_look_25 (Nat.le_of_ble_eq_true rfl) rfl ?_
      refine wp_aload_n dX8_look_26 rfl ?_
      obtain ⟨x12, e14, h13⟩ := Option.bind_eq_some_iff.mp h10
      clear h10
      refine wp_getR okX8 (k := 1) (by decide) tw706 dX8_look_27 e14 ?_
      refine wp_iload_n dX8_look_30 rfl ?_
      obtain ⟨x15, e17, h16⟩ := Option.bind_eq_some_iff.mp h13
      clear h13
      refine wp_iald dX8_look_31 e17 ?_
      refine wp_istore (L1 := [some (.ref l0), some (.int l1), some (.int l2), some (.int q9.1), some (.int x15), none, none, none, none, none, none, none, none]) dX8_look_32 (Nat.le_of_ble_eq_true rfl) rfl ?_
      refine wp_iconst (v := (0 : Int32)) dX8_look_34 (by decide) ?_
      refine wp_istore (L1 := [some (.ref l0), some (.int l1), some (.int l2), some (.int q9.1), some (.int x15), some (.int (0 : Int32)), none, none, none, none, none, none, none]) dX8_look_35 (Nat.le_of_ble_eq_true rfl) rfl ?_
      refine wp_iconst (v := (0 : Int32)) dX8_look_37 (by decide) ?_
      refine wp_istore (L1 := [some (.ref l0), some (.int l1), some (.int l2), some (.int q9.1), some (.int x15), some (.int (0 : Int32)), some (.int (0 : Int32)), none, none, none, none, none, none]) dX8_look_38 (Nat.le_of_ble_eq_true rfl) rfl ?_
      exact WP.wk (hk0 _ _ _ _ _ _ _ _ _ h16) (And.intro rfl (And.intro rfl (And.intro rfl (And.intro rfl (And.intro rfl (And.intro rfl (And.intro rfl trivial)))))))
    · rw [if_pos c8] at h6
      exact WP.wk (BX8_look_18 hk0 hk1 hk2 hk3 hk4 h6) trivial
def loX8_look : Nat → KTX8_look
  | 0 => (fun _ _ _ _ _ _ _ _ => none, fun _ _ _ _ _ _ _ _ _ => none, fun _ _ _ _ _ _ _ _ => none, fun _ _ _ _ _ _ _ _ _ _ => none, fun _ _ _ _ _ _ _ _ _ _ _ _ => none)
  | n + 1 => (hX8_look_40 (loX8_look n), hX8_look_77 (loX8_look n), hX8_look_135 (loX8_look n), hX8_look_154 (loX8_look n), hX8_look_167 (loX8_look n))
theorem LOX8_look {K : CX} {l : Launch} {n0 k0 : Nat} : ∀ n : Nat, (∀ (w : XW) (l0 : Nat) (l1 : Int32) (l2 : Int32) (l3 : Int32) (l4 : Int32) (l5 : Int32) (l6 : Int32) (q : Int32 × XW), (loX8_look n).1 w l0 l1 l2 l3 l4 l5 l6 = some q → WP K l mX8_look 8 188 n0 k0 (some (.int q.1)) q.2 40 [some (.ref l0), some (.int l1), some (.int l2), some (.int l3), some (.int l4), some (.int l5), some (.int l6), none, none, none, none, none, none] [] w) ∧ (∀ (w : XW) (l0 : Nat) (l1 : Int32) (l2 : Int32) (l3 : Int32) (l4 : Int32) (l5 : Int32) (l6 : Int32) (l7 : Int32) (q : Int32 × XW), (loX8_look n).2.1 w l0 l1 l2 l3 l4 l5 l6 l7 = some q → WP K l mX8_look 8 188 n0 k0 (some (.int q.1)) q.2 77 [some (.ref l0), some (.int l1), some (.int l2), some (.int l3), some (.int l4), some (.int l5), some (.int l6), some (.int l7), none, none, none, none, none] [] w) ∧ (∀ (w : XW) (l0 : Nat) (l2 : Int32) (l3 : Int32) (l5 : Int32) (l6 : Int32) (l7 : Int32) (l8 : Int32) (q : Int32 × XW), (loX8_look n).2.2.1 w l0 l2 l3 l5 l6 l7 l8 = some q → WP K l mX8_look 8 188 n0 k0 (some (.int q.1)) q.2 135 [some (.ref l0), none, some (.int l2), some (.int l3), none, some (.int l5), some (.int l6), some (.int l7), some (.int l8), none, none, none, none] [] w) ∧ (∀ (w : XW) (l0 : Nat) (l2 : Int32) (l3 : Int32) (l5 : Int32) (l6 : Int32) (l7 : Int32) (l8 : Int32) (l9 : Int32) (l10 : Int32) (q : Int32 × XW), (loX8_look n).2.2.2.1 w l0 l2 l3 l5 l6 l7 l8 l9 l10 = some q → WP K l mX8_look 8 188 n0 k0 (some (.int q.1)) q.2 154 [some (.ref l0), none, some (.int l2), some (.int l3), none, some (.int l5), some (.int l6), some (.int l7), some (.int l8), some (.int l9), some (.int l10), none, none] [] w) ∧ (∀ (w : XW) (l0 : Nat) (l2 : Int32) (l3 : Int32) (l5 : Int32) (l6 : Int32) (l7 : Int32) (l8 : Int32) (l9 : Int32) (l10 : Int32) (l11 : Int32) (l12 : Int32) (q : Int32 × XW), (loX8_look n).2.2.2.2 w l0 l2 l3 l5 l6 l7 l8 l9 l10 l11 l12 = some q → WP K l mX8_look 8 188 n0 k0 (some (.int q.1)) q.2 167 [some (.ref l0), none, some (.int l2), some (.int l3), none, some (.int l5), some (.int l6), some (.int l7), some (.int l8), some (.int l9), some (.int l10), some (.int l11), some (.int l12)] [] w) := by
  intro n
  induction n with
  | zero => exact ⟨fun _ _ _ _ _ _ _ _ q h => (by cases h), fun _ _ _ _ _ _ _ _ _ q h => (by cases h), fun _ _ _ _ _ _ _ _ q h => (by cases h), fun _ _ _ _ _ _ _ _ _ _ q h => (by cases h), fun _ _ _ _ _ _ _ _ _ _ _ _ q h => (by cases h)⟩
  | succ n ih => exact ⟨fun _ _ _ _ _ _ _ _ q h => HX8_look_40 ih.1 ih.2.1 ih.2.2.1 ih.2.2.2.1 ih.2.2.2.2 h, fun _ _ _ _ _ _ _ _ _ q h => HX8_look_77 ih.1 ih.2.1 ih.2.2.1 ih.2.2.2.1 ih.2.2.2.2 h, fun _ _ _ _ _ _ _ _ q h => HX8_look_135 ih.1 ih.2.1 ih.2.2.1 ih.2.2.2.1 ih.2.2.2.2 h, fun _ _ _ _ _ _ _ _ _ _ q h => HX8_look_154 ih.1 ih.2.1 ih.2.2.1 ih.2.2.2.1 ih.2.2.2.2 h, fun _ _ _ _ _ _ _ _ _ _ _ _ q h => HX8_look_167 ih.1 ih.2.1 ih.2.2.1 ih.2.2.2.1 ih.2.2.2.2 h⟩
def fX8_look (w : XW) (l0 : Nat) (l1 : Int32) (l2 : Int32) : Option (Int32 × XW) := if isO w l0 8 = true then eX8_look (loX8_look FU) w l0 l1 l2 else none
theorem OX8_look {w : XW} {l0 : Nat} {l1 : Int32} {l2 : Int32} {q : Int32 × XW} (h : fX8_look w l0 l1 l2 = some q) : isO w l0 8 = true := Decidable.byContradiction fun z => by unfold fX8_look at h; rw [if_neg z] at h; cases h
theorem MX8_look {K : CX} {l : Launch} {w : XW} {l0 : Nat} {l1 : Int32} {l2 : Int32} {q : Int32 × XW} (h : fX8_look w l0 l1 l2 = some q) : MT K l mX8_look 8 188 [.ref l0, .int l1, .int l2] w (some (.int q.1)) q.2 := by
  have z := OX8_look h
  unfold fX8_look at h
  rw [if_pos z] at h
  exact MT.of (by decide) (Nat.le_of_ble_eq_true rfl) rfl (EX8_look (LOX8_look FU).1 (LOX8_look FU).2.1 (LOX8_look FU).2.2.1 (LOX8_look FU).2.2.2.1 (LOX8_look FU).2.2.2.2 h)
