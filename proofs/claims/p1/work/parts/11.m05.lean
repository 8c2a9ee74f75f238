/-! FractionRunModel.more(II)I: frames 3, words 69 -/
abbrev mX8_more : MR := (⟨"FractionRunModel", "more", "(II)I"⟩, prog_10_method_14_code, 3, (some .int))
theorem dX8_more_0 : decode prog_10_method_14_code 0 = .ok (.aload_n 0, 1) := by decide +kernel
theorem dX8_more_1 : decode prog_10_method_14_code 1 = .ok (.aload_n 0, 1) := by decide +kernel
theorem dX8_more_2 : decode prog_10_method_14_code 2 = .ok (.getfield 105, 3) := by decide +kernel
theorem dX8_more_5 : decode prog_10_method_14_code 5 = .ok (.ifCond .ne 16, 3) := by decide +kernel
theorem dX8_more_8 : decode prog_10_method_14_code 8 = .ok (.aload_n 0, 1) := by decide +kernel
theorem dX8_more_9 : decode prog_10_method_14_code 9 = .ok (.aload_n 0, 1) := by decide +kernel
theorem dX8_more_10 : decode prog_10_method_14_code 10 = .ok (.getfield 95, 3) := by decide +kernel
theorem dX8_more_13 : decode prog_10_method_14_code 13 = .ok (.invokevirtual 98, 3) := by decide +kernel
theorem dX8_more_16 : decode prog_10_method_14_code 16 = .ok (.bipush 44, 2) := by decide +kernel
theorem dX8_more_18 : decode prog_10_method_14_code 18 = .ok (.if_icmp .eq 7, 3) := by decide +kernel
theorem dX8_more_21 : decode prog_10_method_14_code 21 = .ok (.iconst 1, 1) := by decide +kernel
theorem dX8_more_22 : decode prog_10_method_14_code 22 = .ok (.goto 4, 3) := by decide +kernel
theorem dX8_more_25 : decode prog_10_method_14_code 25 = .ok (.iconst 0, 1) := by decide +kernel
theorem dX8_more_26 : decode prog_10_method_14_code 26 = .ok (.putfield 105, 3) := by decide +kernel
theorem dX8_more_29 : decode prog_10_method_14_code 29 = .ok (.aload_n 0, 1) := by decide +kernel
theorem dX8_more_30 : decode prog_10_method_14_code 30 = .ok (.dup, 1) := by decide +kernel
theorem dX8_more_31 : decode prog_10_method_14_code 31 = .ok (.getfield 95, 3) := by decide +kernel
theorem dX8_more_34 : decode prog_10_method_14_code 34 = .ok (.iconst 1, 1) := by decide +kernel
theorem dX8_more_35 : decode prog_10_method_14_code 35 = .ok (.iadd, 1) := by decide +kernel
theorem dX8_more_36 : decode prog_10_method_14_code 36 = .ok (.putfield 95, 3) := by decide +kernel
theorem dX8_more_39 : decode prog_10_method_14_code 39 = .ok (.aload_n 0, 1) := by decide +kernel
theorem dX8_more_40 : decode prog_10_method_14_code 40 = .ok (.iload_n 1, 1) := by decide +kernel
theorem dX8_more_41 : decode prog_10_method_14_code 41 = .ok (.iload_n 2, 1) := by decide +kernel
theorem dX8_more_42 : decode prog_10_method_14_code 42 = .ok (.invokevirtual 111, 3) := by decide +kernel
theorem dX8_more_45 : decode prog_10_method_14_code 45 = .ok (.ireturn, 1) := by decide +kernel
theorem okM_X8_more : okM mX8_more 2 := ⟨tw817, tw15, by decide, by decide, by decide +kernel⟩
def bX8_more_26 (w : XW) (l0 : Nat) (l1 : Int32) (l2 : Int32) (s0 : Nat) (s1 : Int32) : Option (Int32 × XW) :=
  if s1 &&& 1 = s1 then
  (pV w s0 8 14 (.int s1)).bind fun w1 =>
  (gI w1 l0 8 12).bind fun x6 =>
  (pV w1 l0 8 12 (.int (x6 + (1 : Int32)))).bind fun w9 =>
  (fX8_number w9 l0 l1 l2).bind fun q12 =>
  some (q12.1, q12.2)
  else none
theorem BX8_more_26 {K : CX} {l : Launch} {n0 k0 : Nat} {w : XW} {l0 : Nat} {l1 : Int32} {l2 : Int32} {s0 : Nat} {s1 : Int32} {q : Int32 × XW} (h0 : bX8_more_26 w l0 l1 l2 s0 s1 = some q) : WP K l mX8_more 3 69 n0 k0 (some (.int q.1)) q.2 26 [some (.ref l0), some (.int l1), some (.int l2)] [.int s1, .ref s0] w := by
  unfold bX8_more_26 at h0
  have c2 : s1 &&& 1 = s1 := Decidable.byContradiction fun z => by rw [if_neg z] at h0; cases h0
  rw [if_pos c2] at h0
  obtain ⟨w1, e5, h4⟩ := Option.bind_eq_some_iff.mp h0
  clear h0
  refine wp_putV okX8 (k := 14) (by decide) rfl tw719 dX8_more_26 (zb_n c2) (zb_f c2) e5 ?_
  refine wp_aload_n dX8_more_29 rfl ?_
  refine wp_dup dX8_more_30 rfl ?_
  obtain ⟨x6, e8, h7⟩ := Option.bind_eq_some_iff.mp h4
  clear h4
  refine wp_getI okX8 (k := 12) (by decide) tw717 dX8_more_31 e8 ?_
  refine wp_iconst (v := (1 : Int32)) dX8_more_34 (by decide) ?_
  refine wp_iadd dX8_more_35 ?_
  obtain ⟨w9, e11, h10⟩ := Option.bind_eq_some_iff.mp h7
  clear h7
  refine wp_putV okX8 (k := 12) (by decide) rfl tw717 dX8_more_36 rfl rfl e11 ?_
  refine wp_aload_n dX8_more_39 rfl ?_
  refine wp_iload_n dX8_more_40 rfl ?_
  refine wp_iload_n dX8_more_41 rfl ?_
  obtain ⟨q12, e14, h13⟩ := Option.bind_eq_some_iff.mp h10
  clear h10
  refine wp_Vi (As := [.int l1, .int l2]) (S := []) okM_X8_number tw809 twP_X8_number tw807 (OX8_number e14) rfl rfl rfl ⟨(Nat.le_of_ble_eq_true rfl), (Nat.le_of_ble_eq_true rfl)⟩ (Nat.le_of_ble_eq_true rfl) rfl dX8_more_42 (MX8_number e14) ?_
  cases h13
  exact wp_iret rfl dX8_more_45
def bX8_more_21 (w : XW) (l0 : Nat) (l1 : Int32) (l2 : Int32) (s0 : Nat) : Option (Int32 × XW) :=
  bX8_more_26 w l0 l1 l2 s0 (1 : Int32)
theorem BX8_more_21 {K : CX} {l : Launch} {n0 k0 : Nat} {w : XW} {l0 : Nat} {l1 : Int32} {l2 : Int32} {s0 : Nat} {q : Int32 × XW} (h0 : bX8_more_21 w l0 l1 l2 s0 = some q) : WP K l mX8_more 3 69 n0 k0 (some (.int q.1)) q.2 21 [some (.ref l0), some (.int l1), some (.int l2)] [.ref s0] w := by
  unfold bX8_more_21 at h0
  refine wp_iconst (v := (1 : Int32)) dX8_more_21 (by decide) ?_
  refine wp_goto (tgt := 26) dX8_more_22 (by decide) ?_
  exact WP.wk (BX8_more_26 h0) (And.intro rfl (And.intro rfl (And.intro rfl trivial)))
def eX8_more (w : XW) (l0 : Nat) (l1 : Int32) (l2 : Int32) : Option (Int32 × XW) :=
  (gI w l0 8 14).bind fun x1 =>
  if x1 = 0 then
  (gI w l0 8 12).bind fun x5 =>
  (fX8_letterAt w l0 x5).bind fun q8 =>
  if q8.1 = (44 : Int32) then
  bX8_more_26 q8.2 l0 l1 l2 l0 (0 : Int32)
  else
  bX8_more_21 q8.2 l0 l1 l2 l0
  else
  bX8_more_21 w l0 l1 l2 l0
theorem EX8_more {K : CX} {l : Launch} {n0 k0 : Nat} {w : XW} {l0 : Nat} {l1 : Int32} {l2 : Int32} {q : Int32 × XW} (h0 : eX8_more w l0 l1 l2 = some q) : WP K l mX8_more 3 69 n0 k0 (some (.int q.1)) q.2 0 [some (.ref l0), some (.int l1), some (.int l2)] [] w := by
  unfold eX8_more at h0
  refine wp_aload_n dX8_more_0 rfl ?_
  refine wp_aload_n dX8_more_1 rfl ?_
  obtain ⟨x1, e3, h2⟩ := Option.bind_eq_some_iff.mp h0
  clear h0
  refine wp_getI okX8 (k := 14) (by decide) tw719 dX8_more_2 e3 ?_
  refine wp_if_ne (tgt := 21) dX8_more_5 (by decide) (fun c4 => ?_) (fun c4 => ?_)
  · rw [if_neg c4] at h2
    exact WP.wk (BX8_more_21 h2) (And.intro rfl (And.intro rfl (And.intro rfl trivial)))
  · rw [if_pos c4] at h2
    refine wp_aload_n dX8_more_8 rfl ?_
    refine wp_aload_n dX8_more_9 rfl ?_
    obtain ⟨x5, e7, h6⟩ := Option.bind_eq_some_iff.mp h2
    clear h2
    refine wp_getI okX8 (k := 12) (by decide) tw717 dX8_more_10 e7 ?_
    obtain ⟨q8, e10, h9⟩ := Option.bind_eq_some_iff.mp h6
    clear h6
    refine wp_Vi (As := [.int x5]) (S := [.ref l0]) okM_X8_letterAt tw801 twP_X8_letterAt tw799 (OX8_letterAt e10) rfl rfl rfl ⟨(Nat.le_of_ble_eq_true rfl), (Nat.le_of_ble_eq_true rfl)⟩ (Nat.le_of_ble_eq_true rfl) rfl dX8_more_13 (MX8_letterAt e10) ?_
    refine wp_bipush (v := (44 : Int32)) dX8_more_16 (by decide) ?_
    refine wp_icmp_eq (tgt := 25) dX8_more_18 (by decide) (fun c11 => ?_) (fun c11 => ?_)
    · rw [if_pos c11] at h9
      refine wp_iconst (v := (0 : Int32)) dX8_more_25 (by decide) ?_
      exact WP.wk (BX8_more_26 h9) (And.intro rfl (And.intro rfl (And.intro rfl trivial)))
    · rw [if_neg c11] at h9
      exact WP.wk (BX8_more_21 h9) (And.intro rfl (And.intro rfl (And.intro rfl trivial)))
def fX8_more (w : XW) (l0 : Nat) (l1 : Int32) (l2 : Int32) : Option (Int32 × XW) := if isO w l0 8 = true then eX8_more w l0 l1 l2 else none
theorem OX8_more {w : XW} {l0 : Nat} {l1 : Int32} {l2 : Int32} {q : Int32 × XW} (h : fX8_more w l0 l1 l2 = some q) : isO w l0 8 = true := Decidable.byContradiction fun z => by unfold fX8_more at h; rw [if_neg z] at h; cases h
theorem MX8_more {K : CX} {l : Launch} {w : XW} {l0 : Nat} {l1 : Int32} {l2 : Int32} {q : Int32 × XW} (h : fX8_more w l0 l1 l2 = some q) : MT K l mX8_more 3 69 [.ref l0, .int l1, .int l2] w (some (.int q.1)) q.2 := by
  have z := OX8_more h
  unfold fX8_more at h
  rw [if_pos z] at h
  exact MT.of (by decide) (Nat.le_of_ble_eq_true rfl) rfl (EX8_more h)
/-! FractionRunModel.fraction()V: frames 4, words 91 -/
abbrev mX8_fraction : MR := (⟨"FractionRunModel", "fraction", "()V"⟩, prog_10_method_15_code, 4, none)
theorem dX8_fraction_0 : decode prog_10_method_15_code 0 = .ok (.aload_n 0, 1) := by decide +kernel
theorem dX8_fraction_1 : decode prog_10_method_15_code 1 = .ok (.aload_n 0, 1) := by decide +kernel
theorem dX8_fraction_2 : decode prog_10_method_15_code 2 = .ok (.getfield 53, 3) := by decide +kernel
theorem dX8_fraction_5 : decode prog_10_method_15_code 5 = .ok (.bipush 8, 2) := by decide +kernel
theorem dX8_fraction_7 : decode prog_10_method_15_code 7 = .ok (.if_icmp .ne 7, 3) := by decide +kernel
theorem dX8_fraction_10 : decode prog_10_method_15_code 10 = .ok (.iconst 1, 1) := by decide +kernel
theorem dX8_fraction_11 : decode prog_10_method_15_code 11 = .ok (.goto 4, 3) := by decide +kernel
theorem dX8_fraction_14 : decode prog_10_method_15_code 14 = .ok (.iconst 0, 1) := by decide +kernel
theorem dX8_fraction_15 : decode prog_10_method_15_code 15 = .ok (.putfield 105, 3) := by decide +kernel
theorem dX8_fraction_18 : decode prog_10_method_15_code 18 = .ok (.aload_n 0, 1) := by decide +kernel
theorem dX8_fraction_19 : decode prog_10_method_15_code 19 = .ok (.iconst 1, 1) := by decide +kernel
theorem dX8_fraction_20 : decode prog_10_method_15_code 20 = .ok (.sipush 999, 3) := by decide +kernel
theorem dX8_fraction_23 : decode prog_10_method_15_code 23 = .ok (.invokevirtual 111, 3) := by decide +kernel
theorem dX8_fraction_26 : decode prog_10_method_15_code 26 = .ok (.istore_n 1, 1) := by decide +kernel
theorem dX8_fraction_27 : decode prog_10_method_15_code 27 = .ok (.aload_n 0, 1) := by decide +kernel
theorem dX8_fraction_28 : decode prog_10_method_15_code 28 = .ok (.iconst 1, 1) := by decide +kernel
theorem dX8_fraction_29 : decode prog_10_method_15_code 29 = .ok (.sipush 999, 3) := by decide +kernel
theorem dX8_fraction_32 : decode prog_10_method_15_code 32 = .ok (.invokevirtual 114, 3) := by decide +kernel
theorem dX8_fraction_35 : decode prog_10_method_15_code 35 = .ok (.istore_n 2, 1) := by decide +kernel
theorem dX8_fraction_36 : decode prog_10_method_15_code 36 = .ok (.aload_n 0, 1) := by decide +kernel
theorem dX8_fraction_37 : decode prog_10_method_15_code 37 = .ok (.iconst 0, 1) := by decide +kernel
theorem dX8_fraction_38 : decode prog_10_method_15_code 38 = .ok (.iconst 5, 1) := by decide +kernel
theorem dX8_fraction_39 : decode prog_10_method_15_code 39 = .ok (.invokevirtual 114, 3) := by decide +kernel
theorem dX8_fraction_42 : decode prog_10_method_15_code 42 = .ok (.istore_n 3, 1) := by decide +kernel
theorem dX8_fraction_43 : decode prog_10_method_15_code 43 = .ok (.aload_n 0, 1) := by decide +kernel
theorem dX8_fraction_44 : decode prog_10_method_15_code 44 = .ok (.aload_n 0, 1) := by decide +kernel
theorem dX8_fraction_45 : decode prog_10_method_15_code 45 = .ok (.getfield 105, 3) := by decide +kernel
theorem dX8_fraction_48 : decode prog_10_method_15_code 48 = .ok (.ifCond .ne 17, 3) := by decide +kernel
theorem dX8_fraction_51 : decode prog_10_method_15_code 51 = .ok (.iload_n 1, 1) := by decide +kernel
theorem dX8_fraction_52 : decode prog_10_method_15_code 52 = .ok (.invokestatic 117, 3) := by decide +kernel
theorem dX8_fraction_55 : decode prog_10_method_15_code 55 = .ok (.ifCond .eq 10, 3) := by decide +kernel
theorem dX8_fraction_58 : decode prog_10_method_15_code 58 = .ok (.iload_n 2, 1) := by decide +kernel
theorem dX8_fraction_59 : decode prog_10_method_15_code 59 = .ok (.invokestatic 117, 3) := by decide +kernel
theorem dX8_fraction_62 : decode prog_10_method_15_code 62 = .ok (.ifCond .ne 7, 3) := by decide +kernel
theorem dX8_fraction_65 : decode prog_10_method_15_code 65 = .ok (.iconst 1, 1) := by decide +kernel
theorem dX8_fraction_66 : decode prog_10_method_15_code 66 = .ok (.goto 4, 3) := by decide +kernel
theorem dX8_fraction_69 : decode prog_10_method_15_code 69 = .ok (.iconst 0, 1) := by decide +kernel
theorem dX8_fraction_70 : decode prog_10_method_15_code 70 = .ok (.putfield 105, 3) := by decide +kernel
theorem dX8_fraction_73 : decode prog_10_method_15_code 73 = .ok (.aload_n 0, 1) := by decide +kernel
theorem dX8_fraction_74 : decode prog_10_method_15_code 74 = .ok (.getfield 105, 3) := by decide +kernel
theorem dX8_fraction_77 : decode prog_10_method_15_code 77 = .ok (.ifCond .ne 10, 3) := by decide +kernel
theorem dX8_fraction_80 : decode prog_10_method_15_code 80 = .ok (.aload_n 0, 1) := by decide +kernel
theorem dX8_fraction_81 : decode prog_10_method_15_code 81 = .ok (.iload_n 1, 1) := by decide +kernel
theorem dX8_fraction_82 : decode prog_10_method_15_code 82 = .ok (.iload_n 2, 1) := by decide +kernel
theorem dX8_fraction_83 : decode prog_10_method_15_code 83 = .ok (.iload_n 3, 1) := by decide +kernel
theorem dX8_fraction_84 : decode prog_10_method_15_code 84 = .ok (.invokevirtual 57, 3) := by decide +kernel
theorem dX8_fraction_87 : decode prog_10_method_15_code 87 = .ok (.return_, 1) := by decide +kernel
theorem okM_X8_fraction : okM mX8_fraction 0 := ⟨tw806, tw15, by decide, by decide, by decide +kernel⟩
def bX8_fraction_87 (w : XW) : Option XW :=
  some w
theorem BX8_fraction_87 {K : CX} {l : Launch} {n0 k0 : Nat} {w : XW} {q : XW} (h0 : bX8_fraction_87 w = some q) : WP K l mX8_fraction 4 91 n0 k0 none q 87 [none, none, none, none] [] w := by
  unfold bX8_fraction_87 at h0
  cases h0
  exact wp_vret rfl dX8_fraction_87
def bX8_fraction_70 (w : XW) (l0 : Nat) (l1 : Int32) (l2 : Int32) (l3 : Int32) (s0 : Nat) (s1 : Int32) : Option XW :=
  if s1 &&& 1 = s1 then
  (pV w s0 8 14 (.int s1)).bind fun w1 =>
  (gI w1 l0 8 14).bind fun x6 =>
  if x6 = 0 then
  (fX8_tells w1 l0 l1 l2 l3).bind fun q10 =>
  bX8_fraction_87 q10
  else
  bX8_fraction_87 w1
  else none
theorem BX8_fraction_70 {K : CX} {l : Launch} {n0 k0 : Nat} {w : XW} {l0 : Nat} {l1 : Int32} {l2 : Int32} {l3 : Int32} {s0 : Nat} {s1 : Int32} {q : XW} (h0 : bX8_fraction_70 w l0 l1 l2 l3 s0 s1 = some q) : WP K l mX8_fraction 4 91 n0 k0 none q 70 [some (.ref l0), some (.int l1), some (.int l2), some (.int l3)] [.int s1, .ref s0] w := by
  unfold bX8_fraction_70 at h0
  have c2 : s1 &&& 1 = s1 := Decidable.byContradiction fun z => by rw [if_neg z] at h0; cases h0
  rw [if_pos c2] at h0
  obtain ⟨w1, e5, h4⟩ := Option.bind_eq_some_iff.mp h0
  clear h0
  refine wp_putV okX8 (k := 14) (by decide) rfl tw719 dX8_fraction_70 (zb_n c2) (zb_f c2) e5 ?_
  refine wp_aload_n dX8_fraction_73 rfl ?_
  obtain ⟨x6, e8, h7⟩ := Option.bind_eq_some_iff.mp h4
  clear h4
  refine wp_getI okX8 (k := 14) (by decide) tw719 dX8_fraction_74 e8 ?_
  refine wp_if_ne (tgt := 87) dX8_fraction_77 (by decide) (fun c9 => ?_) (fun c9 => ?_)
  · rw [if_neg c9] at h7
    exact WP.wk (BX8_fraction_87 h7) trivial
  · rw [if_pos c9] at h7
    refine wp_aload_n dX8_fraction_80 rfl ?_
    refine wp_iload_n dX8_fraction_81 rfl ?_
    refine wp_iload_n dX8_fraction_82 rfl ?_
    refine wp_iload_n dX8_fraction_83 rfl ?_
    obtain ⟨q10, e12, h11⟩ := Option.bind_eq_some_iff.mp h7
    clear h7
    refine wp_Vv (As := [.int l1, .int l2, .int l3]) (S := []) okM_X8_tells tw693 twP_X8_tells tw691 (OX8_tells e12) rfl rfl rfl ⟨(Nat.le_of_ble_eq_true rfl), (Nat.le_of_ble_eq_true rfl)⟩ (Nat.le_of_ble_eq_true rfl) rfl dX8_fraction_84 (MX8_tells e12) ?_
    exact WP.wk (BX8_fraction_87 h11) trivial
def bX8_fraction_65 (w : XW) (l0 : Nat) (l1 : Int32) (l2 : Int32) (l3 : Int32) (s0 : Nat) : Option XW :=
  bX8_fraction_70 w l0 l1 l2 l3 s0 (1 : Int32)
theorem BX8_fraction_65 {K : CX} {l : Launch} {n0 k0 : Nat} {w : XW} {l0 : Nat} {l1 : Int32} {l2 : Int32} {l3 : Int32} {s0 : Nat} {q : XW} (h0 : bX8_fraction_65 w l0 l1 l2 l3 s0 = some q) : WP K l mX8_fraction 4 91 n0 k0 none q 65 [some (.ref l0), some (.int l1), some (.int l2), some (.int l3)] [.ref s0] w := by
  unfold bX8_fraction_65 at h0
  refine wp_iconst (v := (1 : Int32)) dX8_fraction_65 (by decide) ?_
  refine wp_goto (tgt := 70) dX8_fraction_66 (by decide) ?_
  exact WP.wk (BX8_fraction_70 h0) (And.intro rfl (And.intro rfl (And.intro rfl (And.intro rfl trivial))))
def bX8_fraction_15 (w : XW) (l0 : Nat) (s0 : Nat) (s1 : Int32) : Option XW :=
  if s1 &&& 1 = s1 then
  (pV w s0 8 14 (.int s1)).bind fun w1 =>
  (fX8_number w1 l0 (1 : Int32) (999 : Int32)).bind fun q6 =>
  (fX8_more q6.2 l0 (1 : Int32) (999 : Int32)).bind fun q9 =>
  (fX8_more q9.2 l0 (0 : Int32) (5 : Int32)).bind fun q12 =>
  (gI q12.2 l0 8 14).bind fun x15 =>
  if x15 = 0 then
  (fX8_isOfPrimes q12.2 q6.1).bind fun q19 =>
  if q19.1 = 0 then
  bX8_fraction_65 q19.2 l0 q6.1 q9.1 q12.1 l0
  else
  (fX8_isOfPrimes q19.2 q9.1).bind fun q23 =>
  if q23.1 = 0 then
  bX8_fraction_65 q23.2 l0 q6.1 q9.1 q12.1 l0
  else
  bX8_fraction_70 q23.2 l0 q6.1 q9.1 q12.1 l0 (0 : Int32)
  else
  bX8_fraction_65 q12.2 l0 q6.1 q9.1 q12.1 l0
  else none
theorem BX8_fraction_15 {K : CX} {l : Launch} {n0 k0 : Nat} {w : XW} {l0 : Nat} {s0 : Nat} {s1 : Int32} {q : XW} (h0 : bX8_fraction_15 w l0 s0 s1 = some q) : WP K l mX8_fraction 4 91 n0 k0 none q 15 [some (.ref l0), none, none, none] [.int s1, .ref s0] w := by
  unfold bX8_fraction_15 at h0
  have c2 : s1 &&& 1 = s1 := Decidable.byContradiction fun z => by rw [if_neg z] at h0; cases h0
  rw [if_pos c2] at h0
  obtain ⟨w1, e5, h4⟩ := Option.bind_eq_some_iff.mp h0
  clear h0
  refine wp_putV okX8 (k := 14) (by decide) rfl tw719 dX8_fraction_15 (zb_n c2) (zb_f c2) e5 ?_
  refine wp_aload_n dX8_fraction_18 rfl ?_
  refine wp_iconst (v := (1 : Int32)) dX8_fraction_19 (by decide) ?_
  refine wp_sipush (v := (999 : Int32)) dX8_fraction_20 (by decide) ?_
  obtain ⟨q6, e8, h7⟩ := Option.bind_eq_some_iff.mp h4
  clear h4
  refine wp_Vi (As := [.int (1 : Int32), .int (999 : Int32)]) (S := []) okM_X8_number tw809 twP_X8_number tw807 (OX8_number e8) rfl rfl rfl ⟨(Nat.le_of_ble_eq_true rfl), (Nat.le_of_ble_eq_true rfl)⟩ (Nat.le_of_ble_eq_true rfl) rfl dX8_fraction_23 (MX8_number e8) ?_
  refine wp_istore_n (L1 := [some (.ref l0), some (.int q6.1), none, none]) dX8_fraction_26 (Nat.le_of_ble_eq_true rfl) rfl ?_
  refine wp_aload_n dX8_fraction_27 rfl ?_
  refine wp_iconst (v := (1 : Int32)) dX8_fraction_28 (by decide) ?_
  refine wp_sipush (v := (999 : Int32)) dX8_fraction_29 (by decide) ?_
  obtain ⟨q9, e11, h10⟩ := Option.bind_eq_some_iff.mp h7
  clear h7
  refine wp_Vi (As := [.int (1 : Int32), .int (999 : Int32)]) (S := []) okM_X8_more tw816 twP_X8_more tw814 (OX8_more e11) rfl rfl rfl ⟨(Nat.le_of_ble_eq_true rfl), (Nat.le_of_ble_eq_true rfl)⟩ (Nat.le_of_ble_eq_true rfl) rfl dX8_fraction_32 (MX8_more e11) ?_
  refine wp_istore_n (L1 := [some (.ref l0), some (.int q6.1), some (.int q9.1), none]) dX8_fraction_35 (Nat.le_of_ble_eq_true rfl) rfl ?_
  refine wp_aload_n dX8_fraction_36 rfl ?_
  refine wp_iconst (v := (0 : Int32)) dX8_fraction_37 (by decide) ?_
  refine wp_iconst (v := (5 : Int32)) dX8_fraction_38 (by decide) ?_
  obtain ⟨q12, e14, h13⟩ := Option.bind_eq_some_iff.mp h10
  clear h10
  refine wp_Vi (As := [.int (0 : Int32), .int (5 : Int32)]) (S := []) okM_X8_more tw816 twP_X8_more tw814 (OX8_more e14) rfl rfl rfl ⟨(Nat.le_of_ble_eq_true rfl), (Nat.le_of_ble_eq_true rfl)⟩ (Nat.le_of_ble_eq_true rfl) rfl dX8_fraction_39 (MX8_more e14) ?_
  refine wp_istore_n (L1 := [some (.ref l0), some (.int q6.1), some (.int q9.1), some (.int q12.1)]) dX8_fraction_42 (Nat.le_of_ble_eq_true rfl) rfl ?_
  refine wp_aload_n dX8_fraction_43 rfl ?_
  refine wp_aload_n dX8_fraction_44 rfl ?_
  obtain ⟨x15, e17, h16⟩ := Option.bind_eq_some_iff.mp h13
  clear h13
  refine wp_getI okX8 (k := 14) (by decide) tw719 dX8_fraction_45 e17 ?_
  refine wp_if_ne (tgt := 65) dX8_fraction_48 (by decide) (fun c18 => ?_) (fun c18 => ?_)
  · rw [if_neg c18] at h16
    exact WP.wk (BX8_fraction_65 h16) (And.intro rfl (And.intro rfl (And.intro rfl (And.intro rfl trivial))))
  · rw [if_pos c18] at h16
    refine wp_iload_n dX8_fraction_51 rfl ?_
    obtain ⟨q19, e21, h20⟩ := Option.bind_eq_some_iff.mp h16
    clear h16
    refine wp_Si (As := [.int q6.1]) (S := [.ref l0]) okM_X8_isOfPrimes tw819 tw818 rfl ⟨(Nat.le_of_ble_eq_true rfl), (Nat.le_of_ble_eq_true rfl)⟩ (Nat.le_of_ble_eq_true rfl) rfl dX8_fraction_52 (MX8_isOfPrimes e21) ?_
    refine wp_if_eq (tgt := 65) dX8_fraction_55 (by decide) (fun c22 => ?_) (fun c22 => ?_)
    · rw [if_pos c22] at h20
      exact WP.wk (BX8_fraction_65 h20) (And.intro rfl (And.intro rfl (And.intro rfl (And.intro rfl trivial))))
    · rw [if_neg c22] at h20
      refine wp_iload_n dX8_fraction_58 rfl ?_
      obtain ⟨q23, e25, h24⟩ := Option.bind_eq_some_iff.mp h20
      clear h20
      refine wp_Si (As := [.int q9.1]) (S := [.ref l0]) okM_X8_isOfPrimes tw819 tw818 rfl ⟨(Nat.le_of_ble_eq_true rfl), (Nat.le_of_ble_eq_true rfl)⟩ (Nat.le_of_ble_eq_true rfl) rfl dX8_fraction_59 (MX8_isOfPrimes e25) ?_
      refine wp_if_ne (tgt := 69) dX8_fraction_62 (by decide) (fun c26 => ?_) (fun c26 => ?_)
      · rw [if_neg c26] at h24
        refine wp_iconst (v := (0 : Int32)) dX8_fraction_69 (by decide) ?_
        exact WP.wk (BX8_fraction_70 h24) (And.intro rfl (And.intro rfl (And.intro rfl (And.intro rfl trivial))))
      · rw [if_pos c26] at h24
        exact WP.wk (BX8_fraction_65 h24) (And.intro rfl (And.intro rfl (And.intro rfl (And.intro rfl trivial))))
def eX8_fraction (w : XW) (l0 : Nat) : Option XW :=
  (gI w l0 8 3).bind fun x1 =>
  if x1 = (8 : Int32) then
  bX8_fraction_15 w l0 l0 (1 : Int32)
  else
  bX8_fraction_15 w l0 l0 (0 : Int32)
theorem EX8_fraction {K : CX} {l : Launch} {n0 k0 : Nat} {w : XW} {l0 : Nat} {q : XW} (h0 : eX8_fraction w l0 = some q) : WP K l mX8_fraction 4 91 n0 k0 none q 0 [some (.ref l0), none, none, none] [] w := by
  unfold eX8_fraction at h0
  refine wp_aload_n dX8_fraction_0 rfl ?_
  refine wp_aload_n dX8_fraction_1 rfl ?_
  obtain ⟨x1, e3, h2⟩ := Option.bind_eq_some_iff.mp h0
  clear h0
  refine wp_getI okX8 (k := 3) (by decide) tw708 dX8_fraction_2 e3 ?_
  refine wp_bipush (v := (8 : Int32)) dX8_fraction_5 (by decide) ?_
  refine wp_icmp_ne (tgt := 14) dX8_fraction_7 (by decide) (fun c4 => ?_) (fun c4 => ?_)
  · rw [if_neg c4] at h2
    refine wp_iconst (v := (0 : Int32)) dX8_fraction_14 (by decide) ?_
    exact WP.wk (BX8_fraction_15 h2) (And.intro rfl trivial)
  · rw [if_pos c4] at h2
    refine wp_iconst (v := (1 : Int32)) dX8_fraction_10 (by decide) ?_
    refine wp_goto (tgt := 15) dX8_fraction_11 (by decide) ?_
    exact WP.wk (BX8_fraction_15 h2) (And.intro rfl trivial)
def fX8_fraction (w : XW) (l0 : Nat) : Option XW := if isO w l0 8 = true then eX8_fraction w l0 else none
theorem OX8_fraction {w : XW} {l0 : Nat} {q : XW} (h : fX8_fraction w l0 = some q) : isO w l0 8 = true := Decidable.byContradiction fun z => by unfold fX8_fraction at h; rw [if_neg z] at h; cases h
theorem MX8_fraction {K : CX} {l : Launch} {w : XW} {l0 : Nat} {q : XW} (h : fX8_fraction w l0 = some q) : MT K l mX8_fraction 4 91 [.ref l0] w none q := by
  have z := OX8_fraction h
  unfold fX8_fraction at h
  rw [if_pos z] at h
  exact MT.of (by decide) (Nat.le_of_ble_eq_true rfl) rfl (EX8_fraction h)
/-! FractionRunModel.reads()V: frames 5, words 114 -/
abbrev mX8_reads : MR := (⟨"FractionRunModel", "reads", "()V"⟩, prog_10_method_17_code, 2, none)
theorem dX8_reads_0 : decode prog_10_method_17_code 0 = .ok (.aload_n 0, 1) := by decide +kernel
theorem dX8_reads_1 : decode prog_10_method_17_code 1 = .ok (.iconst 0, 1) := by decide +kernel
theorem dX8_reads_2 : decode prog_10_method_17_code 2 = .ok (.putfield 53, 3) := by decide +kernel
theorem dX8_reads_5 : decode prog_10_method_17_code 5 = .ok (.iconst 0, 1) := by decide +kernel
theorem dX8_reads_6 : decode prog_10_method_17_code 6 = .ok (.istore_n 1, 1) := by decide +kernel
theorem dX8_reads_7 : decode prog_10_method_17_code 7 = .ok (.iload_n 1, 1) := by decide +kernel
theorem dX8_reads_8 : decode prog_10_method_17_code 8 = .ok (.bipush 6, 2) := by decide +kernel
theorem dX8_reads_10 : decode prog_10_method_17_code 10 = .ok (.if_icmp .ge 16, 3) := by decide +kernel
theorem dX8_reads_13 : decode prog_10_method_17_code 13 = .ok (.aload_n 0, 1) := by decide +kernel
theorem dX8_reads_14 : decode prog_10_method_17_code 14 = .ok (.getfield 22, 3) := by decide +kernel
theorem dX8_reads_17 : decode prog_10_method_17_code 17 = .ok (.iload_n 1, 1) := by decide +kernel
theorem dX8_reads_18 : decode prog_10_method_17_code 18 = .ok (.iconst 0, 1) := by decide +kernel
theorem dX8_reads_19 : decode prog_10_method_17_code 19 = .ok (.iastore, 1) := by decide +kernel
theorem dX8_reads_20 : decode prog_10_method_17_code 20 = .ok (.iinc 1 1, 3) := by decide +kernel
theorem dX8_reads_23 : decode prog_10_method_17_code 23 = .ok (.goto (-16), 3) := by decide +kernel
theorem dX8_reads_26 : decode prog_10_method_17_code 26 = .ok (.aload_n 0, 1) := by decide +kernel
theorem dX8_reads_27 : decode prog_10_method_17_code 27 = .ok (.iconst 0, 1) := by decide +kernel
theorem dX8_reads_28 : decode prog_10_method_17_code 28 = .ok (.putfield 95, 3) := by decide +kernel
theorem dX8_reads_31 : decode prog_10_method_17_code 31 = .ok (.aload_n 0, 1) := by decide +kernel
theorem dX8_reads_32 : decode prog_10_method_17_code 32 = .ok (.iconst 0, 1) := by decide +kernel
theorem dX8_reads_33 : decode prog_10_method_17_code 33 = .ok (.putfield 105, 3) := by decide +kernel
theorem dX8_reads_36 : decode prog_10_method_17_code 36 = .ok (.aload_n 0, 1) := by decide +kernel
theorem dX8_reads_37 : decode prog_10_method_17_code 37 = .ok (.getfield 95, 3) := by decide +kernel
theorem dX8_reads_40 : decode prog_10_method_17_code 40 = .ok (.aload_n 0, 1) := by decide +kernel
theorem dX8_reads_41 : decode prog_10_method_17_code 41 = .ok (.getfield 92, 3) := by decide +kernel
theorem dX8_reads_44 : decode prog_10_method_17_code 44 = .ok (.if_icmp .ge 110, 3) := by decide +kernel
theorem dX8_reads_47 : decode prog_10_method_17_code 47 = .ok (.aload_n 0, 1) := by decide +kernel
theorem dX8_reads_48 : decode prog_10_method_17_code 48 = .ok (.getfield 105, 3) := by decide +kernel
theorem dX8_reads_51 : decode prog_10_method_17_code 51 = .ok (.ifCond .ne 103, 3) := by decide +kernel
theorem dX8_reads_54 : decode prog_10_method_17_code 54 = .ok (.aload_n 0, 1) := by decide +kernel
theorem dX8_reads_55 : decode prog_10_method_17_code 55 = .ok (.aload_n 0, 1) := by decide +kernel
theorem dX8_reads_56 : decode prog_10_method_17_code 56 = .ok (.getfield 95, 3) := by decide +kernel
theorem dX8_reads_59 : decode prog_10_method_17_code 59 = .ok (.putfield 121, 3) := by decide +kernel
theorem dX8_reads_62 : decode prog_10_method_17_code 62 = .ok (.aload_n 0, 1) := by decide +kernel
theorem dX8_reads_63 : decode prog_10_method_17_code 63 = .ok (.aload_n 0, 1) := by decide +kernel
theorem dX8_reads_64 : decode prog_10_method_17_code 64 = .ok (.getfield 95, 3) := by decide +kernel
theorem dX8_reads_67 : decode prog_10_method_17_code 67 = .ok (.invokevirtual 98, 3) := by decide +kernel
theorem dX8_reads_70 : decode prog_10_method_17_code 70 = .ok (.istore_n 1, 1) := by decide +kernel
theorem dX8_reads_71 : decode prog_10_method_17_code 71 = .ok (.aload_n 0, 1) := by decide +kernel
theorem dX8_reads_72 : decode prog_10_method_17_code 72 = .ok (.dup, 1) := by decide +kernel
theorem dX8_reads_73 : decode prog_10_method_17_code 73 = .ok (.getfield 95, 3) := by decide +kernel
theorem dX8_reads_76 : decode prog_10_method_17_code 76 = .ok (.iconst 1, 1) := by decide +kernel
theorem dX8_reads_77 : decode prog_10_method_17_code 77 = .ok (.iadd, 1) := by decide +kernel
theorem dX8_reads_78 : decode prog_10_method_17_code 78 = .ok (.putfield 95, 3) := by decide +kernel
theorem dX8_reads_81 : decode prog_10_method_17_code 81 = .ok (.iload_n 1, 1) := by decide +kernel
theorem dX8_reads_82 : decode prog_10_method_17_code 82 = .ok (.bipush 102, 2) := by decide +kernel
theorem dX8_reads_84 : decode prog_10_method_17_code 84 = .ok (.if_icmp .ne 10, 3) := by decide +kernel
theorem dX8_reads_87 : decode prog_10_method_17_code 87 = .ok (.aload_n 0, 1) := by decide +kernel
theorem dX8_reads_88 : decode prog_10_method_17_code 88 = .ok (.invokevirtual 124, 3) := by decide +kernel
theorem dX8_reads_91 : decode prog_10_method_17_code 91 = .ok (.goto 21, 3) := by decide +kernel
theorem dX8_reads_94 : decode prog_10_method_17_code 94 = .ok (.iload_n 1, 1) := by decide +kernel
theorem dX8_reads_95 : decode prog_10_method_17_code 95 = .ok (.bipush 115, 2) := by decide +kernel
theorem dX8_reads_97 : decode prog_10_method_17_code 97 = .ok (.if_icmp .ne 10, 3) := by decide +kernel
theorem dX8_reads_100 : decode prog_10_method_17_code 100 = .ok (.aload_n 0, 1) := by decide +kernel
theorem dX8_reads_101 : decode prog_10_method_17_code 101 = .ok (.invokevirtual 127, 3) := by decide +kernel
theorem dX8_reads_104 : decode prog_10_method_17_code 104 = .ok (.goto 8, 3) := by decide +kernel
theorem dX8_reads_107 : decode prog_10_method_17_code 107 = .ok (.aload_n 0, 1) := by decide +kernel
theorem dX8_reads_108 : decode prog_10_method_17_code 108 = .ok (.iconst 1, 1) := by decide +kernel
theorem dX8_reads_109 : decode prog_10_method_17_code 109 = .ok (.putfield 105, 3) := by decide +kernel
theorem dX8_reads_112 : decode prog_10_method_17_code 112 = .ok (.aload_n 0, 1) := by decide +kernel
theorem dX8_reads_113 : decode prog_10_method_17_code 113 = .ok (.aload_n 0, 1) := by decide +kernel
theorem dX8_reads_114 : decode prog_10_method_17_code 114 = .ok (.getfield 105, 3) := by decide +kernel
theorem dX8_reads_117 : decode prog_10_method_17_code 117 = .ok (.ifCond .ne 16, 3) := by decide +kernel
theorem dX8_reads_120 : decode prog_10_method_17_code 120 = .ok (.aload_n 0, 1) := by decide +kernel
theorem dX8_reads_121 : decode prog_10_method_17_code 121 = .ok (.aload_n 0, 1) := by decide +kernel
theorem dX8_reads_122 : decode prog_10_method_17_code 122 = .ok (.getfield 95, 3) := by decide +kernel
theorem dX8_reads_125 : decode prog_10_method_17_code 125 = .ok (.invokevirtual 98, 3) := by decide +kernel
theorem dX8_reads_128 : decode prog_10_method_17_code 128 = .ok (.bipush 59, 2) := by decide +kernel
theorem dX8_reads_130 : decode prog_10_method_17_code 130 = .ok (.if_icmp .eq 7, 3) := by decide +kernel
theorem dX8_reads_133 : decode prog_10_method_17_code 133 = .ok (.iconst 1, 1) := by decide +kernel
theorem dX8_reads_134 : decode prog_10_method_17_code 134 = .ok (.goto 4, 3) := by decide +kernel
theorem dX8_reads_137 : decode prog_10_method_17_code 137 = .ok (.iconst 0, 1) := by decide +kernel
theorem dX8_reads_138 : decode prog_10_method_17_code 138 = .ok (.putfield 105, 3) := by decide +kernel
theorem dX8_reads_141 : decode prog_10_method_17_code 141 = .ok (.aload_n 0, 1) := by decide +kernel
theorem dX8_reads_142 : decode prog_10_method_17_code 142 = .ok (.dup, 1) := by decide +kernel
theorem dX8_reads_143 : decode prog_10_method_17_code 143 = .ok (.getfield 95, 3) := by decide +kernel
theorem dX8_reads_146 : decode prog_10_method_17_code 146 = .ok (.iconst 1, 1) := by decide +kernel
theorem dX8_reads_147 : decode prog_10_method_17_code 147 = .ok (.iadd, 1) := by decide +kernel
theorem dX8_reads_148 : decode prog_10_method_17_code 148 = .ok (.putfield 95, 3) := by decide +kernel
theorem dX8_reads_151 : decode prog_10_method_17_code 151 = .ok (.goto (-115), 3) := by decide +kernel
theorem dX8_reads_154 : decode prog_10_method_17_code 154 = .ok (.return_, 1) := by decide +kernel
theorem okM_X8_reads : okM mX8_reads 0 := ⟨tw798, tw15, by decide, by decide, by decide +kernel⟩
abbrev KTX8_reads : Type := (XW → Nat → Int32 → Option XW) × (XW → Nat → Option XW)
def bX8_reads_154 (k : KTX8_reads) (w : XW) : Option XW :=
  some w
theorem BX8_reads_154 {K : CX} {l : Launch} {n0 k0 : Nat} {k : KTX8_reads} (hk0 : ∀ (w : XW) (l0 : Nat) (l1 : Int32) (q : XW), k.1 w l0 l1 = some q → WP K l mX8_reads 5 114 n0 k0 none q 7 [some (.ref l0), some (.int l1)] [] w) (hk1 : ∀ (w : XW) (l0 : Nat) (q : XW), k.2 w l0 = some q → WP K l mX8_reads 5 114 n0 k0 none q 36 [some (.ref l0), none] [] w) {w : XW} {q : XW} (h0 : bX8_reads_154 k w = some q) : WP K l mX8_reads 5 114 n0 k0 none q 154 [none, none] [] w := by
  unfold bX8_reads_154 at h0
  cases h0
  exact wp_vret rfl dX8_reads_154
def bX8_reads_138 (k : KTX8_reads) (w : XW) (l0 : Nat) (s0 : Nat) (s1 : Int32) : Option XW :=
  if s1 &&& 1 = s1 then
  (pV w s0 8 14 (.int s1)).bind fun w1 =>
  (gI w1 l0 8 12).bind fun x6 =>
  (pV w1 l0 8 12 (.int (x6 + (1 : Int32)))).bind fun w9 =>
  k.2 w9 l0
  else none
theorem BX8_reads_138 {K : CX} {l : Launch} {n0 k0 : Nat} {k : KTX8_reads} (hk0 : ∀ (w : XW) (l0 : Nat) (l1 : Int32) (q : XW), k.1 w l0 l1 = some q → WP K l mX8_reads 5 114 n0 k0 none q 7 [some (.ref l0), some (.int l1)] [] w) (hk1 : ∀ (w : XW) (l0 : Nat) (q : XW), k.2 w l0 = some q → WP K l mX8_reads 5 114 n0 k0 none q 36 [some (.ref l0), none] [] w) {w : XW} {l0 : Nat} {s0 : Nat} {s1 : Int32} {q : XW} (h0 : bX8_reads_138 k w l0 s0 s1 = some q) : WP K l mX8_reads 5 114 n0 k0 none q 138 [some (.ref l0), none] [.int s1, .ref s0] w := by
  unfold bX8_reads_138 at h0
  have c2 : s1 &&& 1 = s1 := Decidable.byContradiction fun z => by rw [if_neg z] at h0; cases h0
  rw [if_pos c2] at h0
  obtain ⟨w1, e5, h4⟩ := Option.bind_eq_some_iff.mp h0
  clear h0
  refine wp_putV okX8 (k := 14) (by decide) rfl tw719 dX8_reads_138 (zb_n c2) (zb_f c2) e5 ?_
  refine wp_aload_n dX8_reads_141 rfl ?_
  refine wp_dup dX8_reads_142 rfl ?_
  obtain ⟨x6, e8, h7⟩ := Option.bind_eq_some_iff.mp h4
  clear h4
  refine wp_getI okX8 (k := 12) (by decide) tw717 dX8_reads_143 e8 ?_
  refine wp_iconst (v := (1 : Int32)) dX8_reads_146 (by decide) ?_
  refine wp_iadd dX8_reads_147 ?_
  obtain ⟨w9, e11, h10⟩ := Option.bind_eq_some_iff.mp h7
  clear h7
  refine wp_putV okX8 (k := 12) (by decide) rfl tw717 dX8_reads_148 rfl rfl e11 ?_
  refine wp_goto (tgt := 36) dX8_reads_151 (by decide) ?_
  exact WP.wk (hk1 _ _ _ h10) (And.intro rfl trivial)
def bX8_reads_133 (k : KTX8_reads) (w : XW) (l0 : Nat) (s0 : Nat) : Option XW :=
  bX8_reads_138 k w l0 s0 (1 : Int32)
theorem BX8_reads_133 {K : CX} {l : Launch} {n0 k0 : Nat} {k : KTX8_reads} (hk0 : ∀ (w : XW) (l0 : Nat) (l1 : Int32) (q : XW), k.1 w l0 l1 = some q → WP K l mX8_reads 5 114 n0 k0 none q 7 [some (.ref l0), some (.int l1)] [] w) (hk1 : ∀ (w : XW) (l0 : Nat) (q : XW), k.2 w l0 = some q → WP K l mX8_reads 5 114 n0 k0 none q 36 [some (.ref l0), none] [] w) {w : XW} {l0 : Nat} {s0 : Nat} {q : XW} (h0 : bX8_reads_133 k w l0 s0 = some q) : WP K l mX8_reads 5 114 n0 k0 none q 133 [some (.ref l0), none] [.ref s0] w := by
  unfold bX8_reads_133 at h0
  refine wp_iconst (v := (1 : Int32)) dX8_reads_133 (by decide) ?_
  refine wp_goto (tgt := 138) dX8_reads_134 (by decide) ?_
  exact WP.wk (BX8_reads_138 hk0 hk1 h0) (And.intro rfl trivial)
def bX8_reads_112 (k : KTX8_reads) (w : XW) (l0 : Nat) : Option XW :=
  (gI w l0 8 14).bind fun x1 =>
  if x1 = 0 then
  (gI w l0 8 12).bind fun x5 =>
  (fX8_letterAt w l0 x5).bind fun q8 =>
  if q8.1 = (59 : Int32) then
  bX8_reads_138 k q8.2 l0 l0 (0 : Int32)
  else
  bX8_reads_133 k q8.2 l0 l0
  else
  bX8_reads_133 k w l0 l0
theorem BX8_reads_112 {K : CX} {l : Launch} {n0 k0 : Nat} {k : KTX8_reads} (hk0 : ∀ (w : XW) (l0 : Nat) (l1 : Int32) (q : XW), k.1 w l0 l1 = some q → WP K l mX8_reads 5 114 n0 k0 none q 7 [some (.ref l0), some (.int l1)] [] w) (hk1 : ∀ (w : XW) (l0 : Nat) (q : XW), k.2 w l0 = some q → WP K l mX8_reads 5 114 n0 k0 none q 36 [some (.ref l0), none] [] w) {w : XW} {l0 : Nat} {q : XW} (h0 : bX8_reads_112 k w l0 = some q) : WP K l mX8_reads 5 114 n0 k0 none q 112 [some (.ref l0), none] [] w := by
  unfold bX8_reads_112 at h0
  refine wp_aload_n dX8_reads_112 rfl ?_
  refine wp_aload_n dX8_reads_113 rfl ?_
  obtain ⟨x1, e3, h2⟩ := Option.bind_eq_some_iff.mp h0
  clear h0
  refine wp_getI okX8 (k := 14) (by decide) tw719 dX8_reads_114 e3 ?_
  refine wp_if_ne (tgt := 133) dX8_reads_117 (by decide) (fun c4 => ?_) (fun c4 => ?_)
  · rw [if_neg c4] at h2
    exact WP.wk (BX8_reads_133 hk0 hk1 h2) (And.intro rfl trivial)
  · rw [if_pos c4] at h2
    refine wp_aload_n dX8_reads_120 rfl ?_
    refine wp_aload_n dX8_reads_121 rfl ?_
    obtain ⟨x5, e7, h6⟩ := Option.bind_eq_some_iff.mp h2
    clear h2
    refine wp_getI okX8 (k := 12) (by decide) tw717 dX8_reads_122 e7 ?_
    obtain ⟨q8, e10, h9⟩ := Option.bind_eq_some_iff.mp h6
    clear h6
    refine wp_Vi (As := [.int x5]) (S := [.ref l0]) okM_X8_letterAt tw801 twP_X8_letterAt tw799 (OX8_letterAt e10) rfl rfl rfl ⟨(Nat.le_of_ble_eq_true rfl), (Nat.le_of_ble_eq_true rfl)⟩ (Nat.le_of_ble_eq_true rfl) rfl dX8_reads_125 (MX8_letterAt e10) ?_
    refine wp_bipush (v := (59 : Int32)) dX8_reads_128 (by decide) ?_
    refine wp_icmp_eq (tgt := 137) dX8_reads_130 (by decide) (fun c11 => ?_) (fun c11 => ?_)
    · rw [if_pos c11] at h9
      refine wp_iconst (v := (0 : Int32)) dX8_reads_137 (by decide) ?_
      exact WP.wk (BX8_reads_138 hk0 hk1 h9) (And.intro rfl trivial)
    · rw [if_neg c11] at h9
      exact WP.wk (BX8_reads_133 hk0 hk1 h9) (And.intro rfl trivial)
def hX8_reads_36 (k : KTX8_reads) (w : XW) (l0 : Nat) : Option XW :=
  (gI w l0 8 12).bind fun x1 =>
  (gI w l0 8 10).bind fun x4 =>
  if x4 ≤ x1 then
  bX8_reads_154 k w
  else
  (gI w l0 8 14).bind fun x8 =>
  if x8 = 0 then
  (gI w l0 8 12).bind fun x12 =>
  (pV w l0 8 13 (.int x12)).bind fun w15 =>
  (gI w15 l0 8 12).bind fun x18 =>
  (fX8_letterAt w15 l0 x18).bind fun q21 =>
  (gI q21.2 l0 8 12).bind fun x24 =>
  (pV q21.2 l0 8 12 (.int (x24 + (1 : Int32)))).bind fun w27 =>
  if q21.1 = (102 : Int32) then
  (fX8_fraction w27 l0).bind fun q38 =>
  bX8_reads_112 k q38 l0
  else
  if q21.1 = (115 : Int32) then
  (fX8_start w27 l0).bind fun q35 =>
  bX8_reads_112 k q35 l0
  else
  (pV w27 l0 8 14 (.int (1 : Int32))).bind fun w32 =>
  bX8_reads_112 k w32 l0
  else
  bX8_reads_154 k w
theorem HX8_reads_36 {K : CX} {l : Launch} {n0 k0 : Nat} {k : KTX8_reads} (hk0 : ∀ (w : XW) (l0 : Nat) (l1 : Int32) (q : XW), k.1 w l0 l1 = some q → WP K l mX8_reads 5 114 n0 k0 none q 7 [some (.ref l0), some (.int l1)] [] w) (hk1 : ∀ (w : XW) (l0 : Nat) (q : XW), k.2 w l0 = some q → WP K l mX8_reads 5 114 n0 k0 none q 36 [some (.ref l0), none] [] w) {w : XW} {l0 : Nat} {q : XW} (h0 : hX8_reads_36 k w l0 = some q) : WP K l mX8_reads 5 114 n0 k0 none q 36 [some (.ref l0), none] [] w := by
  unfold hX8_reads_36 at h0
  refine wp_aload_n dX8_reads_36 rfl ?_
  obtain ⟨x1, e3, h2⟩ := Option.bind_eq_some_iff.mp h0
  clear h0
  refine wp_getI okX8 (k := 12) (by decide) tw717 dX8_reads_37 e3 ?_
  refine wp_aload_n dX8_reads_40 rfl ?_
  obtain ⟨x4, e6, h5⟩ := Option.bind_eq_some_iff.mp h2
  clear h2
  refine wp_getI okX8 (k := 10) (by decide) tw715 dX8_reads_41 e6 ?_
  refine wp_icmp_ge (tgt := 154) dX8_reads_44 (by decide) (fun c7 => ?_) (fun c7 => ?_)
  · rw [if_pos c7] at h5
    exact WP.wk (BX8_reads_154 hk0 hk1 h5) trivial
  · rw [if_neg c7] at h5
    refine wp_aload_n dX8_reads_47 rfl ?_
    obtain ⟨x8, e10, h9⟩ := Option.bind_eq_some_iff.mp h5
    clear h5
    refine wp_getI okX8 (k := 14) (by decide) tw719 dX8_reads_48 e10 ?_
    refine wp_if_ne (tgt := 154) dX8_reads_51 (by decide) (fun c11 => ?_) (fun c11 => ?_)
    · rw [if_neg c11] at h9
      exact WP.wk (BX8_reads_154 hk0 hk1 h9) trivial
    · rw [if_pos c11] at h9
      refine wp_aload_n dX8_reads_54 rfl ?_
      refine wp_aload_n dX8_reads_55 rfl ?_
      obtain ⟨x12, e14, h13⟩ := Option.bind_eq_some_iff.mp h9
      clear h9
      refine wp_getI okX8 (k := 12) (by decide) tw717 dX8_reads_56 e14 ?_
      obtain ⟨w15, e17, h16⟩ := Option.bind_eq_some_iff.mp h13
      clear h13
      refine wp_putV okX8 (k := 13) (by decide) rfl tw718 dX8_reads_59 rfl rfl e17 ?_
      refine wp_aload_n dX8_reads_62 rfl ?_
      refine wp_aload_n dX8_reads_63 rfl ?_
      obtain ⟨x18, e20, h19⟩ := Option.bind_eq_some_iff.mp h16
      clear h16
      refine wp_getI okX8 (k := 12) (by decide) tw717 dX8_reads_64 e20 ?_
      obtain ⟨q21, e23, h22⟩ := Option.bind_eq_some_iff.mp h19
      clear h19
      refine wp_Vi (As := [.int x18]) (S := []) okM_X8_letterAt tw801 twP_X8_letterAt tw799 (OX8_letterAt e23) rfl rfl rfl ⟨(Nat.le_of_ble_eq_true rfl), (Nat.le_of_ble_eq_true rfl)⟩ (Nat.le_of_ble_eq_true rfl) rfl dX8_reads_67 (MX8_letterAt e23) ?_
      refine wp_istore_n (L1 := [some (.ref l0), some (.int q21.1)]) dX8_reads_70 (Nat.le_of_ble_eq_true rfl) rfl ?_
      refine wp_aload_n dX8_reads_71 rfl ?_
      refine wp_dup dX8_reads_72 rfl ?_
      obtain ⟨x24, e26, h25⟩ := Option.bind_eq_some_iff.mp h22
      clear h22
      refine wp_getI okX8 (k := 12) (by decide) tw717 dX8_reads_73 e26 ?_
      refine wp_iconst (v := (1 : Int32)) dX8_reads_76 (by decide) ?_
      refine wp_iadd dX8_reads_77 ?_
      obtain ⟨w27, e29, h28⟩ := Option.bind_eq_some_iff.mp h25
      clear h25
      refine wp_putV okX8 (k := 12) (by decide) rfl tw717 dX8_reads_78 rfl rfl e29 ?_
      refine wp_iload_n dX8_reads_81 rfl ?_
      refine wp_bipush (v := (102 : Int32)) dX8_reads_82 (by decide) ?_
      refine wp_icmp_ne (tgt := 94) dX8_reads_84 (by decide) (fun c30 => ?_) (fun c30 => ?_)
      · rw [if_neg c30] at h28
        refine wp_iload_n dX8_reads_94 rfl ?_
        refine wp_bipush (v := (115 : Int32)) dX8_reads_95 (by decide) ?_
        refine wp_icmp_ne (tgt := 107) dX8_reads_97 (by decide) (fun c31 => ?_) (fun c31 => ?_)
        · rw [if_neg c31] at h28
          refine wp_aload_n dX8_reads_107 rfl ?_
          refine wp_iconst (v := (1 : Int32)) dX8_reads_108 (by decide) ?_
          obtain ⟨w32, e34, h33⟩ := Option.bind_eq_some_iff.mp h28
          clear h28
          refine wp_putV okX8 (k := 14) (by decide) rfl tw719 dX8_reads_109 rfl rfl e34 ?_
          exact WP.wk (BX8_reads_112 hk0 hk1 h33) (And.intro rfl trivial)
        · rw [if_pos c31] at h28
          refine wp_aload_n dX8_reads_100 rfl ?_
          obtain ⟨q35, e37, h36⟩ := Option.bind_eq_some_iff.mp h28
          clear h28
          refine wp_Vv (As := []) (S := []) okM_X8_start tw823 twP_X8_start tw821 (OX8_start e37) rfl rfl rfl ⟨(Nat.le_of_ble_eq_true rfl), (Nat.le_of_ble_eq_true rfl)⟩ (Nat.le_of_ble_eq_true rfl) rfl dX8_reads_101 (MX8_start e37) ?_
          refine wp_goto (tgt := 112) dX8_reads_104 (by decide) ?_
          exact WP.wk (BX8_reads_112 hk0 hk1 h36) (And.intro rfl trivial)
      · rw [if_pos c30] at h28
        refine wp_aload_n dX8_reads_87 rfl ?_
        obtain ⟨q38, e40, h39⟩ := Option.bind_eq_some_iff.mp h28
        clear h28
        refine wp_Vv (As := []) (S := []) okM_X8_fraction tw805 twP_X8_fraction tw803 (OX8_fraction e40) rfl rfl rfl ⟨(Nat.le_of_ble_eq_true rfl), (Nat.le_of_ble_eq_true rfl)⟩ (Nat.le_of_ble_eq_true rfl) rfl dX8_reads_88 (MX8_fraction e40) ?_
        refine wp_goto (tgt := 112) dX8_reads_91 (by decide) ?_
        exact WP.wk (BX8_reads_112 hk0 hk1 h39) (And.intro rfl trivial)
def hX8_reads_7 (k : KTX8_reads) (w : XW) (l0 : Nat) (l1 : Int32) : Option XW :=
  if (6 : Int32) ≤ l1 then
  (pV w l0 8 12 (.int (0 : Int32))).bind fun w2 =>
  (pV w2 l0 8 14 (.int (0 : Int32))).bind fun w5 =>
  k.2 w5 l0
  else
  (gR w l0 8 6).bind fun x8 =>
  (sI w 0 x8 l1 (0 : Int32)).bind fun w11 =>
  k.1 w11 l0 (l1 + (1 : Int32))
theorem HX8_reads_7 {K : CX} {l : Launch} {n0 k0 : Nat} {k : KTX8_reads} (hk0 : ∀ (w : XW) (l0 : Nat) (l1 : Int32) (q : XW), k.1 w l0 l1 = some q → WP K l mX8_reads 5 114 n0 k0 none q 7 [some (.ref l0), some (.int l1)] [] w) (hk1 : ∀ (w : XW) (l0 : Nat) (q : XW), k.2 w l0 = some q → WP K l mX8_reads 5 114 n0 k0 none q 36 [some (.ref l0), none] [] w) {w : XW} {l0 : Nat} {l1 : Int32} {q : XW} (h0 : hX8_reads_7 k w l0 l1 = some q) : WP K l mX8_reads 5 114 n0 k0 none q 7 [some (.ref l0), some (.int l1)] [] w := by
  unfold hX8_reads_7 at h0
  refine wp_iload_n dX8_reads_7 rfl ?_
  refine wp_bipush (v := (6 : Int32)) dX8_reads_8 (by decide) ?_
  refine wp_icmp_ge (tgt := 26) dX8_reads_10 (by decide) (fun c1 => ?_) (fun c1 => ?_)
  · rw [if_pos c1] at h0
    refine wp_aload_n dX8_reads_26 rfl ?_
    refine wp_iconst (v := (0 : Int32)) dX8_reads_27 (by decide) ?_
    obtain ⟨w2, e4, h3⟩ := Option.bind_eq_some_iff.mp h0
    clear h0
    refine wp_putV okX8 (k := 12) (by decide) rfl tw717 dX8_reads_28 rfl rfl e4 ?_
    refine wp_aload_n dX8_reads_31 rfl ?_
    refine wp_iconst (v := (0 : Int32)) dX8_reads_32 (by decide) ?_
    obtain ⟨w5, e7, h6⟩ := Option.bind_eq_some_iff.mp h3
    clear h3
    refine wp_putV okX8 (k := 14) (by decide) rfl tw719 dX8_reads_33 rfl rfl e7 ?_
    exact WP.wk (hk1 _ _ _ h6) (And.intro rfl trivial)
  · rw [if_neg c1] at h0
    refine wp_aload_n dX8_reads_13 rfl ?_
    obtain ⟨x8, e10, h9⟩ := Option.bind_eq_some_iff.mp h0
    clear h0
    refine wp_getR okX8 (k := 6) (by decide) tw711 dX8_reads_14 e10 ?_
    refine wp_iload_n dX8_reads_17 rfl ?_
    refine wp_iconst (v := (0 : Int32)) dX8_reads_18 (by decide) ?_
    obtain ⟨w11, e13, h12⟩ := Option.bind_eq_some_iff.mp h9
    clear h9
    refine wp_iast dX8_reads_19 e13 ?_
    refine wp_iinc (v := (l1 + (1 : Int32))) (L1 := [some (.ref l0), some (.int (l1 + (1 : Int32)))]) dX8_reads_20 (Nat.le_of_ble_eq_true rfl) rfl (congrArg (fun z => l1 + z) (by decide)) rfl ?_
    refine wp_goto (tgt := 7) dX8_reads_23 (by decide) ?_
    exact WP.wk (hk0 _ _ _ _ h12) (And.intro rfl (And.intro rfl trivial))
def eX8_reads (k : KTX8_reads) (w : XW) (l0 : Nat) : Option XW :=
  (pV w l0 8 3 (.int (0 : Int32))).bind fun w1 =>
  k.1 w1 l0 (0 : Int32)
theorem EX8_reads {K : CX} {l : Launch} {n0 k0 : Nat} {k : KTX8_reads} (hk0 : ∀ (w : XW) (l0 : Nat) (l1 : Int32) (q : XW), k.1 w l0 l1 = some q → WP K l mX8_reads 5 114 n0 k0 none q 7 [some (.ref l0), some (.int l1)] [] w) (hk1 : ∀ (w : XW) (l0 : Nat) (q : XW), k.2 w l0 = some q → WP K l mX8_reads 5 114 n0 k0 none q 36 [some (.ref l0), none] [] w) {w : XW} {l0 : Nat} {q : XW} (h0 : eX8_reads k w l0 = some q) : WP K l mX8_reads 5 114 n0 k0 none q 0 [some (.ref l0), none] [] w := by
  unfold eX8_reads at h0
  refine wp_aload_n dX8_reads_0 rfl ?_
  refine wp_iconst (v := (0 : Int32)) dX8_reads_1 (by decide) ?_
  obtain ⟨w1, e3, h2⟩ := Option.bind_eq_some_iff.mp h0
  clear h0
  refine wp_putV okX8 (k := 3) (by decide) rfl tw708 dX8_reads_2 rfl rfl e3 ?_
  refine wp_iconst (v := (0 : Int32)) dX8_reads_5 (by decide) ?_
  refine wp_istore_n (L1 := [some (.ref l0), some (.int (0 : Int32))]) dX8_reads_6 (Nat.le_of_ble_eq_true rfl) rfl ?_
  exact WP.wk (hk0 _ _ _ _ h2) (And.intro rfl (And.intro rfl trivial))
def loX8_reads : Nat → KTX8_reads
  | 0 => (fun _ _ _ => none, fun _ _ => none)
  | n + 1 => (hX8_reads_7 (loX8_reads n), hX8_reads_36 (loX8_reads n))
theorem LOX8_reads {K : CX} {l : Launch} {n0 k0 : Nat} : ∀ n : Nat, (∀ (w : XW) (l0 : Nat) (l1 : Int32) (q : XW), (loX8_reads n).1 w l0 l1 = some q → WP K l mX8_reads 5 114 n0 k0 none q 7 [some (.ref l0), some (.int l1)] [] w) ∧ (∀ (w : XW) (l0 : Nat) (q : XW), (loX8_reads n).2 w l0 = some q → WP K l mX8_reads 5 114 n0 k0 none q 36 [some (.ref l0), none] [] w) := by
  intro n
  induction n with
  | zero => exact ⟨fun _ _ _ q h => (by cases h), fun _ _ q h => (by cases h)⟩
  | succ n ih => exact ⟨fun _ _ _ q h => HX8_reads_7 ih.1 ih.2 h, fun _ _ q h => HX8_reads_36 ih.1 ih.2 h⟩
def fX8_reads (w : XW) (l0 : Nat) : Option XW := if isO w l0 8 = true then eX8_reads (loX8_reads FU) w l0 else none
theorem OX8_reads {w : XW} {l0 : Nat} {q : XW} (h : fX8_reads w l0 = some q) : isO w l0 8 = true := Decidable.byContradiction fun z => by unfold fX8_reads at h; rw [if_neg z] at h; cases h
theorem MX8_reads {K : CX} {l : Launch} {w : XW} {l0 : Nat} {q : XW} (h : fX8_reads w l0 = some q) : MT K l mX8_reads 5 114 [.ref l0] w none q := by
  have z := OX8_reads h
  unfold fX8_reads at h
  rw [if_pos z] at h
  exact MT.of (by decide) (Nat.le_of_ble_eq_true rfl) rfl (EX8_reads (LOX8_reads FU).1 (LOX8_reads FU).2 h)
/-! FractionRunModel.fault()I: frames 6, words 135 -/
abbrev mX8_fault : MR := (⟨"FractionRunModel", "fault", "()I"⟩, prog_10_method_18_code, 1, (some .int))
theorem dX8_fault_0 : decode prog_10_method_18_code 0 = .ok (.aload_n 0, 1) := by decide +kernel
theorem dX8_fault_1 : decode prog_10_method_18_code 1 = .ok (.invokevirtual 130, 3) := by decide +kernel
theorem dX8_fault_4 : decode prog_10_method_18_code 4 = .ok (.aload_n 0, 1) := by decide +kernel
theorem dX8_fault_5 : decode prog_10_method_18_code 5 = .ok (.getfield 105, 3) := by decide +kernel
theorem dX8_fault_8 : decode prog_10_method_18_code 8 = .ok (.ifCond .eq 10, 3) := by decide +kernel
theorem dX8_fault_11 : decode prog_10_method_18_code 11 = .ok (.aload_n 0, 1) := by decide +kernel
theorem dX8_fault_12 : decode prog_10_method_18_code 12 = .ok (.getfield 121, 3) := by decide +kernel
theorem dX8_fault_15 : decode prog_10_method_18_code 15 = .ok (.goto 5, 3) := by decide +kernel
theorem dX8_fault_18 : decode prog_10_method_18_code 18 = .ok (.bipush (-4), 2) := by decide +kernel
theorem dX8_fault_20 : decode prog_10_method_18_code 20 = .ok (.ireturn, 1) := by decide +kernel
theorem okM_X8_fault : okM mX8_fault 0 := ⟨tw794, tw15, by decide, by decide, by decide +kernel⟩
def bX8_fault_20 (w : XW) (s0 : Int32) : Option (Int32 × XW) :=
  some (s0, w)
theorem BX8_fault_20 {K : CX} {l : Launch} {n0 k0 : Nat} {w : XW} {s0 : Int32} {q : Int32 × XW} (h0 : bX8_fault_20 w s0 = some q) : WP K l mX8_fault 6 135 n0 k0 (some (.int q.1)) q.2 20 [none] [.int s0] w := by
  unfold bX8_fault_20 at h0
  cases h0
  exact wp_iret rfl dX8_fault_20
def eX8_fault (w : XW) (l0 : Nat) : Option (Int32 × XW) :=
  (fX8_reads w l0).bind fun q1 =>
  (gI q1 l0 8 14).bind fun x4 =>
  if x4 = 0 then
  bX8_fault_20 q1 (-4 : Int32)
  else
  (gI q1 l0 8 13).bind fun x8 =>
  bX8_fault_20 q1 x8
theorem EX8_fault {K : CX} {l : Launch} {n0 k0 : Nat} {w : XW} {l0 : Nat} {q : Int32 × XW} (h0 : eX8_fault w l0 = some q) : WP K l mX8_fault 6 135 n0 k0 (some (.int q.1)) q.2 0 [some (.ref l0)] [] w := by
  unfold eX8_fault at h0
  refine wp_aload_n dX8_fault_0 rfl ?_
  obtain ⟨q1, e3, h2⟩ := Option.bind_eq_some_iff.mp h0
  clear h0
  refine wp_Vv (As := []) (S := []) okM_X8_reads tw797 twP_X8_reads tw795 (OX8_reads e3) rfl rfl rfl ⟨(Nat.le_of_ble_eq_true rfl), (Nat.le_of_ble_eq_true rfl)⟩ (Nat.le_of_ble_eq_true rfl) rfl dX8_fault_1 (MX8_reads e3) ?_
  refine wp_aload_n dX8_fault_4 rfl ?_
  obtain ⟨x4, e6, h5⟩ := Option.bind_eq_some_iff.mp h2
  clear h2
  refine wp_getI okX8 (k := 14) (by decide) tw719 dX8_fault_5 e6 ?_
  refine wp_if_eq (tgt := 18) dX8_fault_8 (by decide) (fun c7 => ?_) (fun c7 => ?_)
  · rw [if_pos c7] at h5
    refine wp_bipush (v := (-4 : Int32)) dX8_fault_18 (by decide) ?_
    exact WP.wk (BX8_fault_20 h5) trivial
  · rw [if_neg c7] at h5
    refine wp_aload_n dX8_fault_11 rfl ?_
    obtain ⟨x8, e10, h9⟩ := Option.bind_eq_some_iff.mp h5
    clear h5
    refine wp_getI okX8 (k := 13) (by decide) tw718 dX8_fault_12 e10 ?_
    refine wp_goto (tgt := 20) dX8_fault_15 (by decide) ?_
    exact WP.wk (BX8_fault_20 h9) trivial
def fX8_fault (w : XW) (l0 : Nat) : Option (Int32 × XW) := if isO w l0 8 = true then eX8_fault w l0 else none
theorem OX8_fault {w : XW} {l0 : Nat} {q : Int32 × XW} (h : fX8_fault w l0 = some q) : isO w l0 8 = true := Decidable.byContradiction fun z => by unfold fX8_fault at h; rw [if_neg z] at h; cases h
theorem MX8_fault {K : CX} {l : Launch} {w : XW} {l0 : Nat} {q : Int32 × XW} (h : fX8_fault w l0 = some q) : MT K l mX8_fault 6 135 [.ref l0] w (some (.int q.1)) q.2 := by
  have z := OX8_fault h
  unfold fX8_fault at h
  rw [if_pos z] at h
  exact MT.of (by decide) (Nat.le_of_ble_eq_true rfl) rfl (EX8_fault h)
/-! FractionRun$Fractions.copyFrom(LFractionRun$Fractions;)V: frames 1, words 26 -/
abbrev mX1_copyFrom : MR := (⟨"FractionRun$Fractions", "copyFrom", "(LFractionRun$Fractions;)V"⟩, prog_3_method_5_code, 2, none)
theorem dX1_copyFrom_0 : decode prog_3_method_5_code 0 = .ok (.aload_n 1, 1) := by decide +kernel
theorem dX1_copyFrom_1 : decode prog_3_method_5_code 1 = .ok (.getfield 9, 3) := by decide +kernel
theorem dX1_copyFrom_4 : decode prog_3_method_5_code 4 = .ok (.iconst 0, 1) := by decide +kernel
theorem dX1_copyFrom_5 : decode prog_3_method_5_code 5 = .ok (.aload_n 0, 1) := by decide +kernel
theorem dX1_copyFrom_6 : decode prog_3_method_5_code 6 = .ok (.getfield 9, 3) := by decide +kernel
theorem dX1_copyFrom_9 : decode prog_3_method_5_code 9 = .ok (.iconst 0, 1) := by decide +kernel
theorem dX1_copyFrom_10 : decode prog_3_method_5_code 10 = .ok (.bipush 8, 2) := by decide +kernel
theorem dX1_copyFrom_12 : decode prog_3_method_5_code 12 = .ok (.invokestatic 45, 3) := by decide +kernel
theorem dX1_copyFrom_15 : decode prog_3_method_5_code 15 = .ok (.aload_n 1, 1) := by decide +kernel
theorem dX1_copyFrom_16 : decode prog_3_method_5_code 16 = .ok (.getfield 15, 3) := by decide +kernel
theorem dX1_copyFrom_19 : decode prog_3_method_5_code 19 = .ok (.iconst 0, 1) := by decide +kernel
theorem dX1_copyFrom_20 : decode prog_3_method_5_code 20 = .ok (.aload_n 0, 1) := by decide +kernel
theorem dX1_copyFrom_21 : decode prog_3_method_5_code 21 = .ok (.getfield 15, 3) := by decide +kernel
theorem dX1_copyFrom_24 : decode prog_3_method_5_code 24 = .ok (.iconst 0, 1) := by decide +kernel
theorem dX1_copyFrom_25 : decode prog_3_method_5_code 25 = .ok (.bipush 8, 2) := by decide +kernel
theorem dX1_copyFrom_27 : decode prog_3_method_5_code 27 = .ok (.invokestatic 45, 3) := by decide +kernel
theorem dX1_copyFrom_30 : decode prog_3_method_5_code 30 = .ok (.aload_n 1, 1) := by decide +kernel
theorem dX1_copyFrom_31 : decode prog_3_method_5_code 31 = .ok (.getfield 18, 3) := by decide +kernel
theorem dX1_copyFrom_34 : decode prog_3_method_5_code 34 = .ok (.iconst 0, 1) := by decide +kernel
theorem dX1_copyFrom_35 : decode prog_3_method_5_code 35 = .ok (.aload_n 0, 1) := by decide +kernel
theorem dX1_copyFrom_36 : decode prog_3_method_5_code 36 = .ok (.getfield 18, 3) := by decide +kernel
theorem dX1_copyFrom_39 : decode prog_3_method_5_code 39 = .ok (.iconst 0, 1) := by decide +kernel
theorem dX1_copyFrom_40 : decode prog_3_method_5_code 40 = .ok (.bipush 8, 2) := by decide +kernel
theorem dX1_copyFrom_42 : decode prog_3_method_5_code 42 = .ok (.invokestatic 45, 3) := by decide +kernel
theorem dX1_copyFrom_45 : decode prog_3_method_5_code 45 = .ok (.aload_n 1, 1) := by decide +kernel
theorem dX1_copyFrom_46 : decode prog_3_method_5_code 46 = .ok (.getfield 21, 3) := by decide +kernel
theorem dX1_copyFrom_49 : decode prog_3_method_5_code 49 = .ok (.iconst 0, 1) := by decide +kernel
theorem dX1_copyFrom_50 : decode prog_3_method_5_code 50 = .ok (.aload_n 0, 1) := by decide +kernel
theorem dX1_copyFrom_51 : decode prog_3_method_5_code 51 = .ok (.getfield 21, 3) := by decide +kernel
theorem dX1_copyFrom_54 : decode prog_3_method_5_code 54 = .ok (.iconst 0, 1) := by decide +kernel
theorem dX1_copyFrom_55 : decode prog_3_method_5_code 55 = .ok (.bipush 48, 2) := by decide +kernel
theorem dX1_copyFrom_57 : decode prog_3_method_5_code 57 = .ok (.invokestatic 45, 3) := by decide +kernel
theorem dX1_copyFrom_60 : decode prog_3_method_5_code 60 = .ok (.aload_n 1, 1) := by decide +kernel
theorem dX1_copyFrom_61 : decode prog_3_method_5_code 61 = .ok (.getfield 24, 3) := by decide +kernel
theorem dX1_copyFrom_64 : decode prog_3_method_5_code 64 = .ok (.iconst 0, 1) := by decide +kernel
theorem dX1_copyFrom_65 : decode prog_3_method_5_code 65 = .ok (.aload_n 0, 1) := by decide +kernel
theorem dX1_copyFrom_66 : decode prog_3_method_5_code 66 = .ok (.getfield 24, 3) := by decide +kernel
theorem dX1_copyFrom_69 : decode prog_3_method_5_code 69 = .ok (.iconst 0, 1) := by decide +kernel
theorem dX1_copyFrom_70 : decode prog_3_method_5_code 70 = .ok (.bipush 6, 2) := by decide +kernel
theorem dX1_copyFrom_72 : decode prog_3_method_5_code 72 = .ok (.invokestatic 45, 3) := by decide +kernel
theorem dX1_copyFrom_75 : decode prog_3_method_5_code 75 = .ok (.aload_n 0, 1) := by decide +kernel
theorem dX1_copyFrom_76 : decode prog_3_method_5_code 76 = .ok (.aload_n 1, 1) := by decide +kernel
theorem dX1_copyFrom_77 : decode prog_3_method_5_code 77 = .ok (.getfield 27, 3) := by decide +kernel
theorem dX1_copyFrom_80 : decode prog_3_method_5_code 80 = .ok (.putfield 27, 3) := by decide +kernel
theorem dX1_copyFrom_83 : decode prog_3_method_5_code 83 = .ok (.return_, 1) := by decide +kernel
theorem okM_X1_copyFrom : okM mX1_copyFrom 1 := ⟨tw364, tw4, by decide, by decide, by decide +kernel⟩
def eX1_copyFrom (w : XW) (l0 : Nat) (l1 : Nat) : Option XW :=
  (gR w l1 1 0).bind fun x1 =>
  (gR w l0 1 0).bind fun x4 =>
  (cpI w 0 x1 (0 : Int32) x4 (0 : Int32) (8 : Int32)).bind fun w7 =>
  (gR w7 l1 1 1).bind fun x10 =>
  (gR w7 l0 1 1).bind fun x13 =>
  (cpI w7 0 x10 (0 : Int32) x13 (0 : Int32) (8 : Int32)).bind fun w16 =>
  (gR w16 l1 1 2).bind fun x19 =>
  (gR w16 l0 1 2).bind fun x22 =>
  (cpI w16 0 x19 (0 : Int32) x22 (0 : Int32) (8 : Int32)).bind fun w25 =>
  (gR w25 l1 1 3).bind fun x28 =>
  (gR w25 l0 1 3).bind fun x31 =>
  (cpI w25 0 x28 (0 : Int32) x31 (0 : Int32) (48 : Int32)).bind fun w34 =>
  (gR w34 l1 1 4).bind fun x37 =>
  (gR w34 l0 1 4).bind fun x40 =>
  (cpI w34 0 x37 (0 : Int32) x40 (0 : Int32) (6 : Int32)).bind fun w43 =>
  (gI w43 l1 1 5).bind fun x46 =>
  (pV w43 l0 1 5 (.int x46)).bind fun w49 =>
  some w49
theorem EX1_copyFrom {K : CX} {l : Launch} {n0 k0 : Nat} {w : XW} {l0 : Nat} {l1 : Nat} {q : XW} (h0 : eX1_copyFrom w l0 l1 = some q) : WP K l mX1_copyFrom 1 26 n0 k0 none q 0 [some (.ref l0), some (.ref l1)] [] w := by
  unfold eX1_copyFrom at h0
  refine wp_aload_n dX1_copyFrom_0 rfl ?_
  obtain ⟨x1, e3, h2⟩ := Option.bind_eq_some_iff.mp h0
  clear h0
  refine wp_getR okX1 (k := 0) (by decide) tw58 dX1_copyFrom_1 e3 ?_
  refine wp_iconst (v := (0 : Int32)) dX1_copyFrom_4 (by decide) ?_
  refine wp_aload_n dX1_copyFrom_5 rfl ?_
  obtain ⟨x4, e6, h5⟩ := Option.bind_eq_some_iff.mp h2
  clear h2
  refine wp_getR okX1 (k := 0) (by decide) tw58 dX1_copyFrom_6 e6 ?_
  refine wp_iconst (v := (0 : Int32)) dX1_copyFrom_9 (by decide) ?_
  refine wp_bipush (v := (8 : Int32)) dX1_copyFrom_10 (by decide) ?_
  obtain ⟨w7, e9, h8⟩ := Option.bind_eq_some_iff.mp h5
  clear h5
  refine wp_copy (t := 0) rfl (Or.inl rfl) tw365 tw293 tw292 tw14 ⟨(Nat.le_of_ble_eq_true rfl), (Nat.le_of_ble_eq_true rfl)⟩ rfl dX1_copyFrom_12 e9 ?_
  refine wp_aload_n dX1_copyFrom_15 rfl ?_
  obtain ⟨x10, e12, h11⟩ := Option.bind_eq_some_iff.mp h8
  clear h8
  refine wp_getR okX1 (k := 1) (by decide) tw61 dX1_copyFrom_16 e12 ?_
  refine wp_iconst (v := (0 : Int32)) dX1_copyFrom_19 (by decide) ?_
  refine wp_aload_n dX1_copyFrom_20 rfl ?_
  obtain ⟨x13, e15, h14⟩ := Option.bind_eq_some_iff.mp h11
  clear h11
  refine wp_getR okX1 (k := 1) (by decide) tw61 dX1_copyFrom_21 e15 ?_
  refine wp_iconst (v := (0 : Int32)) dX1_copyFrom_24 (by decide) ?_
  refine wp_bipush (v := (8 : Int32)) dX1_copyFrom_25 (by decide) ?_
  obtain ⟨w16, e18, h17⟩ := Option.bind_eq_some_iff.mp h14
  clear h14
  refine wp_copy (t := 0) rfl (Or.inl rfl) tw365 tw293 tw292 tw14 ⟨(Nat.le_of_ble_eq_true rfl), (Nat.le_of_ble_eq_true rfl)⟩ rfl dX1_copyFrom_27 e18 ?_
  refine wp_aload_n dX1_copyFrom_30 rfl ?_
  obtain ⟨x19, e21, h20⟩ := Option.bind_eq_some_iff.mp h17
  clear h17
  refine wp_getR okX1 (k := 2) (by decide) tw63 dX1_copyFrom_31 e21 ?_
  refine wp_iconst (v := (0 : Int32)) dX1_copyFrom_34 (by decide) ?_
  refine wp_aload_n dX1_copyFrom_35 rfl ?_
  obtain ⟨x22, e24, h23⟩ := Option.bind_eq_some_iff.mp h20
  clear h20
  refine wp_getR okX1 (k := 2) (by decide) tw63 dX1_copyFrom_36 e24 ?_
  refine wp_iconst (v := (0 : Int32)) dX1_copyFrom_39 (by decide) ?_
  refine wp_bipush (v := (8 : Int32)) dX1_copyFrom_40 (by decide) ?_
  obtain ⟨w25, e27, h26⟩ := Option.bind_eq_some_iff.mp h23
  clear h23
  refine wp_copy (t := 0) rfl (Or.inl rfl) tw365 tw293 tw292 tw14 ⟨(Nat.le_of_ble_eq_true rfl), (Nat.le_of_ble_eq_true rfl)⟩ rfl dX1_copyFrom_42 e27 ?_
  refine wp_aload_n dX1_copyFrom_45 rfl ?_
  obtain ⟨x28, e30, h29⟩ := Option.bind_eq_some_iff.mp h26
  clear h26
  refine wp_getR okX1 (k := 3) (by decide) tw65 dX1_copyFrom_46 e30 ?_
  refine wp_iconst (v := (0 : Int32)) dX1_copyFrom_49 (by decide) ?_
  refine wp_aload_n dX1_copyFrom_50 rfl ?_
  obtain ⟨x31, e33, h32⟩ := Option.bind_eq_some_iff.mp h29
  clear h29
  refine wp_getR okX1 (k := 3) (by decide) tw65 dX1_copyFrom_51 e33 ?_
  refine wp_iconst (v := (0 : Int32)) dX1_copyFrom_54 (by decide) ?_
  refine wp_bipush (v := (48 : Int32)) dX1_copyFrom_55 (by decide) ?_
  obtain ⟨w34, e36, h35⟩ := Option.bind_eq_some_iff.mp h32
  clear h32
  refine wp_copy (t := 0) rfl (Or.inl rfl) tw365 tw293 tw292 tw14 ⟨(Nat.le_of_ble_eq_true rfl), (Nat.le_of_ble_eq_true rfl)⟩ rfl dX1_copyFrom_57 e36 ?_
  refine wp_aload_n dX1_copyFrom_60 rfl ?_
  obtain ⟨x37, e39, h38⟩ := Option.bind_eq_some_iff.mp h35
  clear h35
  refine wp_getR okX1 (k := 4) (by decide) tw68 dX1_copyFrom_61 e39 ?_
  refine wp_iconst (v := (0 : Int32)) dX1_copyFrom_64 (by decide) ?_
  refine wp_aload_n dX1_copyFrom_65 rfl ?_
  obtain ⟨x40, e42, h41⟩ := Option.bind_eq_some_iff.mp h38
  clear h38
  refine wp_getR okX1 (k := 4) (by decide) tw68 dX1_copyFrom_66 e42 ?_
  refine wp_iconst (v := (0 : Int32)) dX1_copyFrom_69 (by decide) ?_
  refine wp_bipush (v := (6 : Int32)) dX1_copyFrom_70 (by decide) ?_
  obtain ⟨w43, e45, h44⟩ := Option.bind_eq_some_iff.mp h41
  clear h41
  refine wp_copy (t := 0) rfl (Or.inl rfl) tw365 tw293 tw292 tw14 ⟨(Nat.le_of_ble_eq_true rfl), (Nat.le_of_ble_eq_true rfl)⟩ rfl dX1_copyFrom_72 e45 ?_
  refine wp_aload_n dX1_copyFrom_75 rfl ?_
  refine wp_aload_n dX1_copyFrom_76 rfl ?_
  obtain ⟨x46, e48, h47⟩ := Option.bind_eq_some_iff.mp h44
  clear h44
  refine wp_getI okX1 (k := 5) (by decide) tw70 dX1_copyFrom_77 e48 ?_
  obtain ⟨w49, e51, h50⟩ := Option.bind_eq_some_iff.mp h47
  clear h47
  refine wp_putV okX1 (k := 5) (by decide) rfl tw70 dX1_copyFrom_80 rfl rfl e51 ?_
  cases h50
  exact wp_vret rfl dX1_copyFrom_83
def fX1_copyFrom (w : XW) (l0 : Nat) (l1 : Nat) : Option XW := if isO w l0 1 = true then eX1_copyFrom w l0 l1 else none
theorem OX1_copyFrom {w : XW} {l0 : Nat} {l1 : Nat} {q : XW} (h : fX1_copyFrom w l0 l1 = some q) : isO w l0 1 = true := Decidable.byContradiction fun z => by unfold fX1_copyFrom at h; rw [if_neg z] at h; cases h
theorem MX1_copyFrom {K : CX} {l : Launch} {w : XW} {l0 : Nat} {l1 : Nat} {q : XW} (h : fX1_copyFrom w l0 l1 = some q) : MT K l mX1_copyFrom 1 26 [.ref l0, .ref l1] w none q := by
  have z := OX1_copyFrom h
  unfold fX1_copyFrom at h
  rw [if_pos z] at h
  exact MT.of (by decide) (Nat.le_of_ble_eq_true rfl) rfl (EX1_copyFrom h)
/-! FractionRun$Past.clear()V: frames 1, words 20 -/
abbrev mX3_clear : MR := (⟨"FractionRun$Past", "clear", "()V"⟩, prog_5_method_2_code, 1, none)
theorem dX3_clear_0 : decode prog_5_method_2_code 0 = .ok (.aload_n 0, 1) := by decide +kernel
theorem dX3_clear_1 : decode prog_5_method_2_code 1 = .ok (.iconst 0, 1) := by decide +kernel
theorem dX3_clear_2 : decode prog_5_method_2_code 2 = .ok (.putfield 18, 3) := by decide +kernel
theorem dX3_clear_5 : decode prog_5_method_2_code 5 = .ok (.return_, 1) := by decide +kernel
theorem okM_X3_clear : okM mX3_clear 0 := ⟨tw369, tw6, by decide, by decide, by decide +kernel⟩
def eX3_clear (w : XW) (l0 : Nat) : Option XW :=
  (pV w l0 3 2 (.int (0 : Int32))).bind fun w1 =>
  some w1
theorem EX3_clear {K : CX} {l : Launch} {n0 k0 : Nat} {w : XW} {l0 : Nat} {q : XW} (h0 : eX3_clear w l0 = some q) : WP K l mX3_clear 1 20 n0 k0 none q 0 [some (.ref l0)] [] w := by
  unfold eX3_clear at h0
  refine wp_aload_n dX3_clear_0 rfl ?_
  refine wp_iconst (v := (0 : Int32)) dX3_clear_1 (by decide) ?_
  obtain ⟨w1, e3, h2⟩ := Option.bind_eq_some_iff.mp h0
  clear h0
  refine wp_putV okX3 (k := 2) (by decide) rfl tw135 dX3_clear_2 rfl rfl e3 ?_
  cases h2
  exact wp_vret rfl dX3_clear_5
def fX3_clear (w : XW) (l0 : Nat) : Option XW := if isO w l0 3 = true then eX3_clear w l0 else none
theorem OX3_clear {w : XW} {l0 : Nat} {q : XW} (h : fX3_clear w l0 = some q) : isO w l0 3 = true := Decidable.byContradiction fun z => by unfold fX3_clear at h; rw [if_neg z] at h; cases h
theorem MX3_clear {K : CX} {l : Launch} {w : XW} {l0 : Nat} {q : XW} (h : fX3_clear w l0 = some q) : MT K l mX3_clear 1 20 [.ref l0] w none q := by
  have z := OX3_clear h
  unfold fX3_clear at h
  rw [if_pos z] at h
  exact MT.of (by decide) (Nat.le_of_ble_eq_true rfl) rfl (EX3_clear h)
/-! FractionRun$Kept.clear()V: frames 1, words 20 -/
abbrev mX2_clear : MR := (⟨"FractionRun$Kept", "clear", "()V"⟩, prog_4_method_2_code, 1, none)
theorem dX2_clear_0 : decode prog_4_method_2_code 0 = .ok (.aload_n 0, 1) := by decide +kernel
theorem dX2_clear_1 : decode prog_4_method_2_code 1 = .ok (.iconst 0, 1) := by decide +kernel
theorem dX2_clear_2 : decode prog_4_method_2_code 2 = .ok (.putfield 25, 3) := by decide +kernel
theorem dX2_clear_5 : decode prog_4_method_2_code 5 = .ok (.return_, 1) := by decide +kernel
theorem okM_X2_clear : okM mX2_clear 0 := ⟨tw373, tw7, by decide, by decide, by decide +kernel⟩
def eX2_clear (w : XW) (l0 : Nat) : Option XW :=
  (pV w l0 2 2 (.int (0 : Int32))).bind fun w1 =>
  some w1
theorem EX2_clear {K : CX} {l : Launch} {n0 k0 : Nat} {w : XW} {l0 : Nat} {q : XW} (h0 : eX2_clear w l0 = some q) : WP K l mX2_clear 1 20 n0 k0 none q 0 [some (.ref l0)] [] w := by
  unfold eX2_clear at h0
  refine wp_aload_n dX2_clear_0 rfl ?_
  refine wp_iconst (v := (0 : Int32)) dX2_clear_1 (by decide) ?_
  obtain ⟨w1, e3, h2⟩ := Option.bind_eq_some_iff.mp h0
  clear h0
  refine wp_putV okX2 (k := 2) (by decide) rfl tw157 dX2_clear_2 rfl rfl e3 ?_
  cases h2
  exact wp_vret rfl dX2_clear_5
def fX2_clear (w : XW) (l0 : Nat) : Option XW := if isO w l0 2 = true then eX2_clear w l0 else none
theorem OX2_clear {w : XW} {l0 : Nat} {q : XW} (h : fX2_clear w l0 = some q) : isO w l0 2 = true := Decidable.byContradiction fun z => by unfold fX2_clear at h; rw [if_neg z] at h; cases h
theorem MX2_clear {K : CX} {l : Launch} {w : XW} {l0 : Nat} {q : XW} (h : fX2_clear w l0 = some q) : MT K l mX2_clear 1 20 [.ref l0] w none q := by
  have z := OX2_clear h
  unfold fX2_clear at h
  rw [if_pos z] at h
  exact MT.of (by decide) (Nat.le_of_ble_eq_true rfl) rfl (EX2_clear h)
/-! FractionRun.lay()I: frames 6, words 144 -/
abbrev mX7_lay : MR := (⟨"FractionRun", "lay", "()I"⟩, prog_1_method_5_code, 1, (some .int))
theorem dX7_lay_0 : decode prog_1_method_5_code 0 = .ok (.aload_n 0, 1) := by decide +kernel
theorem dX7_lay_1 : decode prog_1_method_5_code 1 = .ok (.getfield 19, 3) := by decide +kernel
theorem dX7_lay_4 : decode prog_1_method_5_code 4 = .ok (.aload_n 0, 1) := by decide +kernel
theorem dX7_lay_5 : decode prog_1_method_5_code 5 = .ok (.getfield 10, 3) := by decide +kernel
theorem dX7_lay_8 : decode prog_1_method_5_code 8 = .ok (.aload_n 0, 1) := by decide +kernel
theorem dX7_lay_9 : decode prog_1_method_5_code 9 = .ok (.getfield 30, 3) := by decide +kernel
theorem dX7_lay_12 : decode prog_1_method_5_code 12 = .ok (.invokevirtual 96, 3) := by decide +kernel
theorem dX7_lay_15 : decode prog_1_method_5_code 15 = .ok (.bipush (-4), 2) := by decide +kernel
theorem dX7_lay_17 : decode prog_1_method_5_code 17 = .ok (.if_icmp .ne 13, 3) := by decide +kernel
theorem dX7_lay_20 : decode prog_1_method_5_code 20 = .ok (.aload_n 0, 1) := by decide +kernel
theorem dX7_lay_21 : decode prog_1_method_5_code 21 = .ok (.getfield 30, 3) := by decide +kernel
theorem dX7_lay_24 : decode prog_1_method_5_code 24 = .ok (.getfield 111, 3) := by decide +kernel
theorem dX7_lay_27 : decode prog_1_method_5_code 27 = .ok (.ifCond .ne 6, 3) := by decide +kernel
theorem dX7_lay_30 : decode prog_1_method_5_code 30 = .ok (.bipush (-2), 2) := by decide +kernel
theorem dX7_lay_32 : decode prog_1_method_5_code 32 = .ok (.ireturn, 1) := by decide +kernel
theorem dX7_lay_33 : decode prog_1_method_5_code 33 = .ok (.aload_n 0, 1) := by decide +kernel
theorem dX7_lay_34 : decode prog_1_method_5_code 34 = .ok (.getfield 26, 3) := by decide +kernel
theorem dX7_lay_37 : decode prog_1_method_5_code 37 = .ok (.aload_n 0, 1) := by decide +kernel
theorem dX7_lay_38 : decode prog_1_method_5_code 38 = .ok (.getfield 30, 3) := by decide +kernel
theorem dX7_lay_41 : decode prog_1_method_5_code 41 = .ok (.invokevirtual 112, 3) := by decide +kernel
theorem dX7_lay_44 : decode prog_1_method_5_code 44 = .ok (.aload_n 0, 1) := by decide +kernel
theorem dX7_lay_45 : decode prog_1_method_5_code 45 = .ok (.getfield 36, 3) := by decide +kernel
theorem dX7_lay_48 : decode prog_1_method_5_code 48 = .ok (.aload_n 0, 1) := by decide +kernel
theorem dX7_lay_49 : decode prog_1_method_5_code 49 = .ok (.getfield 26, 3) := by decide +kernel
theorem dX7_lay_52 : decode prog_1_method_5_code 52 = .ok (.invokevirtual 103, 3) := by decide +kernel
theorem dX7_lay_55 : decode prog_1_method_5_code 55 = .ok (.aload_n 0, 1) := by decide +kernel
theorem dX7_lay_56 : decode prog_1_method_5_code 56 = .ok (.getfield 49, 3) := by decide +kernel
theorem dX7_lay_59 : decode prog_1_method_5_code 59 = .ok (.invokevirtual 115, 3) := by decide +kernel
theorem dX7_lay_62 : decode prog_1_method_5_code 62 = .ok (.aload_n 0, 1) := by decide +kernel
theorem dX7_lay_63 : decode prog_1_method_5_code 63 = .ok (.getfield 56, 3) := by decide +kernel
theorem dX7_lay_66 : decode prog_1_method_5_code 66 = .ok (.invokevirtual 116, 3) := by decide +kernel
theorem dX7_lay_69 : decode prog_1_method_5_code 69 = .ok (.aload_n 0, 1) := by decide +kernel
theorem dX7_lay_70 : decode prog_1_method_5_code 70 = .ok (.iconst 0, 1) := by decide +kernel
theorem dX7_lay_71 : decode prog_1_method_5_code 71 = .ok (.putfield 117, 3) := by decide +kernel
theorem dX7_lay_74 : decode prog_1_method_5_code 74 = .ok (.aload_n 0, 1) := by decide +kernel
theorem dX7_lay_75 : decode prog_1_method_5_code 75 = .ok (.getfield 26, 3) := by decide +kernel
theorem dX7_lay_78 : decode prog_1_method_5_code 78 = .ok (.getfield 111, 3) := by decide +kernel
theorem dX7_lay_81 : decode prog_1_method_5_code 81 = .ok (.ireturn, 1) := by decide +kernel
theorem okM_X7_lay : okM mX7_lay 0 := ⟨tw360, tw1, by decide, by decide, by decide +kernel⟩
def bX7_lay_30 (w : XW) : Option (Int32 × XW) :=
  some ((-2 : Int32), w)
theorem BX7_lay_30 {K : CX} {l : Launch} {n0 k0 : Nat} {w : XW} {q : Int32 × XW} (h0 : bX7_lay_30 w = some q) : WP K l mX7_lay 6 144 n0 k0 (some (.int q.1)) q.2 30 [none] [] w := by
  unfold bX7_lay_30 at h0
  refine wp_bipush (v := (-2 : Int32)) dX7_lay_30 (by decide) ?_
  cases h0
  exact wp_iret rfl dX7_lay_32
def eX7_lay (w : XW) (l0 : Nat) : Option (Int32 × XW) :=
  (gR w l0 7 1).bind fun x1 =>
  (gR w l0 7 0).bind fun x4 =>
  (gR w l0 7 3).bind fun x7 =>
  (fX4_read w x1 x4 x7).bind fun q10 =>
  if q10.1 = (-4 : Int32) then
  (gR q10.2 l0 7 3).bind fun x14 =>
  (gI q10.2 x14 1 5).bind fun x17 =>
  if x17 = 0 then
  bX7_lay_30 q10.2
  else
  (gR q10.2 l0 7 2).bind fun x21 =>
  (gR q10.2 l0 7 3).bind fun x24 =>
  (fX1_copyFrom q10.2 x21 x24).bind fun q27 =>
  (gR q27 l0 7 4).bind fun x30 =>
  (gR q27 l0 7 2).bind fun x33 =>
  (fX5_begin q27 x30 x33).bind fun q36 =>
  (gR q36 l0 7 7).bind fun x39 =>
  (fX3_clear q36 x39).bind fun q42 =>
  (gR q42 l0 7 8).bind fun x45 =>
  (fX2_clear q42 x45).bind fun q48 =>
  (pV q48 l0 7 11 (.int (0 : Int32))).bind fun w51 =>
  (gR w51 l0 7 2).bind fun x54 =>
  (gI w51 x54 1 5).bind fun x57 =>
  some (x57, w51)
  else
  bX7_lay_30 q10.2
theorem EX7_lay {K : CX} {l : Launch} {n0 k0 : Nat} {w : XW} {l0 : Nat} {q : Int32 × XW} (h0 : eX7_lay w l0 = some q) : WP K l mX7_lay 6 144 n0 k0 (some (.int q.1)) q.2 0 [some (.ref l0)] [] w := by
  unfold eX7_lay at h0
  refine wp_aload_n dX7_lay_0 rfl ?_
  obtain ⟨x1, e3, h2⟩ := Option.bind_eq_some_iff.mp h0
  clear h0
  refine wp_getR okX7 (k := 1) (by decide) tw299 dX7_lay_1 e3 ?_
  refine wp_aload_n dX7_lay_4 rfl ?_
  obtain ⟨x4, e6, h5⟩ := Option.bind_eq_some_iff.mp h2
  clear h2
  refine wp_getR okX7 (k := 0) (by decide) tw298 dX7_lay_5 e6 ?_
  refine wp_aload_n dX7_lay_8 rfl ?_
  obtain ⟨x7, e9, h8⟩ := Option.bind_eq_some_iff.mp h5
  clear h5
  refine wp_getR okX7 (k := 3) (by decide) tw301 dX7_lay_9 e9 ?_
  obtain ⟨q10, e12, h11⟩ := Option.bind_eq_some_iff.mp h8
  clear h8
  refine wp_Vi (As := [.ref x4, .ref x7]) (S := []) okM_X4_read tw234 tw235 tw233 (OX4_read e12) rfl rfl rfl ⟨(Nat.le_of_ble_eq_true rfl), (Nat.le_of_ble_eq_true rfl)⟩ (Nat.le_of_ble_eq_true rfl) rfl dX7_lay_12 (MX4_read e12) ?_
  refine wp_bipush (v := (-4 : Int32)) dX7_lay_15 (by decide) ?_
  refine wp_icmp_ne (tgt := 30) dX7_lay_17 (by decide) (fun c13 => ?_) (fun c13 => ?_)
  · rw [if_neg c13] at h11
    exact WP.wk (BX7_lay_30 h11) trivial
  · rw [if_pos c13] at h11
    refine wp_aload_n dX7_lay_20 rfl ?_
    obtain ⟨x14, e16, h15⟩ := Option.bind_eq_some_iff.mp h11
    clear h11
    refine wp_getR okX7 (k := 3) (by decide) tw301 dX7_lay_21 e16 ?_
    obtain ⟨x17, e19, h18⟩ := Option.bind_eq_some_iff.mp h15
    clear h15
    refine wp_getI okX1 (k := 5) (by decide) tw72 dX7_lay_24 e19 ?_
    refine wp_if_ne (tgt := 33) dX7_lay_27 (by decide) (fun c20 => ?_) (fun c20 => ?_)
    · rw [if_neg c20] at h18
      refine wp_aload_n dX7_lay_33 rfl ?_
      obtain ⟨x21, e23, h22⟩ := Option.bind_eq_some_iff.mp h18
      clear h18
      refine wp_getR okX7 (k := 2) (by decide) tw300 dX7_lay_34 e23 ?_
      refine wp_aload_n dX7_lay_37 rfl ?_
      obtain ⟨x24, e26, h25⟩ := Option.bind_eq_some_iff.mp h22
      clear h22
      refine wp_getR okX7 (k := 3) (by decide) tw301 dX7_lay_38 e26 ?_
      obtain ⟨q27, e29, h28⟩ := Option.bind_eq_some_iff.mp h25
      clear h25
      refine wp_Vv (As := [.ref x24]) (S := []) okM_X1_copyFrom tw362 tw363 tw361 (OX1_copyFrom e29) rfl rfl rfl ⟨(Nat.le_of_ble_eq_true rfl), (Nat.le_of_ble_eq_true rfl)⟩ (Nat.le_of_ble_eq_true rfl) rfl dX7_lay_41 (MX1_copyFrom e29) ?_
      refine wp_aload_n dX7_lay_44 rfl ?_
      obtain ⟨x30, e32, h31⟩ := Option.bind_eq_some_iff.mp h28
      clear h28
      refine wp_getR okX7 (k := 4) (by decide) tw302 dX7_lay_45 e32 ?_
      refine wp_aload_n dX7_lay_48 rfl ?_
      obtain ⟨x33, e35, h34⟩ := Option.bind_eq_some_iff.mp h31
      clear h31
      refine wp_getR okX7 (k := 2) (by decide) tw300 dX7_lay_49 e35 ?_
      obtain ⟨q36, e38, h37⟩ := Option.bind_eq_some_iff.mp h34
      clear h34
      refine wp_Vv (As := [.ref x33]) (S := []) okM_X5_begin tw288 tw289 tw287 (OX5_begin e38) rfl rfl rfl ⟨(Nat.le_of_ble_eq_true rfl), (Nat.le_of_ble_eq_true rfl)⟩ (Nat.le_of_ble_eq_true rfl) rfl dX7_lay_52 (MX5_begin e38) ?_
      refine wp_aload_n dX7_lay_55 rfl ?_
      obtain ⟨x39, e41, h40⟩ := Option.bind_eq_some_iff.mp h37
      clear h37
      refine wp_getR okX7 (k := 7) (by decide) tw305 dX7_lay_56 e41 ?_
      obtain ⟨q42, e44, h43⟩ := Option.bind_eq_some_iff.mp h40
      clear h40
      refine wp_Vv (As := []) (S := []) okM_X3_clear tw367 tw368 tw366 (OX3_clear e44) rfl rfl rfl ⟨(Nat.le_of_ble_eq_true rfl), (Nat.le_of_ble_eq_true rfl)⟩ (Nat.le_of_ble_eq_true rfl) rfl dX7_lay_59 (MX3_clear e44) ?_
      refine wp_aload_n dX7_lay_62 rfl ?_
      obtain ⟨x45, e47, h46⟩ := Option.bind_eq_some_iff.mp h43
      clear h43
      refine wp_getR okX7 (k := 8) (by decide) tw306 dX7_lay_63 e47 ?_
      obtain ⟨q48, e50, h49⟩ := Option.bind_eq_some_iff.mp h46
      clear h46
      refine wp_Vv (As := []) (S := []) okM_X2_clear tw371 tw372 tw370 (OX2_clear e50) rfl rfl rfl ⟨(Nat.le_of_ble_eq_true rfl), (Nat.le_of_ble_eq_true rfl)⟩ (Nat.le_of_ble_eq_true rfl) rfl dX7_lay_66 (MX2_clear e50) ?_
      refine wp_aload_n dX7_lay_69 rfl ?_
      refine wp_iconst (v := (0 : Int32)) dX7_lay_70 (by decide) ?_
      obtain ⟨w51, e53, h52⟩ := Option.bind_eq_some_iff.mp h49
      clear h49
      refine wp_putV okX7 (k := 11) (by decide) rfl tw309 dX7_lay_71 rfl rfl e53 ?_
      refine wp_aload_n dX7_lay_74 rfl ?_
      obtain ⟨x54, e56, h55⟩ := Option.bind_eq_some_iff.mp h52
      clear h52
      refine wp_getR okX7 (k := 2) (by decide) tw300 dX7_lay_75 e56 ?_
      obtain ⟨x57, e59, h58⟩ := Option.bind_eq_some_iff.mp h55
      clear h55
      refine wp_getI okX1 (k := 5) (by decide) tw72 dX7_lay_78 e59 ?_
      cases h58
      exact wp_iret rfl dX7_lay_81
    · rw [if_pos c20] at h18
      exact WP.wk (BX7_lay_30 h18) trivial
def fX7_lay (w : XW) (l0 : Nat) : Option (Int32 × XW) := if isO w l0 7 = true then eX7_lay w l0 else none
theorem OX7_lay {w : XW} {l0 : Nat} {q : Int32 × XW} (h : fX7_lay w l0 = some q) : isO w l0 7 = true := Decidable.byContradiction fun z => by unfold fX7_lay at h; rw [if_neg z] at h; cases h
theorem MX7_lay {K : CX} {l : Launch} {w : XW} {l0 : Nat} {q : Int32 × XW} (h : fX7_lay w l0 = some q) : MT K l mX7_lay 6 144 [.ref l0] w (some (.int q.1)) q.2 := by
  have z := OX7_lay h
  unfold fX7_lay at h
  rw [if_pos z] at h
  exact MT.of (by decide) (Nat.le_of_ble_eq_true rfl) rfl (EX7_lay h)
/-! FractionRunModel.lay()I: frames 6, words 135 -/
abbrev mX8_lay : MR := (⟨"FractionRunModel", "lay", "()I"⟩, prog_10_method_19_code, 1, (some .int))
theorem dX8_lay_0 : decode prog_10_method_19_code 0 = .ok (.aload_n 0, 1) := by decide +kernel
theorem dX8_lay_1 : decode prog_10_method_19_code 1 = .ok (.invokevirtual 130, 3) := by decide +kernel
theorem dX8_lay_4 : decode prog_10_method_19_code 4 = .ok (.aload_n 0, 1) := by decide +kernel
theorem dX8_lay_5 : decode prog_10_method_19_code 5 = .ok (.getfield 105, 3) := by decide +kernel
theorem dX8_lay_8 : decode prog_10_method_19_code 8 = .ok (.ifCond .ne 10, 3) := by decide +kernel
theorem dX8_lay_11 : decode prog_10_method_19_code 11 = .ok (.aload_n 0, 1) := by decide +kernel
theorem dX8_lay_12 : decode prog_10_method_19_code 12 = .ok (.getfield 53, 3) := by decide +kernel
theorem dX8_lay_15 : decode prog_10_method_19_code 15 = .ok (.ifCond .ne 6, 3) := by decide +kernel
theorem dX8_lay_18 : decode prog_10_method_19_code 18 = .ok (.bipush (-2), 2) := by decide +kernel
theorem dX8_lay_20 : decode prog_10_method_19_code 20 = .ok (.ireturn, 1) := by decide +kernel
theorem dX8_lay_21 : decode prog_10_method_19_code 21 = .ok (.aload_n 0, 1) := by decide +kernel
theorem dX8_lay_22 : decode prog_10_method_19_code 22 = .ok (.invokevirtual 61, 3) := by decide +kernel
theorem dX8_lay_25 : decode prog_10_method_19_code 25 = .ok (.aload_n 0, 1) := by decide +kernel
theorem dX8_lay_26 : decode prog_10_method_19_code 26 = .ok (.getfield 72, 3) := by decide +kernel
theorem dX8_lay_29 : decode prog_10_method_19_code 29 = .ok (.ireturn, 1) := by decide +kernel
theorem okM_X8_lay : okM mX8_lay 0 := ⟨tw828, tw15, by decide, by decide, by decide +kernel⟩
def bX8_lay_18 (w : XW) : Option (Int32 × XW) :=
  some ((-2 : Int32), w)
theorem BX8_lay_18 {K : CX} {l : Launch} {n0 k0 : Nat} {w : XW} {q : Int32 × XW} (h0 : bX8_lay_18 w = some q) : WP K l mX8_lay 6 135 n0 k0 (some (.int q.1)) q.2 18 [none] [] w := by
  unfold bX8_lay_18 at h0
  refine wp_bipush (v := (-2 : Int32)) dX8_lay_18 (by decide) ?_
  cases h0
  exact wp_iret rfl dX8_lay_20
def eX8_lay (w : XW) (l0 : Nat) : Option (Int32 × XW) :=
  (fX8_reads w l0).bind fun q1 =>
  (gI q1 l0 8 14).bind fun x4 =>
  if x4 = 0 then
  (gI q1 l0 8 3).bind fun x8 =>
  if x8 = 0 then
  bX8_lay_18 q1
  else
  (fX8_settles q1 l0).bind fun q12 =>
  (gI q12 l0 8 0).bind fun x15 =>
  some (x15, q12)
  else
  bX8_lay_18 q1
theorem EX8_lay {K : CX} {l : Launch} {n0 k0 : Nat} {w : XW} {l0 : Nat} {q : Int32 × XW} (h0 : eX8_lay w l0 = some q) : WP K l mX8_lay 6 135 n0 k0 (some (.int q.1)) q.2 0 [some (.ref l0)] [] w := by
  unfold eX8_lay at h0
  refine wp_aload_n dX8_lay_0 rfl ?_
  obtain ⟨q1, e3, h2⟩ := Option.bind_eq_some_iff.mp h0
  clear h0
  refine wp_Vv (As := []) (S := []) okM_X8_reads tw797 twP_X8_reads tw795 (OX8_reads e3) rfl rfl rfl ⟨(Nat.le_of_ble_eq_true rfl), (Nat.le_of_ble_eq_true rfl)⟩ (Nat.le_of_ble_eq_true rfl) rfl dX8_lay_1 (MX8_reads e3) ?_
  refine wp_aload_n dX8_lay_4 rfl ?_
  obtain ⟨x4, e6, h5⟩ := Option.bind_eq_some_iff.mp h2
  clear h2
  refine wp_getI okX8 (k := 14) (by decide) tw719 dX8_lay_5 e6 ?_
  refine wp_if_ne (tgt := 18) dX8_lay_8 (by decide) (fun c7 => ?_) (fun c7 => ?_)
  · rw [if_neg c7] at h5
    exact WP.wk (BX8_lay_18 h5) trivial
  · rw [if_pos c7] at h5
    refine wp_aload_n dX8_lay_11 rfl ?_
    obtain ⟨x8, e10, h9⟩ := Option.bind_eq_some_iff.mp h5
    clear h5
    refine wp_getI okX8 (k := 3) (by decide) tw708 dX8_lay_12 e10 ?_
    refine wp_if_ne (tgt := 21) dX8_lay_15 (by decide) (fun c11 => ?_) (fun c11 => ?_)
    · rw [if_neg c11] at h9
      refine wp_aload_n dX8_lay_21 rfl ?_
      obtain ⟨q12, e14, h13⟩ := Option.bind_eq_some_iff.mp h9
      clear h9
      refine wp_Vv (As := []) (S := []) okM_X8_settles tw703 twP_X8_settles tw701 (OX8_settles e14) rfl rfl rfl ⟨(Nat.le_of_ble_eq_true rfl), (Nat.le_of_ble_eq_true rfl)⟩ (Nat.le_of_ble_eq_true rfl) rfl dX8_lay_22 (MX8_settles e14) ?_
      refine wp_aload_n dX8_lay_25 rfl ?_
      obtain ⟨x15, e17, h16⟩ := Option.bind_eq_some_iff.mp h13
      clear h13
      refine wp_getI okX8 (k := 0) (by decide) tw705 dX8_lay_26 e17 ?_
      cases h16
      exact wp_iret rfl dX8_lay_29
    · rw [if_pos c11] at h9
      exact WP.wk (BX8_lay_18 h9) trivial
def fX8_lay (w : XW) (l0 : Nat) : Option (Int32 × XW) := if isO w l0 8 = true then eX8_lay w l0 else none
theorem OX8_lay {w : XW} {l0 : Nat} {q : Int32 × XW} (h : fX8_lay w l0 = some q) : isO w l0 8 = true := Decidable.byContradiction fun z => by unfold fX8_lay at h; rw [if_neg z] at h; cases h
theorem MX8_lay {K : CX} {l : Launch} {w : XW} {l0 : Nat} {q : Int32 × XW} (h : fX8_lay w l0 = some q) : MT K l mX8_lay 6 135 [.ref l0] w (some (.int q.1)) q.2 := by
  have z := OX8_lay h
  unfold fX8_lay at h
  rw [if_pos z] at h
  exact MT.of (by decide) (Nat.le_of_ble_eq_true rfl) rfl (EX8_lay h)
/-! FractionRun.isTold(I)Z: frames 1, words 20 -/
abbrev mX7_isTold : MR := (⟨"FractionRun", "isTold", "(I)Z"⟩, prog_1_method_35_code, 2, (some .boolean))
theorem dX7_isTold_0 : decode prog_1_method_35_code 0 = .ok (.iload_n 1, 1) := by decide +kernel
theorem dX7_isTold_1 : decode prog_1_method_35_code 1 = .ok (.ifCond .lt 18, 3) := by decide +kernel
theorem dX7_isTold_4 : decode prog_1_method_35_code 4 = .ok (.iload_n 1, 1) := by decide +kernel
theorem dX7_isTold_5 : decode prog_1_method_35_code 5 = .ok (.aload_n 0, 1) := by decide +kernel
theorem dX7_isTold_6 : decode prog_1_method_35_code 6 = .ok (.getfield 26, 3) := by decide +kernel
theorem dX7_isTold_9 : decode prog_1_method_35_code 9 = .ok (.getfield 111, 3) := by decide +kernel
theorem dX7_isTold_12 : decode prog_1_method_35_code 12 = .ok (.if_icmp .ge 7, 3) := by decide +kernel
theorem dX7_isTold_15 : decode prog_1_method_35_code 15 = .ok (.iconst 1, 1) := by decide +kernel
theorem dX7_isTold_16 : decode prog_1_method_35_code 16 = .ok (.goto 4, 3) := by decide +kernel
theorem dX7_isTold_19 : decode prog_1_method_35_code 19 = .ok (.iconst 0, 1) := by decide +kernel
theorem dX7_isTold_20 : decode prog_1_method_35_code 20 = .ok (.ireturn, 1) := by decide +kernel
theorem okM_X7_isTold : okM mX7_isTold 1 := ⟨tw381, tw1, by decide, by decide, by decide +kernel⟩
def bX7_isTold_20 (w : XW) (s0 : Int32) : Option (Int32 × XW) :=
  if s0 &&& 1 = s0 then some (s0, w) else none
theorem BX7_isTold_20 {K : CX} {l : Launch} {n0 k0 : Nat} {w : XW} {s0 : Int32} {q : Int32 × XW} (h0 : bX7_isTold_20 w s0 = some q) : WP K l mX7_isTold 1 20 n0 k0 (some (.int q.1)) q.2 20 [none, none] [.int s0] w := by
  unfold bX7_isTold_20 at h0
  have c1 : s0 &&& 1 = s0 := Decidable.byContradiction fun z => by rw [if_neg z] at h0; cases h0
  rw [if_pos c1] at h0
  cases h0
  exact wp_zret rfl (zb_n c1) dX7_isTold_20
def bX7_isTold_19 (w : XW) : Option (Int32 × XW) :=
  bX7_isTold_20 w (0 : Int32)
theorem BX7_isTold_19 {K : CX} {l : Launch} {n0 k0 : Nat} {w : XW} {q : Int32 × XW} (h0 : bX7_isTold_19 w = some q) : WP K l mX7_isTold 1 20 n0 k0 (some (.int q.1)) q.2 19 [none, none] [] w := by
  unfold bX7_isTold_19 at h0
  refine wp_iconst (v := (0 : Int32)) dX7_isTold_19 (by decide) ?_
  exact WP.wk (BX7_isTold_20 h0) trivial
def eX7_isTold (w : XW) (l0 : Nat) (l1 : Int32) : Option (Int32 × XW) :=
  if l1 < 0 then
  bX7_isTold_19 w
  else
  (gR w l0 7 2).bind fun x2 =>
  (gI w x2 1 5).bind fun x5 =>
  if x5 ≤ l1 then
  bX7_isTold_19 w
  else
  bX7_isTold_20 w (1 : Int32)
theorem EX7_isTold {K : CX} {l : Launch} {n0 k0 : Nat} {w : XW} {l0 : Nat} {l1 : Int32} {q : Int32 × XW} (h0 : eX7_isTold w l0 l1 = some q) : WP K l mX7_isTold 1 20 n0 k0 (some (.int q.1)) q.2 0 [some (.ref l0), some (.int l1)] [] w := by
  unfold eX7_isTold at h0
  refine wp_iload_n dX7_isTold_0 rfl ?_
  refine wp_if_lt (tgt := 19) dX7_isTold_1 (by decide) (fun c1 => ?_) (fun c1 => ?_)
  · rw [if_pos c1] at h0
    exact WP.wk (BX7_isTold_19 h0) trivial
  · rw [if_neg c1] at h0
    refine wp_iload_n dX7_isTold_4 rfl ?_
    refine wp_aload_n dX7_isTold_5 rfl ?_
    obtain ⟨x2, e4, h3⟩ := Option.bind_eq_some_iff.mp h0
    clear h0
    refine wp_getR okX7 (k := 2) (by decide) tw300 dX7_isTold_6 e4 ?_
    obtain ⟨x5, e7, h6⟩ := Option.bind_eq_some_iff.mp h3
    clear h3
    refine wp_getI okX1 (k := 5) (by decide) tw72 dX7_isTold_9 e7 ?_
    refine wp_icmp_ge (tgt := 19) dX7_isTold_12 (by decide) (fun c8 => ?_) (fun c8 => ?_)
    · rw [if_pos c8] at h6
      exact WP.wk (BX7_isTold_19 h6) trivial
    · rw [if_neg c8] at h6
      refine wp_iconst (v := (1 : Int32)) dX7_isTold_15 (by decide) ?_
      refine wp_goto (tgt := 20) dX7_isTold_16 (by decide) ?_
      exact WP.wk (BX7_isTold_20 h6) trivial
def fX7_isTold (w : XW) (l0 : Nat) (l1 : Int32) : Option (Int32 × XW) := if isO w l0 7 = true then eX7_isTold w l0 l1 else none
theorem OX7_isTold {w : XW} {l0 : Nat} {l1 : Int32} {q : Int32 × XW} (h : fX7_isTold w l0 l1 = some q) : isO w l0 7 = true := Decidable.byContradiction fun z => by unfold fX7_isTold at h; rw [if_neg z] at h; cases h
theorem MX7_isTold {K : CX} {l : Launch} {w : XW} {l0 : Nat} {l1 : Int32} {q : Int32 × XW} (h : fX7_isTold w l0 l1 = some q) : MT K l mX7_isTold 1 20 [.ref l0, .int l1] w (some (.int q.1)) q.2 := by
  have z := OX7_isTold h
  unfold fX7_isTold at h
  rw [if_pos z] at h
  exact MT.of (by decide) (Nat.le_of_ble_eq_true rfl) rfl (EX7_isTold h)
/-! FractionRun$State.placeOf(I)I: frames 1, words 20 -/
abbrev mX5_placeOf : MR := (⟨"FractionRun$State", "placeOf", "(I)I"⟩, prog_7_method_8_code, 3, (some .int))
theorem dX5_placeOf_0 : decode prog_7_method_8_code 0 = .ok (.iconst 0, 1) := by decide +kernel
theorem dX5_placeOf_1 : decode prog_7_method_8_code 1 = .ok (.istore_n 2, 1) := by decide +kernel
theorem dX5_placeOf_2 : decode prog_7_method_8_code 2 = .ok (.iload_n 2, 1) := by decide +kernel
theorem dX5_placeOf_3 : decode prog_7_method_8_code 3 = .ok (.aload_n 0, 1) := by decide +kernel
theorem dX5_placeOf_4 : decode prog_7_method_8_code 4 = .ok (.getfield 33, 3) := by decide +kernel
theorem dX5_placeOf_7 : decode prog_7_method_8_code 7 = .ok (.if_icmp .ge 21, 3) := by decide +kernel
theorem dX5_placeOf_10 : decode prog_7_method_8_code 10 = .ok (.aload_n 0, 1) := by decide +kernel
theorem dX5_placeOf_11 : decode prog_7_method_8_code 11 = .ok (.getfield 15, 3) := by decide +kernel
theorem dX5_placeOf_14 : decode prog_7_method_8_code 14 = .ok (.iload_n 2, 1) := by decide +kernel
theorem dX5_placeOf_15 : decode prog_7_method_8_code 15 = .ok (.iaload, 1) := by decide +kernel
theorem dX5_placeOf_16 : decode prog_7_method_8_code 16 = .ok (.iload_n 1, 1) := by decide +kernel
theorem dX5_placeOf_17 : decode prog_7_method_8_code 17 = .ok (.if_icmp .ne 5, 3) := by decide +kernel
theorem dX5_placeOf_20 : decode prog_7_method_8_code 20 = .ok (.iload_n 2, 1) := by decide +kernel
theorem dX5_placeOf_21 : decode prog_7_method_8_code 21 = .ok (.ireturn, 1) := by decide +kernel
theorem dX5_placeOf_22 : decode prog_7_method_8_code 22 = .ok (.iinc 2 1, 3) := by decide +kernel
theorem dX5_placeOf_25 : decode prog_7_method_8_code 25 = .ok (.goto (-23), 3) := by decide +kernel
theorem dX5_placeOf_28 : decode prog_7_method_8_code 28 = .ok (.bipush (-4), 2) := by decide +kernel
theorem dX5_placeOf_30 : decode prog_7_method_8_code 30 = .ok (.ireturn, 1) := by decide +kernel
theorem okM_X5_placeOf : okM mX5_placeOf 1 := ⟨tw385, tw5, by decide, by decide, by decide +kernel⟩
abbrev KTX5_placeOf : Type := (XW → Nat → Int32 → Int32 → Option (Int32 × XW))
def hX5_placeOf_2 (k : KTX5_placeOf) (w : XW) (l0 : Nat) (l1 : Int32) (l2 : Int32) : Option (Int32 × XW) :=
  (gI w l0 5 2).bind fun x1 =>
  if x1 ≤ l2 then
  some ((-4 : Int32), w)
  else
  (gR w l0 5 1).bind fun x5 =>
  (aI w 0 x5 l2).bind fun x8 =>
  if x8 = l1 then
  some (l2, w)
  else
  k w l0 l1 (l2 + (1 : Int32))
theorem HX5_placeOf_2 {K : CX} {l : Launch} {n0 k0 : Nat} {k : KTX5_placeOf} (hk0 : ∀ (w : XW) (l0 : Nat) (l1 : Int32) (l2 : Int32) (q : Int32 × XW), k w l0 l1 l2 = some q → WP K l mX5_placeOf 1 20 n0 k0 (some (.int q.1)) q.2 2 [some (.ref l0), some (.int l1), some (.int l2)] [] w) {w : XW} {l0 : Nat} {l1 : Int32} {l2 : Int32} {q : Int32 × XW} (h0 : hX5_placeOf_2 k w l0 l1 l2 = some q) : WP K l mX5_placeOf 1 20 n0 k0 (some (.int q.1)) q.2 2 [some (.ref l0), some (.int l1), some (.int l2)] [] w := by
  unfold hX5_placeOf_2 at h0
  refine wp_iload_n dX5_placeOf_2 rfl ?_
  refine wp_aload_n dX5_placeOf_3 rfl ?_
  obtain ⟨x1, e3, h2⟩ := Option.bind_eq_some_iff.mp h0
  clear h0
  refine wp_getI okX5 (k := 2) (by decide) tw97 dX5_placeOf_4 e3 ?_
  refine wp_icmp_ge (tgt := 28) dX5_placeOf_7 (by decide) (fun c4 => ?_) (fun c4 => ?_)
  · rw [if_pos c4] at h2
    refine wp_bipush (v := (-4 : Int32)) dX5_placeOf_28 (by decide) ?_
    cases h2
    exact wp_iret rfl dX5_placeOf_30
  · rw [if_neg c4] at h2
    refine wp_aload_n dX5_placeOf_10 rfl ?_
    obtain ⟨x5, e7, h6⟩ := Option.bind_eq_some_iff.mp h2
    clear h2
    refine wp_getR okX5 (k := 1) (by decide) tw95 dX5_placeOf_11 e7 ?_
    refine wp_iload_n dX5_placeOf_14 rfl ?_
    obtain ⟨x8, e10, h9⟩ := Option.bind_eq_some_iff.mp h6
    clear h6
    refine wp_iald dX5_placeOf_15 e10 ?_
    refine wp_iload_n dX5_placeOf_16 rfl ?_
    refine wp_icmp_ne (tgt := 22) dX5_placeOf_17 (by decide) (fun c11 => ?_) (fun c11 => ?_)
    · rw [if_neg c11] at h9
      refine wp_iinc (v := (l2 + (1 : Int32))) (L1 := [some (.ref l0), some (.int l1), some (.int (l2 + (1 : Int32)))]) dX5_placeOf_22 (Nat.le_of_ble_eq_true rfl) rfl (congrArg (fun z => l2 + z) (by decide)) rfl ?_
      refine wp_goto (tgt := 2) dX5_placeOf_25 (by decide) ?_
      exact WP.wk (hk0 _ _ _ _ _ h9) (And.intro rfl (And.intro rfl (And.intro rfl trivial)))
    · rw [if_pos c11] at h9
      refine wp_iload_n dX5_placeOf_20 rfl ?_
      cases h9
      exact wp_iret rfl dX5_placeOf_21
def eX5_placeOf (k : KTX5_placeOf) (w : XW) (l0 : Nat) (l1 : Int32) : Option (Int32 × XW) :=
  k w l0 l1 (0 : Int32)
theorem EX5_placeOf {K : CX} {l : Launch} {n0 k0 : Nat} {k : KTX5_placeOf} (hk0 : ∀ (w : XW) (l0 : Nat) (l1 : Int32) (l2 : Int32) (q : Int32 × XW), k w l0 l1 l2 = some q → WP K l mX5_placeOf 1 20 n0 k0 (some (.int q.1)) q.2 2 [some (.ref l0), some (.int l1), some (.int l2)] [] w) {w : XW} {l0 : Nat} {l1 : Int32} {q : Int32 × XW} (h0 : eX5_placeOf k w l0 l1 = some q) : WP K l mX5_placeOf 1 20 n0 k0 (some (.int q.1)) q.2 0 [some (.ref l0), some (.int l1), none] [] w := by
  unfold eX5_placeOf at h0
  refine wp_iconst (v := (0 : Int32)) dX5_placeOf_0 (by decide) ?_
  refine wp_istore_n (L1 := [some (.ref l0), some (.int l1), some (.int (0 : Int32))]) dX5_placeOf_1 (Nat.le_of_ble_eq_true rfl) rfl ?_
  exact WP.wk (hk0 _ _ _ _ _ h0) (And.intro rfl (And.intro rfl (And.intro rfl trivial)))
def loX5_placeOf : Nat → KTX5_placeOf
  | 0 => fun _ _ _ _ => none
  | n + 1 => hX5_placeOf_2 (loX5_placeOf n)
theorem LOX5_placeOf {K : CX} {l : Launch} {n0 k0 : Nat} : ∀ n : Nat, (∀ (w : XW) (l0 : Nat) (l1 : Int32) (l2 : Int32) (q : Int32 × XW), (loX5_placeOf n) w l0 l1 l2 = some q → WP K l mX5_placeOf 1 20 n0 k0 (some (.int q.1)) q.2 2 [some (.ref l0), some (.int l1), some (.int l2)] [] w) := by
  intro n
  induction n with
  | zero => exact fun _ _ _ _ q h => (by cases h)
  | succ n ih => exact fun _ _ _ _ q h => HX5_placeOf_2 ih h
def fX5_placeOf (w : XW) (l0 : Nat) (l1 : Int32) : Option (Int32 × XW) := if isO w l0 5 = true then eX5_placeOf (loX5_placeOf FU) w l0 l1 else none
theorem OX5_placeOf {w : XW} {l0 : Nat} {l1 : Int32} {q : Int32 × XW} (h : fX5_placeOf w l0 l1 = some q) : isO w l0 5 = true := Decidable.byContradiction fun z => by unfold fX5_placeOf at h; rw [if_neg z] at h; cases h
theorem MX5_placeOf {K : CX} {l : Launch} {w : XW} {l0 : Nat} {l1 : Int32} {q : Int32 × XW} (h : fX5_placeOf w l0 l1 = some q) : MT K l mX5_placeOf 1 20 [.ref l0, .int l1] w (some (.int q.1)) q.2 := by
  have z := OX5_placeOf h
  unfold fX5_placeOf at h
  rw [if_pos z] at h
  exact MT.of (by decide) (Nat.le_of_ble_eq_true rfl) rfl (EX5_placeOf (LOX5_placeOf FU) h)
