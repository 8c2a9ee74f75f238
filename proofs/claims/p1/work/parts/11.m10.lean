/-! FractionRun.drop(I)I: frames 3, words 68 -/
abbrev mX7_drop : MR := (⟨"FractionRun", "drop", "(I)I"⟩, prog_1_method_11_code, 3, (some .int))
theorem dX7_drop_0 : decode prog_1_method_11_code 0 = .ok (.aload_n 0, 1) := by decide +kernel
theorem dX7_drop_1 : decode prog_1_method_11_code 1 = .ok (.iload_n 1, 1) := by decide +kernel
theorem dX7_drop_2 : decode prog_1_method_11_code 2 = .ok (.invokevirtual 120, 3) := by decide +kernel
theorem dX7_drop_5 : decode prog_1_method_11_code 5 = .ok (.ifCond .ne 5, 3) := by decide +kernel
theorem dX7_drop_8 : decode prog_1_method_11_code 8 = .ok (.iconst (-1), 1) := by decide +kernel
theorem dX7_drop_9 : decode prog_1_method_11_code 9 = .ok (.ireturn, 1) := by decide +kernel
theorem dX7_drop_10 : decode prog_1_method_11_code 10 = .ok (.aload_n 0, 1) := by decide +kernel
theorem dX7_drop_11 : decode prog_1_method_11_code 11 = .ok (.getfield 36, 3) := by decide +kernel
theorem dX7_drop_14 : decode prog_1_method_11_code 14 = .ok (.iload_n 1, 1) := by decide +kernel
theorem dX7_drop_15 : decode prog_1_method_11_code 15 = .ok (.invokevirtual 133, 3) := by decide +kernel
theorem dX7_drop_18 : decode prog_1_method_11_code 18 = .ok (.istore_n 2, 1) := by decide +kernel
theorem dX7_drop_19 : decode prog_1_method_11_code 19 = .ok (.iload_n 2, 1) := by decide +kernel
theorem dX7_drop_20 : decode prog_1_method_11_code 20 = .ok (.bipush (-4), 2) := by decide +kernel
theorem dX7_drop_22 : decode prog_1_method_11_code 22 = .ok (.if_icmp .eq 14, 3) := by decide +kernel
theorem dX7_drop_25 : decode prog_1_method_11_code 25 = .ok (.aload_n 0, 1) := by decide +kernel
theorem dX7_drop_26 : decode prog_1_method_11_code 26 = .ok (.getfield 36, 3) := by decide +kernel
theorem dX7_drop_29 : decode prog_1_method_11_code 29 = .ok (.getfield 175, 3) := by decide +kernel
theorem dX7_drop_32 : decode prog_1_method_11_code 32 = .ok (.iconst 1, 1) := by decide +kernel
theorem dX7_drop_33 : decode prog_1_method_11_code 33 = .ok (.if_icmp .gt 6, 3) := by decide +kernel
theorem dX7_drop_36 : decode prog_1_method_11_code 36 = .ok (.bipush (-2), 2) := by decide +kernel
theorem dX7_drop_38 : decode prog_1_method_11_code 38 = .ok (.ireturn, 1) := by decide +kernel
theorem dX7_drop_39 : decode prog_1_method_11_code 39 = .ok (.aload_n 0, 1) := by decide +kernel
theorem dX7_drop_40 : decode prog_1_method_11_code 40 = .ok (.getfield 49, 3) := by decide +kernel
theorem dX7_drop_43 : decode prog_1_method_11_code 43 = .ok (.aload_n 0, 1) := by decide +kernel
theorem dX7_drop_44 : decode prog_1_method_11_code 44 = .ok (.getfield 36, 3) := by decide +kernel
theorem dX7_drop_47 : decode prog_1_method_11_code 47 = .ok (.invokevirtual 157, 3) := by decide +kernel
theorem dX7_drop_50 : decode prog_1_method_11_code 50 = .ok (.aload_n 0, 1) := by decide +kernel
theorem dX7_drop_51 : decode prog_1_method_11_code 51 = .ok (.getfield 36, 3) := by decide +kernel
theorem dX7_drop_54 : decode prog_1_method_11_code 54 = .ok (.iload_n 2, 1) := by decide +kernel
theorem dX7_drop_55 : decode prog_1_method_11_code 55 = .ok (.invokevirtual 181, 3) := by decide +kernel
theorem dX7_drop_58 : decode prog_1_method_11_code 58 = .ok (.aload_n 0, 1) := by decide +kernel
theorem dX7_drop_59 : decode prog_1_method_11_code 59 = .ok (.getfield 36, 3) := by decide +kernel
theorem dX7_drop_62 : decode prog_1_method_11_code 62 = .ok (.getfield 175, 3) := by decide +kernel
theorem dX7_drop_65 : decode prog_1_method_11_code 65 = .ok (.ireturn, 1) := by decide +kernel
theorem okM_X7_drop : okM mX7_drop 1 := ⟨tw457, tw1, by decide, by decide, by decide +kernel⟩
def bX7_drop_36 (w : XW) : Option (Int32 × XW) :=
  some ((-2 : Int32), w)
theorem BX7_drop_36 {K : CX} {l : Launch} {n0 k0 : Nat} {w : XW} {q : Int32 × XW} (h0 : bX7_drop_36 w = some q) : WP K l mX7_drop 3 68 n0 k0 (some (.int q.1)) q.2 36 [none, none, none] [] w := by
  unfold bX7_drop_36 at h0
  refine wp_bipush (v := (-2 : Int32)) dX7_drop_36 (by decide) ?_
  cases h0
  exact wp_iret rfl dX7_drop_38
def eX7_drop (w : XW) (l0 : Nat) (l1 : Int32) : Option (Int32 × XW) :=
  (fX7_isTold w l0 l1).bind fun q1 =>
  if q1.1 = 0 then
  some ((-1 : Int32), q1.2)
  else
  (gR q1.2 l0 7 4).bind fun x5 =>
  (fX5_placeOf q1.2 x5 l1).bind fun q8 =>
  if q8.1 = (-4 : Int32) then
  bX7_drop_36 q8.2
  else
  (gR q8.2 l0 7 4).bind fun x12 =>
  (gI q8.2 x12 5 2).bind fun x15 =>
  if (1 : Int32) < x15 then
  (gR q8.2 l0 7 7).bind fun x19 =>
  (gR q8.2 l0 7 4).bind fun x22 =>
  (fX3_push q8.2 x19 x22).bind fun q25 =>
  (gR q25 l0 7 4).bind fun x28 =>
  (fX5_leaveOut q25 x28 q8.1).bind fun q31 =>
  (gR q31 l0 7 4).bind fun x34 =>
  (gI q31 x34 5 2).bind fun x37 =>
  some (x37, q31)
  else
  bX7_drop_36 q8.2
theorem EX7_drop {K : CX} {l : Launch} {n0 k0 : Nat} {w : XW} {l0 : Nat} {l1 : Int32} {q : Int32 × XW} (h0 : eX7_drop w l0 l1 = some q) : WP K l mX7_drop 3 68 n0 k0 (some (.int q.1)) q.2 0 [some (.ref l0), some (.int l1), none] [] w := by
  unfold eX7_drop at h0
  refine wp_aload_n dX7_drop_0 rfl ?_
  refine wp_iload_n dX7_drop_1 rfl ?_
  obtain ⟨q1, e3, h2⟩ := Option.bind_eq_some_iff.mp h0
  clear h0
  refine wp_Vi (As := [.int l1]) (S := []) okM_X7_isTold tw380 twP_X7_isTold tw378 (OX7_isTold e3) rfl rfl rfl ⟨(Nat.le_of_ble_eq_true rfl), (Nat.le_of_ble_eq_true rfl)⟩ (Nat.le_of_ble_eq_true rfl) rfl dX7_drop_2 (MX7_isTold e3) ?_
  refine wp_if_ne (tgt := 10) dX7_drop_5 (by decide) (fun c4 => ?_) (fun c4 => ?_)
  · rw [if_neg c4] at h2
    refine wp_aload_n dX7_drop_10 rfl ?_
    obtain ⟨x5, e7, h6⟩ := Option.bind_eq_some_iff.mp h2
    clear h2
    refine wp_getR okX7 (k := 4) (by decide) tw302 dX7_drop_11 e7 ?_
    refine wp_iload_n dX7_drop_14 rfl ?_
    obtain ⟨q8, e10, h9⟩ := Option.bind_eq_some_iff.mp h6
    clear h6
    refine wp_Vi (As := [.int l1]) (S := []) okM_X5_placeOf tw383 tw384 tw382 (OX5_placeOf e10) rfl rfl rfl ⟨(Nat.le_of_ble_eq_true rfl), (Nat.le_of_ble_eq_true rfl)⟩ (Nat.le_of_ble_eq_true rfl) rfl dX7_drop_15 (MX5_placeOf e10) ?_
    refine wp_istore_n (L1 := [some (.ref l0), some (.int l1), some (.int q8.1)]) dX7_drop_18 (Nat.le_of_ble_eq_true rfl) rfl ?_
    refine wp_iload_n dX7_drop_19 rfl ?_
    refine wp_bipush (v := (-4 : Int32)) dX7_drop_20 (by decide) ?_
    refine wp_icmp_eq (tgt := 36) dX7_drop_22 (by decide) (fun c11 => ?_) (fun c11 => ?_)
    · rw [if_pos c11] at h9
      exact WP.wk (BX7_drop_36 h9) trivial
    · rw [if_neg c11] at h9
      refine wp_aload_n dX7_drop_25 rfl ?_
      obtain ⟨x12, e14, h13⟩ := Option.bind_eq_some_iff.mp h9
      clear h9
      refine wp_getR okX7 (k := 4) (by decide) tw302 dX7_drop_26 e14 ?_
      obtain ⟨x15, e17, h16⟩ := Option.bind_eq_some_iff.mp h13
      clear h13
      refine wp_getI okX5 (k := 2) (by decide) tw98 dX7_drop_29 e17 ?_
      refine wp_iconst (v := (1 : Int32)) dX7_drop_32 (by decide) ?_
      refine wp_icmp_gt (tgt := 39) dX7_drop_33 (by decide) (fun c18 => ?_) (fun c18 => ?_)
      · rw [if_pos c18] at h16
        refine wp_aload_n dX7_drop_39 rfl ?_
        obtain ⟨x19, e21, h20⟩ := Option.bind_eq_some_iff.mp h16
        clear h16
        refine wp_getR okX7 (k := 7) (by decide) tw305 dX7_drop_40 e21 ?_
        refine wp_aload_n dX7_drop_43 rfl ?_
        obtain ⟨x22, e24, h23⟩ := Option.bind_eq_some_iff.mp h20
        clear h20
        refine wp_getR okX7 (k := 4) (by decide) tw302 dX7_drop_44 e24 ?_
        obtain ⟨q25, e27, h26⟩ := Option.bind_eq_some_iff.mp h23
        clear h23
        refine wp_Vv (As := [.ref x22]) (S := []) okM_X3_push tw415 tw416 tw414 (OX3_push e27) rfl rfl rfl ⟨(Nat.le_of_ble_eq_true rfl), (Nat.le_of_ble_eq_true rfl)⟩ (Nat.le_of_ble_eq_true rfl) rfl dX7_drop_47 (MX3_push e27) ?_
        refine wp_aload_n dX7_drop_50 rfl ?_
        obtain ⟨x28, e30, h29⟩ := Option.bind_eq_some_iff.mp h26
        clear h26
        refine wp_getR okX7 (k := 4) (by decide) tw302 dX7_drop_51 e30 ?_
        refine wp_iload_n dX7_drop_54 rfl ?_
        obtain ⟨q31, e33, h32⟩ := Option.bind_eq_some_iff.mp h29
        clear h29
        refine wp_Vv (As := [.int q8.1]) (S := []) okM_X5_leaveOut tw459 tw460 tw458 (OX5_leaveOut e33) rfl rfl rfl ⟨(Nat.le_of_ble_eq_true rfl), (Nat.le_of_ble_eq_true rfl)⟩ (Nat.le_of_ble_eq_true rfl) rfl dX7_drop_55 (MX5_leaveOut e33) ?_
        refine wp_aload_n dX7_drop_58 rfl ?_
        obtain ⟨x34, e36, h35⟩ := Option.bind_eq_some_iff.mp h32
        clear h32
        refine wp_getR okX7 (k := 4) (by decide) tw302 dX7_drop_59 e36 ?_
        obtain ⟨x37, e39, h38⟩ := Option.bind_eq_some_iff.mp h35
        clear h35
        refine wp_getI okX5 (k := 2) (by decide) tw98 dX7_drop_62 e39 ?_
        cases h38
        exact wp_iret rfl dX7_drop_65
      · rw [if_neg c18] at h16
        exact WP.wk (BX7_drop_36 h16) trivial
  · rw [if_pos c4] at h2
    refine wp_iconst (v := (-1 : Int32)) dX7_drop_8 (by decide) ?_
    cases h2
    exact wp_iret rfl dX7_drop_9
def fX7_drop (w : XW) (l0 : Nat) (l1 : Int32) : Option (Int32 × XW) := if isO w l0 7 = true then eX7_drop w l0 l1 else none
theorem OX7_drop {w : XW} {l0 : Nat} {l1 : Int32} {q : Int32 × XW} (h : fX7_drop w l0 l1 = some q) : isO w l0 7 = true := Decidable.byContradiction fun z => by unfold fX7_drop at h; rw [if_neg z] at h; cases h
theorem MX7_drop {K : CX} {l : Launch} {w : XW} {l0 : Nat} {l1 : Int32} {q : Int32 × XW} (h : fX7_drop w l0 l1 = some q) : MT K l mX7_drop 3 68 [.ref l0, .int l1] w (some (.int q.1)) q.2 := by
  have z := OX7_drop h
  unfold fX7_drop at h
  rw [if_pos z] at h
  exact MT.of (by decide) (Nat.le_of_ble_eq_true rfl) rfl (EX7_drop h)
/-! FractionRunModel.drops(II)V: frames 2, words 45 -/
abbrev mX8_drops : MR := (⟨"FractionRunModel", "drops", "(II)V"⟩, prog_10_method_36_code, 3, none)
theorem dX8_drops_0 : decode prog_10_method_36_code 0 = .ok (.aload_n 0, 1) := by decide +kernel
theorem dX8_drops_1 : decode prog_10_method_36_code 1 = .ok (.iload_n 1, 1) := by decide +kernel
theorem dX8_drops_2 : decode prog_10_method_36_code 2 = .ok (.aload_n 0, 1) := by decide +kernel
theorem dX8_drops_3 : decode prog_10_method_36_code 3 = .ok (.iload_n 1, 1) := by decide +kernel
theorem dX8_drops_4 : decode prog_10_method_36_code 4 = .ok (.iload_n 2, 1) := by decide +kernel
theorem dX8_drops_5 : decode prog_10_method_36_code 5 = .ok (.invokevirtual 167, 3) := by decide +kernel
theorem dX8_drops_8 : decode prog_10_method_36_code 8 = .ok (.aload_n 0, 1) := by decide +kernel
theorem dX8_drops_9 : decode prog_10_method_36_code 9 = .ok (.getfield 25, 3) := by decide +kernel
theorem dX8_drops_12 : decode prog_10_method_36_code 12 = .ok (.iload_n 1, 1) := by decide +kernel
theorem dX8_drops_13 : decode prog_10_method_36_code 13 = .ok (.bipush 14, 2) := by decide +kernel
theorem dX8_drops_15 : decode prog_10_method_36_code 15 = .ok (.iadd, 1) := by decide +kernel
theorem dX8_drops_16 : decode prog_10_method_36_code 16 = .ok (.iaload, 1) := by decide +kernel
theorem dX8_drops_17 : decode prog_10_method_36_code 17 = .ok (.iconst 1, 1) := by decide +kernel
theorem dX8_drops_18 : decode prog_10_method_36_code 18 = .ok (.isub, 1) := by decide +kernel
theorem dX8_drops_19 : decode prog_10_method_36_code 19 = .ok (.invokevirtual 182, 3) := by decide +kernel
theorem dX8_drops_22 : decode prog_10_method_36_code 22 = .ok (.aload_n 0, 1) := by decide +kernel
theorem dX8_drops_23 : decode prog_10_method_36_code 23 = .ok (.getfield 25, 3) := by decide +kernel
theorem dX8_drops_26 : decode prog_10_method_36_code 26 = .ok (.iload_n 1, 1) := by decide +kernel
theorem dX8_drops_27 : decode prog_10_method_36_code 27 = .ok (.bipush 14, 2) := by decide +kernel
theorem dX8_drops_29 : decode prog_10_method_36_code 29 = .ok (.iadd, 1) := by decide +kernel
theorem dX8_drops_30 : decode prog_10_method_36_code 30 = .ok (.dup2, 1) := by decide +kernel
theorem dX8_drops_31 : decode prog_10_method_36_code 31 = .ok (.iaload, 1) := by decide +kernel
theorem dX8_drops_32 : decode prog_10_method_36_code 32 = .ok (.iconst 1, 1) := by decide +kernel
theorem dX8_drops_33 : decode prog_10_method_36_code 33 = .ok (.isub, 1) := by decide +kernel
theorem dX8_drops_34 : decode prog_10_method_36_code 34 = .ok (.iastore, 1) := by decide +kernel
theorem dX8_drops_35 : decode prog_10_method_36_code 35 = .ok (.return_, 1) := by decide +kernel
theorem okM_X8_drops : okM mX8_drops 2 := ⟨tw908, tw15, by decide, by decide, by decide +kernel⟩
def eX8_drops (w : XW) (l0 : Nat) (l1 : Int32) (l2 : Int32) : Option XW :=
  (fX8_placeOf w l0 l1 l2).bind fun q1 =>
  (gR q1.2 l0 8 7).bind fun x4 =>
  (aI q1.2 0 x4 (l1 + (14 : Int32))).bind fun x7 =>
  (fX8_moves q1.2 l0 l1 q1.1 (x7 - (1 : Int32))).bind fun q10 =>
  (gR q10 l0 8 7).bind fun x13 =>
  (aI q10 0 x13 (l1 + (14 : Int32))).bind fun x16 =>
  (sI q10 0 x13 (l1 + (14 : Int32)) (x16 - (1 : Int32))).bind fun w19 =>
  some w19
theorem EX8_drops {K : CX} {l : Launch} {n0 k0 : Nat} {w : XW} {l0 : Nat} {l1 : Int32} {l2 : Int32} {q : XW} (h0 : eX8_drops w l0 l1 l2 = some q) : WP K l mX8_drops 2 45 n0 k0 none q 0 [some (.ref l0), some (.int l1), some (.int l2)] [] w := by
  unfold eX8_drops at h0
  refine wp_aload_n dX8_drops_0 rfl ?_
  refine wp_iload_n dX8_drops_1 rfl ?_
  refine wp_aload_n dX8_drops_2 rfl ?_
  refine wp_iload_n dX8_drops_3 rfl ?_
  refine wp_iload_n dX8_drops_4 rfl ?_
  obtain ⟨q1, e3, h2⟩ := Option.bind_eq_some_iff.mp h0
  clear h0
  refine wp_Vi (As := [.int l1, .int l2]) (S := [.int l1, .ref l0]) okM_X8_placeOf tw844 twP_X8_placeOf tw842 (OX8_placeOf e3) rfl rfl rfl ⟨(Nat.le_of_ble_eq_true rfl), (Nat.le_of_ble_eq_true rfl)⟩ (Nat.le_of_ble_eq_true rfl) rfl dX8_drops_5 (MX8_placeOf e3) ?_
  refine wp_aload_n dX8_drops_8 rfl ?_
  obtain ⟨x4, e6, h5⟩ := Option.bind_eq_some_iff.mp h2
  clear h2
  refine wp_getR okX8 (k := 7) (by decide) tw712 dX8_drops_9 e6 ?_
  refine wp_iload_n dX8_drops_12 rfl ?_
  refine wp_bipush (v := (14 : Int32)) dX8_drops_13 (by decide) ?_
  refine wp_iadd dX8_drops_15 ?_
  obtain ⟨x7, e9, h8⟩ := Option.bind_eq_some_iff.mp h5
  clear h5
  refine wp_iald dX8_drops_16 e9 ?_
  refine wp_iconst (v := (1 : Int32)) dX8_drops_17 (by decide) ?_
  refine wp_isub dX8_drops_18 ?_
  obtain ⟨q10, e12, h11⟩ := Option.bind_eq_some_iff.mp h8
  clear h8
  refine wp_Vv (As := [.int l1, .int q1.1, .int (x7 - (1 : Int32))]) (S := []) okM_X8_moves tw899 twP_X8_moves tw897 (OX8_moves e12) rfl rfl rfl ⟨(Nat.le_of_ble_eq_true rfl), (Nat.le_of_ble_eq_true rfl)⟩ (Nat.le_of_ble_eq_true rfl) rfl dX8_drops_19 (MX8_moves e12) ?_
  refine wp_aload_n dX8_drops_22 rfl ?_
  obtain ⟨x13, e15, h14⟩ := Option.bind_eq_some_iff.mp h11
  clear h11
  refine wp_getR okX8 (k := 7) (by decide) tw712 dX8_drops_23 e15 ?_
  refine wp_iload_n dX8_drops_26 rfl ?_
  refine wp_bipush (v := (14 : Int32)) dX8_drops_27 (by decide) ?_
  refine wp_iadd dX8_drops_29 ?_
  refine wp_dup2 dX8_drops_30 rfl rfl ?_
  obtain ⟨x16, e18, h17⟩ := Option.bind_eq_some_iff.mp h14
  clear h14
  refine wp_iald dX8_drops_31 e18 ?_
  refine wp_iconst (v := (1 : Int32)) dX8_drops_32 (by decide) ?_
  refine wp_isub dX8_drops_33 ?_
  obtain ⟨w19, e21, h20⟩ := Option.bind_eq_some_iff.mp h17
  clear h17
  refine wp_iast dX8_drops_34 e21 ?_
  cases h20
  exact wp_vret rfl dX8_drops_35
def fX8_drops (w : XW) (l0 : Nat) (l1 : Int32) (l2 : Int32) : Option XW := if isO w l0 8 = true then eX8_drops w l0 l1 l2 else none
theorem OX8_drops {w : XW} {l0 : Nat} {l1 : Int32} {l2 : Int32} {q : XW} (h : fX8_drops w l0 l1 l2 = some q) : isO w l0 8 = true := Decidable.byContradiction fun z => by unfold fX8_drops at h; rw [if_neg z] at h; cases h
theorem MX8_drops {K : CX} {l : Launch} {w : XW} {l0 : Nat} {l1 : Int32} {l2 : Int32} {q : XW} (h : fX8_drops w l0 l1 l2 = some q) : MT K l mX8_drops 2 45 [.ref l0, .int l1, .int l2] w none q := by
  have z := OX8_drops h
  unfold fX8_drops at h
  rw [if_pos z] at h
  exact MT.of (by decide) (Nat.le_of_ble_eq_true rfl) rfl (EX8_drops h)
/-! FractionRunModel.drop(I)I: frames 3, words 67 -/
abbrev mX8_drop : MR := (⟨"FractionRunModel", "drop", "(I)I"⟩, prog_10_method_37_code, 2, (some .int))
theorem dX8_drop_0 : decode prog_10_method_37_code 0 = .ok (.aload_n 0, 1) := by decide +kernel
theorem dX8_drop_1 : decode prog_10_method_37_code 1 = .ok (.iload_n 1, 1) := by decide +kernel
theorem dX8_drop_2 : decode prog_10_method_37_code 2 = .ok (.invokevirtual 158, 3) := by decide +kernel
theorem dX8_drop_5 : decode prog_10_method_37_code 5 = .ok (.ifCond .ne 5, 3) := by decide +kernel
theorem dX8_drop_8 : decode prog_10_method_37_code 8 = .ok (.iconst (-1), 1) := by decide +kernel
theorem dX8_drop_9 : decode prog_10_method_37_code 9 = .ok (.ireturn, 1) := by decide +kernel
theorem dX8_drop_10 : decode prog_10_method_37_code 10 = .ok (.aload_n 0, 1) := by decide +kernel
theorem dX8_drop_11 : decode prog_10_method_37_code 11 = .ok (.iconst 0, 1) := by decide +kernel
theorem dX8_drop_12 : decode prog_10_method_37_code 12 = .ok (.iload_n 1, 1) := by decide +kernel
theorem dX8_drop_13 : decode prog_10_method_37_code 13 = .ok (.invokevirtual 167, 3) := by decide +kernel
theorem dX8_drop_16 : decode prog_10_method_37_code 16 = .ok (.ifCond .lt 14, 3) := by decide +kernel
theorem dX8_drop_19 : decode prog_10_method_37_code 19 = .ok (.aload_n 0, 1) := by decide +kernel
theorem dX8_drop_20 : decode prog_10_method_37_code 20 = .ok (.getfield 25, 3) := by decide +kernel
theorem dX8_drop_23 : decode prog_10_method_37_code 23 = .ok (.bipush 14, 2) := by decide +kernel
theorem dX8_drop_25 : decode prog_10_method_37_code 25 = .ok (.iaload, 1) := by decide +kernel
theorem dX8_drop_26 : decode prog_10_method_37_code 26 = .ok (.iconst 1, 1) := by decide +kernel
theorem dX8_drop_27 : decode prog_10_method_37_code 27 = .ok (.if_icmp .ne 6, 3) := by decide +kernel
theorem dX8_drop_30 : decode prog_10_method_37_code 30 = .ok (.bipush (-2), 2) := by decide +kernel
theorem dX8_drop_32 : decode prog_10_method_37_code 32 = .ok (.ireturn, 1) := by decide +kernel
theorem dX8_drop_33 : decode prog_10_method_37_code 33 = .ok (.aload_n 0, 1) := by decide +kernel
theorem dX8_drop_34 : decode prog_10_method_37_code 34 = .ok (.invokevirtual 172, 3) := by decide +kernel
theorem dX8_drop_37 : decode prog_10_method_37_code 37 = .ok (.aload_n 0, 1) := by decide +kernel
theorem dX8_drop_38 : decode prog_10_method_37_code 38 = .ok (.iconst 0, 1) := by decide +kernel
theorem dX8_drop_39 : decode prog_10_method_37_code 39 = .ok (.iload_n 1, 1) := by decide +kernel
theorem dX8_drop_40 : decode prog_10_method_37_code 40 = .ok (.invokevirtual 185, 3) := by decide +kernel
theorem dX8_drop_43 : decode prog_10_method_37_code 43 = .ok (.aload_n 0, 1) := by decide +kernel
theorem dX8_drop_44 : decode prog_10_method_37_code 44 = .ok (.getfield 25, 3) := by decide +kernel
theorem dX8_drop_47 : decode prog_10_method_37_code 47 = .ok (.bipush 14, 2) := by decide +kernel
theorem dX8_drop_49 : decode prog_10_method_37_code 49 = .ok (.iaload, 1) := by decide +kernel
theorem dX8_drop_50 : decode prog_10_method_37_code 50 = .ok (.ireturn, 1) := by decide +kernel
theorem okM_X8_drop : okM mX8_drop 1 := ⟨tw904, tw15, by decide, by decide, by decide +kernel⟩
def bX8_drop_30 (w : XW) : Option (Int32 × XW) :=
  some ((-2 : Int32), w)
theorem BX8_drop_30 {K : CX} {l : Launch} {n0 k0 : Nat} {w : XW} {q : Int32 × XW} (h0 : bX8_drop_30 w = some q) : WP K l mX8_drop 3 67 n0 k0 (some (.int q.1)) q.2 30 [none, none] [] w := by
  unfold bX8_drop_30 at h0
  refine wp_bipush (v := (-2 : Int32)) dX8_drop_30 (by decide) ?_
  cases h0
  exact wp_iret rfl dX8_drop_32
def eX8_drop (w : XW) (l0 : Nat) (l1 : Int32) : Option (Int32 × XW) :=
  (fX8_isFraction w l0 l1).bind fun q1 =>
  if q1.1 = 0 then
  some ((-1 : Int32), q1.2)
  else
  (fX8_placeOf q1.2 l0 (0 : Int32) l1).bind fun q5 =>
  if q5.1 < 0 then
  bX8_drop_30 q5.2
  else
  (gR q5.2 l0 8 7).bind fun x9 =>
  (aI q5.2 0 x9 (14 : Int32)).bind fun x12 =>
  if x12 = (1 : Int32) then
  bX8_drop_30 q5.2
  else
  (fX8_known q5.2 l0).bind fun q16 =>
  (fX8_drops q16 l0 (0 : Int32) l1).bind fun q19 =>
  (gR q19 l0 8 7).bind fun x22 =>
  (aI q19 0 x22 (14 : Int32)).bind fun x25 =>
  some (x25, q19)
theorem EX8_drop {K : CX} {l : Launch} {n0 k0 : Nat} {w : XW} {l0 : Nat} {l1 : Int32} {q : Int32 × XW} (h0 : eX8_drop w l0 l1 = some q) : WP K l mX8_drop 3 67 n0 k0 (some (.int q.1)) q.2 0 [some (.ref l0), some (.int l1)] [] w := by
  unfold eX8_drop at h0
  refine wp_aload_n dX8_drop_0 rfl ?_
  refine wp_iload_n dX8_drop_1 rfl ?_
  obtain ⟨q1, e3, h2⟩ := Option.bind_eq_some_iff.mp h0
  clear h0
  refine wp_Vi (As := [.int l1]) (S := []) okM_X8_isFraction tw835 twP_X8_isFraction tw833 (OX8_isFraction e3) rfl rfl rfl ⟨(Nat.le_of_ble_eq_true rfl), (Nat.le_of_ble_eq_true rfl)⟩ (Nat.le_of_ble_eq_true rfl) rfl dX8_drop_2 (MX8_isFraction e3) ?_
  refine wp_if_ne (tgt := 10) dX8_drop_5 (by decide) (fun c4 => ?_) (fun c4 => ?_)
  · rw [if_neg c4] at h2
    refine wp_aload_n dX8_drop_10 rfl ?_
    refine wp_iconst (v := (0 : Int32)) dX8_drop_11 (by decide) ?_
    refine wp_iload_n dX8_drop_12 rfl ?_
    obtain ⟨q5, e7, h6⟩ := Option.bind_eq_some_iff.mp h2
    clear h2
    refine wp_Vi (As := [.int (0 : Int32), .int l1]) (S := []) okM_X8_placeOf tw844 twP_X8_placeOf tw842 (OX8_placeOf e7) rfl rfl rfl ⟨(Nat.le_of_ble_eq_true rfl), (Nat.le_of_ble_eq_true rfl)⟩ (Nat.le_of_ble_eq_true rfl) rfl dX8_drop_13 (MX8_placeOf e7) ?_
    refine wp_if_lt (tgt := 30) dX8_drop_16 (by decide) (fun c8 => ?_) (fun c8 => ?_)
    · rw [if_pos c8] at h6
      exact WP.wk (BX8_drop_30 h6) trivial
    · rw [if_neg c8] at h6
      refine wp_aload_n dX8_drop_19 rfl ?_
      obtain ⟨x9, e11, h10⟩ := Option.bind_eq_some_iff.mp h6
      clear h6
      refine wp_getR okX8 (k := 7) (by decide) tw712 dX8_drop_20 e11 ?_
      refine wp_bipush (v := (14 : Int32)) dX8_drop_23 (by decide) ?_
      obtain ⟨x12, e14, h13⟩ := Option.bind_eq_some_iff.mp h10
      clear h10
      refine wp_iald dX8_drop_25 e14 ?_
      refine wp_iconst (v := (1 : Int32)) dX8_drop_26 (by decide) ?_
      refine wp_icmp_ne (tgt := 33) dX8_drop_27 (by decide) (fun c15 => ?_) (fun c15 => ?_)
      · rw [if_neg c15] at h13
        refine wp_aload_n dX8_drop_33 rfl ?_
        obtain ⟨q16, e18, h17⟩ := Option.bind_eq_some_iff.mp h13
        clear h13
        refine wp_Vv (As := []) (S := []) okM_X8_known tw873 twP_X8_known tw871 (OX8_known e18) rfl rfl rfl ⟨(Nat.le_of_ble_eq_true rfl), (Nat.le_of_ble_eq_true rfl)⟩ (Nat.le_of_ble_eq_true rfl) rfl dX8_drop_34 (MX8_known e18) ?_
        refine wp_aload_n dX8_drop_37 rfl ?_
        refine wp_iconst (v := (0 : Int32)) dX8_drop_38 (by decide) ?_
        refine wp_iload_n dX8_drop_39 rfl ?_
        obtain ⟨q19, e21, h20⟩ := Option.bind_eq_some_iff.mp h17
        clear h17
        refine wp_Vv (As := [.int (0 : Int32), .int l1]) (S := []) okM_X8_drops tw907 twP_X8_drops tw905 (OX8_drops e21) rfl rfl rfl ⟨(Nat.le_of_ble_eq_true rfl), (Nat.le_of_ble_eq_true rfl)⟩ (Nat.le_of_ble_eq_true rfl) rfl dX8_drop_40 (MX8_drops e21) ?_
        refine wp_aload_n dX8_drop_43 rfl ?_
        obtain ⟨x22, e24, h23⟩ := Option.bind_eq_some_iff.mp h20
        clear h20
        refine wp_getR okX8 (k := 7) (by decide) tw712 dX8_drop_44 e24 ?_
        refine wp_bipush (v := (14 : Int32)) dX8_drop_47 (by decide) ?_
        obtain ⟨x25, e27, h26⟩ := Option.bind_eq_some_iff.mp h23
        clear h23
        refine wp_iald dX8_drop_49 e27 ?_
        cases h26
        exact wp_iret rfl dX8_drop_50
      · rw [if_pos c15] at h13
        exact WP.wk (BX8_drop_30 h13) trivial
  · rw [if_pos c4] at h2
    refine wp_iconst (v := (-1 : Int32)) dX8_drop_8 (by decide) ?_
    cases h2
    exact wp_iret rfl dX8_drop_9
def fX8_drop (w : XW) (l0 : Nat) (l1 : Int32) : Option (Int32 × XW) := if isO w l0 8 = true then eX8_drop w l0 l1 else none
theorem OX8_drop {w : XW} {l0 : Nat} {l1 : Int32} {q : Int32 × XW} (h : fX8_drop w l0 l1 = some q) : isO w l0 8 = true := Decidable.byContradiction fun z => by unfold fX8_drop at h; rw [if_neg z] at h; cases h
theorem MX8_drop {K : CX} {l : Launch} {w : XW} {l0 : Nat} {l1 : Int32} {q : Int32 × XW} (h : fX8_drop w l0 l1 = some q) : MT K l mX8_drop 3 67 [.ref l0, .int l1] w (some (.int q.1)) q.2 := by
  have z := OX8_drop h
  unfold fX8_drop at h
  rw [if_pos z] at h
  exact MT.of (by decide) (Nat.le_of_ble_eq_true rfl) rfl (EX8_drop h)
/-! FractionRun$Past.pop(LFractionRun$State;)V: frames 2, words 47 -/
abbrev mX3_pop : MR := (⟨"FractionRun$Past", "pop", "(LFractionRun$State;)V"⟩, prog_5_method_4_code, 2, none)
theorem dX3_pop_0 : decode prog_5_method_4_code 0 = .ok (.aload_n 0, 1) := by decide +kernel
theorem dX3_pop_1 : decode prog_5_method_4_code 1 = .ok (.getfield 18, 3) := by decide +kernel
theorem dX3_pop_4 : decode prog_5_method_4_code 4 = .ok (.ifCond .le 42, 3) := by decide +kernel
theorem dX3_pop_7 : decode prog_5_method_4_code 7 = .ok (.aload_n 0, 1) := by decide +kernel
theorem dX3_pop_8 : decode prog_5_method_4_code 8 = .ok (.aload_n 0, 1) := by decide +kernel
theorem dX3_pop_9 : decode prog_5_method_4_code 9 = .ok (.getfield 22, 3) := by decide +kernel
theorem dX3_pop_12 : decode prog_5_method_4_code 12 = .ok (.bipush 8, 2) := by decide +kernel
theorem dX3_pop_14 : decode prog_5_method_4_code 14 = .ok (.iadd, 1) := by decide +kernel
theorem dX3_pop_15 : decode prog_5_method_4_code 15 = .ok (.iconst 1, 1) := by decide +kernel
theorem dX3_pop_16 : decode prog_5_method_4_code 16 = .ok (.isub, 1) := by decide +kernel
theorem dX3_pop_17 : decode prog_5_method_4_code 17 = .ok (.bipush 8, 2) := by decide +kernel
theorem dX3_pop_19 : decode prog_5_method_4_code 19 = .ok (.irem, 1) := by decide +kernel
theorem dX3_pop_20 : decode prog_5_method_4_code 20 = .ok (.putfield 22, 3) := by decide +kernel
theorem dX3_pop_23 : decode prog_5_method_4_code 23 = .ok (.aload_n 0, 1) := by decide +kernel
theorem dX3_pop_24 : decode prog_5_method_4_code 24 = .ok (.dup, 1) := by decide +kernel
theorem dX3_pop_25 : decode prog_5_method_4_code 25 = .ok (.getfield 18, 3) := by decide +kernel
theorem dX3_pop_28 : decode prog_5_method_4_code 28 = .ok (.iconst 1, 1) := by decide +kernel
theorem dX3_pop_29 : decode prog_5_method_4_code 29 = .ok (.isub, 1) := by decide +kernel
theorem dX3_pop_30 : decode prog_5_method_4_code 30 = .ok (.putfield 18, 3) := by decide +kernel
theorem dX3_pop_33 : decode prog_5_method_4_code 33 = .ok (.aload_n 1, 1) := by decide +kernel
theorem dX3_pop_34 : decode prog_5_method_4_code 34 = .ok (.aload_n 0, 1) := by decide +kernel
theorem dX3_pop_35 : decode prog_5_method_4_code 35 = .ok (.getfield 11, 3) := by decide +kernel
theorem dX3_pop_38 : decode prog_5_method_4_code 38 = .ok (.aload_n 0, 1) := by decide +kernel
theorem dX3_pop_39 : decode prog_5_method_4_code 39 = .ok (.getfield 22, 3) := by decide +kernel
theorem dX3_pop_42 : decode prog_5_method_4_code 42 = .ok (.aaload, 1) := by decide +kernel
theorem dX3_pop_43 : decode prog_5_method_4_code 43 = .ok (.invokevirtual 25, 3) := by decide +kernel
theorem dX3_pop_46 : decode prog_5_method_4_code 46 = .ok (.return_, 1) := by decide +kernel
theorem okM_X3_pop : okM mX3_pop 1 := ⟨tw469, tw6, by decide, by decide, by decide +kernel⟩
def bX3_pop_46 (w : XW) : Option XW :=
  some w
theorem BX3_pop_46 {K : CX} {l : Launch} {n0 k0 : Nat} {w : XW} {q : XW} (h0 : bX3_pop_46 w = some q) : WP K l mX3_pop 2 47 n0 k0 none q 46 [none, none] [] w := by
  unfold bX3_pop_46 at h0
  cases h0
  exact wp_vret rfl dX3_pop_46
def eX3_pop (w : XW) (l0 : Nat) (l1 : Nat) : Option XW :=
  (gI w l0 3 2).bind fun x1 =>
  if x1 ≤ 0 then
  bX3_pop_46 w
  else
  (gI w l0 3 1).bind fun x5 =>
  (pV w l0 3 1 (.int (irm ((x5 + (8 : Int32)) - (1 : Int32)) (8 : Int32)))).bind fun w8 =>
  (gI w8 l0 3 2).bind fun x11 =>
  (pV w8 l0 3 2 (.int (x11 - (1 : Int32)))).bind fun w14 =>
  (gR w14 l0 3 0).bind fun x17 =>
  (gI w14 l0 3 1).bind fun x20 =>
  (aR w14 0 x17 x20).bind fun x23 =>
  (fX5_copyFrom w14 l1 x23).bind fun q26 =>
  bX3_pop_46 q26
theorem EX3_pop {K : CX} {l : Launch} {n0 k0 : Nat} {w : XW} {l0 : Nat} {l1 : Nat} {q : XW} (h0 : eX3_pop w l0 l1 = some q) : WP K l mX3_pop 2 47 n0 k0 none q 0 [some (.ref l0), some (.ref l1)] [] w := by
  unfold eX3_pop at h0
  refine wp_aload_n dX3_pop_0 rfl ?_
  obtain ⟨x1, e3, h2⟩ := Option.bind_eq_some_iff.mp h0
  clear h0
  refine wp_getI okX3 (k := 2) (by decide) tw135 dX3_pop_1 e3 ?_
  refine wp_if_le (tgt := 46) dX3_pop_4 (by decide) (fun c4 => ?_) (fun c4 => ?_)
  · rw [if_pos c4] at h2
    exact WP.wk (BX3_pop_46 h2) trivial
  · rw [if_neg c4] at h2
    refine wp_aload_n dX3_pop_7 rfl ?_
    refine wp_aload_n dX3_pop_8 rfl ?_
    obtain ⟨x5, e7, h6⟩ := Option.bind_eq_some_iff.mp h2
    clear h2
    refine wp_getI okX3 (k := 1) (by decide) tw134 dX3_pop_9 e7 ?_
    refine wp_bipush (v := (8 : Int32)) dX3_pop_12 (by decide) ?_
    refine wp_iadd dX3_pop_14 ?_
    refine wp_iconst (v := (1 : Int32)) dX3_pop_15 (by decide) ?_
    refine wp_isub dX3_pop_16 ?_
    refine wp_bipush (v := (8 : Int32)) dX3_pop_17 (by decide) ?_
    refine wp_irm dX3_pop_19 (by decide) ?_
    obtain ⟨w8, e10, h9⟩ := Option.bind_eq_some_iff.mp h6
    clear h6
    refine wp_putV okX3 (k := 1) (by decide) rfl tw134 dX3_pop_20 rfl rfl e10 ?_
    refine wp_aload_n dX3_pop_23 rfl ?_
    refine wp_dup dX3_pop_24 rfl ?_
    obtain ⟨x11, e13, h12⟩ := Option.bind_eq_some_iff.mp h9
    clear h9
    refine wp_getI okX3 (k := 2) (by decide) tw135 dX3_pop_25 e13 ?_
    refine wp_iconst (v := (1 : Int32)) dX3_pop_28 (by decide) ?_
    refine wp_isub dX3_pop_29 ?_
    obtain ⟨w14, e16, h15⟩ := Option.bind_eq_some_iff.mp h12
    clear h12
    refine wp_putV okX3 (k := 2) (by decide) rfl tw135 dX3_pop_30 rfl rfl e16 ?_
    refine wp_aload_n dX3_pop_33 rfl ?_
    refine wp_aload_n dX3_pop_34 rfl ?_
    obtain ⟨x17, e19, h18⟩ := Option.bind_eq_some_iff.mp h15
    clear h15
    refine wp_getR okX3 (k := 0) (by decide) tw133 dX3_pop_35 e19 ?_
    refine wp_aload_n dX3_pop_38 rfl ?_
    obtain ⟨x20, e22, h21⟩ := Option.bind_eq_some_iff.mp h18
    clear h18
    refine wp_getI okX3 (k := 1) (by decide) tw134 dX3_pop_39 e22 ?_
    obtain ⟨x23, e25, h24⟩ := Option.bind_eq_some_iff.mp h21
    clear h21
    refine wp_aald (t := 0) rfl dX3_pop_42 e25 ?_
    obtain ⟨q26, e28, h27⟩ := Option.bind_eq_some_iff.mp h24
    clear h24
    refine wp_Vv (As := [.ref x23]) (S := []) okM_X5_copyFrom tw419 tw420 tw418 (OX5_copyFrom e28) rfl rfl rfl ⟨(Nat.le_of_ble_eq_true rfl), (Nat.le_of_ble_eq_true rfl)⟩ (Nat.le_of_ble_eq_true rfl) rfl dX3_pop_43 (MX5_copyFrom e28) ?_
    exact WP.wk (BX3_pop_46 h27) trivial
def fX3_pop (w : XW) (l0 : Nat) (l1 : Nat) : Option XW := if isO w l0 3 = true then eX3_pop w l0 l1 else none
theorem OX3_pop {w : XW} {l0 : Nat} {l1 : Nat} {q : XW} (h : fX3_pop w l0 l1 = some q) : isO w l0 3 = true := Decidable.byContradiction fun z => by unfold fX3_pop at h; rw [if_neg z] at h; cases h
theorem MX3_pop {K : CX} {l : Launch} {w : XW} {l0 : Nat} {l1 : Nat} {q : XW} (h : fX3_pop w l0 l1 = some q) : MT K l mX3_pop 2 47 [.ref l0, .ref l1] w none q := by
  have z := OX3_pop h
  unfold fX3_pop at h
  rw [if_pos z] at h
  exact MT.of (by decide) (Nat.le_of_ble_eq_true rfl) rfl (EX3_pop h)
/-! FractionRun.undo()I: frames 3, words 68 -/
abbrev mX7_undo : MR := (⟨"FractionRun", "undo", "()I"⟩, prog_1_method_12_code, 1, (some .int))
theorem dX7_undo_0 : decode prog_1_method_12_code 0 = .ok (.aload_n 0, 1) := by decide +kernel
theorem dX7_undo_1 : decode prog_1_method_12_code 1 = .ok (.getfield 49, 3) := by decide +kernel
theorem dX7_undo_4 : decode prog_1_method_12_code 4 = .ok (.getfield 185, 3) := by decide +kernel
theorem dX7_undo_7 : decode prog_1_method_12_code 7 = .ok (.ifCond .ne 6, 3) := by decide +kernel
theorem dX7_undo_10 : decode prog_1_method_12_code 10 = .ok (.bipush (-2), 2) := by decide +kernel
theorem dX7_undo_12 : decode prog_1_method_12_code 12 = .ok (.ireturn, 1) := by decide +kernel
theorem dX7_undo_13 : decode prog_1_method_12_code 13 = .ok (.aload_n 0, 1) := by decide +kernel
theorem dX7_undo_14 : decode prog_1_method_12_code 14 = .ok (.getfield 49, 3) := by decide +kernel
theorem dX7_undo_17 : decode prog_1_method_12_code 17 = .ok (.aload_n 0, 1) := by decide +kernel
theorem dX7_undo_18 : decode prog_1_method_12_code 18 = .ok (.getfield 36, 3) := by decide +kernel
theorem dX7_undo_21 : decode prog_1_method_12_code 21 = .ok (.invokevirtual 186, 3) := by decide +kernel
theorem dX7_undo_24 : decode prog_1_method_12_code 24 = .ok (.aload_n 0, 1) := by decide +kernel
theorem dX7_undo_25 : decode prog_1_method_12_code 25 = .ok (.getfield 49, 3) := by decide +kernel
theorem dX7_undo_28 : decode prog_1_method_12_code 28 = .ok (.getfield 185, 3) := by decide +kernel
theorem dX7_undo_31 : decode prog_1_method_12_code 31 = .ok (.ireturn, 1) := by decide +kernel
theorem okM_X7_undo : okM mX7_undo 0 := ⟨tw465, tw1, by decide, by decide, by decide +kernel⟩
def eX7_undo (w : XW) (l0 : Nat) : Option (Int32 × XW) :=
  (gR w l0 7 7).bind fun x1 =>
  (gI w x1 3 2).bind fun x4 =>
  if x4 = 0 then
  some ((-2 : Int32), w)
  else
  (gR w l0 7 7).bind fun x8 =>
  (gR w l0 7 4).bind fun x11 =>
  (fX3_pop w x8 x11).bind fun q14 =>
  (gR q14 l0 7 7).bind fun x17 =>
  (gI q14 x17 3 2).bind fun x20 =>
  some (x20, q14)
theorem EX7_undo {K : CX} {l : Launch} {n0 k0 : Nat} {w : XW} {l0 : Nat} {q : Int32 × XW} (h0 : eX7_undo w l0 = some q) : WP K l mX7_undo 3 68 n0 k0 (some (.int q.1)) q.2 0 [some (.ref l0)] [] w := by
  unfold eX7_undo at h0
  refine wp_aload_n dX7_undo_0 rfl ?_
  obtain ⟨x1, e3, h2⟩ := Option.bind_eq_some_iff.mp h0
  clear h0
  refine wp_getR okX7 (k := 7) (by decide) tw305 dX7_undo_1 e3 ?_
  obtain ⟨x4, e6, h5⟩ := Option.bind_eq_some_iff.mp h2
  clear h2
  refine wp_getI okX3 (k := 2) (by decide) tw136 dX7_undo_4 e6 ?_
  refine wp_if_ne (tgt := 13) dX7_undo_7 (by decide) (fun c7 => ?_) (fun c7 => ?_)
  · rw [if_neg c7] at h5
    refine wp_aload_n dX7_undo_13 rfl ?_
    obtain ⟨x8, e10, h9⟩ := Option.bind_eq_some_iff.mp h5
    clear h5
    refine wp_getR okX7 (k := 7) (by decide) tw305 dX7_undo_14 e10 ?_
    refine wp_aload_n dX7_undo_17 rfl ?_
    obtain ⟨x11, e13, h12⟩ := Option.bind_eq_some_iff.mp h9
    clear h9
    refine wp_getR okX7 (k := 4) (by decide) tw302 dX7_undo_18 e13 ?_
    obtain ⟨q14, e16, h15⟩ := Option.bind_eq_some_iff.mp h12
    clear h12
    refine wp_Vv (As := [.ref x11]) (S := []) okM_X3_pop tw467 tw468 tw466 (OX3_pop e16) rfl rfl rfl ⟨(Nat.le_of_ble_eq_true rfl), (Nat.le_of_ble_eq_true rfl)⟩ (Nat.le_of_ble_eq_true rfl) rfl dX7_undo_21 (MX3_pop e16) ?_
    refine wp_aload_n dX7_undo_24 rfl ?_
    obtain ⟨x17, e19, h18⟩ := Option.bind_eq_some_iff.mp h15
    clear h15
    refine wp_getR okX7 (k := 7) (by decide) tw305 dX7_undo_25 e19 ?_
    obtain ⟨x20, e22, h21⟩ := Option.bind_eq_some_iff.mp h18
    clear h18
    refine wp_getI okX3 (k := 2) (by decide) tw136 dX7_undo_28 e22 ?_
    cases h21
    exact wp_iret rfl dX7_undo_31
  · rw [if_pos c7] at h5
    refine wp_bipush (v := (-2 : Int32)) dX7_undo_10 (by decide) ?_
    cases h5
    exact wp_iret rfl dX7_undo_12
def fX7_undo (w : XW) (l0 : Nat) : Option (Int32 × XW) := if isO w l0 7 = true then eX7_undo w l0 else none
theorem OX7_undo {w : XW} {l0 : Nat} {q : Int32 × XW} (h : fX7_undo w l0 = some q) : isO w l0 7 = true := Decidable.byContradiction fun z => by unfold fX7_undo at h; rw [if_neg z] at h; cases h
theorem MX7_undo {K : CX} {l : Launch} {w : XW} {l0 : Nat} {q : Int32 × XW} (h : fX7_undo w l0 = some q) : MT K l mX7_undo 3 68 [.ref l0] w (some (.int q.1)) q.2 := by
  have z := OX7_undo h
  unfold fX7_undo at h
  rw [if_pos z] at h
  exact MT.of (by decide) (Nat.le_of_ble_eq_true rfl) rfl (EX7_undo h)
/-! FractionRunModel.undo()I: frames 2, words 43 -/
abbrev mX8_undo : MR := (⟨"FractionRunModel", "undo", "()I"⟩, prog_10_method_38_code, 1, (some .int))
theorem dX8_undo_0 : decode prog_10_method_38_code 0 = .ok (.aload_n 0, 1) := by decide +kernel
theorem dX8_undo_1 : decode prog_10_method_38_code 1 = .ok (.getfield 75, 3) := by decide +kernel
theorem dX8_undo_4 : decode prog_10_method_38_code 4 = .ok (.ifCond .ne 6, 3) := by decide +kernel
theorem dX8_undo_7 : decode prog_10_method_38_code 7 = .ok (.bipush (-2), 2) := by decide +kernel
theorem dX8_undo_9 : decode prog_10_method_38_code 9 = .ok (.ireturn, 1) := by decide +kernel
theorem dX8_undo_10 : decode prog_10_method_38_code 10 = .ok (.aload_n 0, 1) := by decide +kernel
theorem dX8_undo_11 : decode prog_10_method_38_code 11 = .ok (.aload_n 0, 1) := by decide +kernel
theorem dX8_undo_12 : decode prog_10_method_38_code 12 = .ok (.getfield 75, 3) := by decide +kernel
theorem dX8_undo_15 : decode prog_10_method_38_code 15 = .ok (.bipush 18, 2) := by decide +kernel
theorem dX8_undo_17 : decode prog_10_method_38_code 17 = .ok (.imul, 1) := by decide +kernel
theorem dX8_undo_18 : decode prog_10_method_38_code 18 = .ok (.iconst 0, 1) := by decide +kernel
theorem dX8_undo_19 : decode prog_10_method_38_code 19 = .ok (.invokevirtual 155, 3) := by decide +kernel
theorem dX8_undo_22 : decode prog_10_method_38_code 22 = .ok (.aload_n 0, 1) := by decide +kernel
theorem dX8_undo_23 : decode prog_10_method_38_code 23 = .ok (.dup, 1) := by decide +kernel
theorem dX8_undo_24 : decode prog_10_method_38_code 24 = .ok (.getfield 75, 3) := by decide +kernel
theorem dX8_undo_27 : decode prog_10_method_38_code 27 = .ok (.iconst 1, 1) := by decide +kernel
theorem dX8_undo_28 : decode prog_10_method_38_code 28 = .ok (.isub, 1) := by decide +kernel
theorem dX8_undo_29 : decode prog_10_method_38_code 29 = .ok (.putfield 75, 3) := by decide +kernel
theorem dX8_undo_32 : decode prog_10_method_38_code 32 = .ok (.aload_n 0, 1) := by decide +kernel
theorem dX8_undo_33 : decode prog_10_method_38_code 33 = .ok (.getfield 75, 3) := by decide +kernel
theorem dX8_undo_36 : decode prog_10_method_38_code 36 = .ok (.ireturn, 1) := by decide +kernel
theorem okM_X8_undo : okM mX8_undo 0 := ⟨tw912, tw15, by decide, by decide, by decide +kernel⟩
def eX8_undo (w : XW) (l0 : Nat) : Option (Int32 × XW) :=
  (gI w l0 8 8).bind fun x1 =>
  if x1 = 0 then
  some ((-2 : Int32), w)
  else
  (gI w l0 8 8).bind fun x5 =>
  (fX8_copies w l0 (x5 * (18 : Int32)) (0 : Int32)).bind fun q8 =>
  (gI q8 l0 8 8).bind fun x11 =>
  (pV q8 l0 8 8 (.int (x11 - (1 : Int32)))).bind fun w14 =>
  (gI w14 l0 8 8).bind fun x17 =>
  some (x17, w14)
theorem EX8_undo {K : CX} {l : Launch} {n0 k0 : Nat} {w : XW} {l0 : Nat} {q : Int32 × XW} (h0 : eX8_undo w l0 = some q) : WP K l mX8_undo 2 43 n0 k0 (some (.int q.1)) q.2 0 [some (.ref l0)] [] w := by
  unfold eX8_undo at h0
  refine wp_aload_n dX8_undo_0 rfl ?_
  obtain ⟨x1, e3, h2⟩ := Option.bind_eq_some_iff.mp h0
  clear h0
  refine wp_getI okX8 (k := 8) (by decide) tw713 dX8_undo_1 e3 ?_
  refine wp_if_ne (tgt := 10) dX8_undo_4 (by decide) (fun c4 => ?_) (fun c4 => ?_)
  · rw [if_neg c4] at h2
    refine wp_aload_n dX8_undo_10 rfl ?_
    refine wp_aload_n dX8_undo_11 rfl ?_
    obtain ⟨x5, e7, h6⟩ := Option.bind_eq_some_iff.mp h2
    clear h2
    refine wp_getI okX8 (k := 8) (by decide) tw713 dX8_undo_12 e7 ?_
    refine wp_bipush (v := (18 : Int32)) dX8_undo_15 (by decide) ?_
    refine wp_imul dX8_undo_17 ?_
    refine wp_iconst (v := (0 : Int32)) dX8_undo_18 (by decide) ?_
    obtain ⟨q8, e10, h9⟩ := Option.bind_eq_some_iff.mp h6
    clear h6
    refine wp_Vv (As := [.int (x5 * (18 : Int32)), .int (0 : Int32)]) (S := []) okM_X8_copies tw877 twP_X8_copies tw875 (OX8_copies e10) rfl rfl rfl ⟨(Nat.le_of_ble_eq_true rfl), (Nat.le_of_ble_eq_true rfl)⟩ (Nat.le_of_ble_eq_true rfl) rfl dX8_undo_19 (MX8_copies e10) ?_
    refine wp_aload_n dX8_undo_22 rfl ?_
    refine wp_dup dX8_undo_23 rfl ?_
    obtain ⟨x11, e13, h12⟩ := Option.bind_eq_some_iff.mp h9
    clear h9
    refine wp_getI okX8 (k := 8) (by decide) tw713 dX8_undo_24 e13 ?_
    refine wp_iconst (v := (1 : Int32)) dX8_undo_27 (by decide) ?_
    refine wp_isub dX8_undo_28 ?_
    obtain ⟨w14, e16, h15⟩ := Option.bind_eq_some_iff.mp h12
    clear h12
    refine wp_putV okX8 (k := 8) (by decide) rfl tw713 dX8_undo_29 rfl rfl e16 ?_
    refine wp_aload_n dX8_undo_32 rfl ?_
    obtain ⟨x17, e19, h18⟩ := Option.bind_eq_some_iff.mp h15
    clear h15
    refine wp_getI okX8 (k := 8) (by decide) tw713 dX8_undo_33 e19 ?_
    cases h18
    exact wp_iret rfl dX8_undo_36
  · rw [if_pos c4] at h2
    refine wp_bipush (v := (-2 : Int32)) dX8_undo_7 (by decide) ?_
    cases h2
    exact wp_iret rfl dX8_undo_9
def fX8_undo (w : XW) (l0 : Nat) : Option (Int32 × XW) := if isO w l0 8 = true then eX8_undo w l0 else none
theorem OX8_undo {w : XW} {l0 : Nat} {q : Int32 × XW} (h : fX8_undo w l0 = some q) : isO w l0 8 = true := Decidable.byContradiction fun z => by unfold fX8_undo at h; rw [if_neg z] at h; cases h
theorem MX8_undo {K : CX} {l : Launch} {w : XW} {l0 : Nat} {q : Int32 × XW} (h : fX8_undo w l0 = some q) : MT K l mX8_undo 2 43 [.ref l0] w (some (.int q.1)) q.2 := by
  have z := OX8_undo h
  unfold fX8_undo at h
  rw [if_pos z] at h
  exact MT.of (by decide) (Nat.le_of_ble_eq_true rfl) rfl (EX8_undo h)
/-! FractionRun.power(II)I: frames 5, words 116 -/
abbrev mX7_power : MR := (⟨"FractionRun", "power", "(II)I"⟩, prog_1_method_13_code, 3, (some .int))
theorem dX7_power_0 : decode prog_1_method_13_code 0 = .ok (.iload_n 1, 1) := by decide +kernel
theorem dX7_power_1 : decode prog_1_method_13_code 1 = .ok (.invokestatic 144, 3) := by decide +kernel
theorem dX7_power_4 : decode prog_1_method_13_code 4 = .ok (.ifCond .eq 14, 3) := by decide +kernel
theorem dX7_power_7 : decode prog_1_method_13_code 7 = .ok (.iload_n 2, 1) := by decide +kernel
theorem dX7_power_8 : decode prog_1_method_13_code 8 = .ok (.ifCond .lt 10, 3) := by decide +kernel
theorem dX7_power_11 : decode prog_1_method_13_code 11 = .ok (.iload_n 2, 1) := by decide +kernel
theorem dX7_power_12 : decode prog_1_method_13_code 12 = .ok (.sipush 200, 3) := by decide +kernel
theorem dX7_power_15 : decode prog_1_method_13_code 15 = .ok (.if_icmp .le 5, 3) := by decide +kernel
theorem dX7_power_18 : decode prog_1_method_13_code 18 = .ok (.iconst (-1), 1) := by decide +kernel
theorem dX7_power_19 : decode prog_1_method_13_code 19 = .ok (.ireturn, 1) := by decide +kernel
theorem dX7_power_20 : decode prog_1_method_13_code 20 = .ok (.aload_n 0, 1) := by decide +kernel
theorem dX7_power_21 : decode prog_1_method_13_code 21 = .ok (.getfield 40, 3) := by decide +kernel
theorem dX7_power_24 : decode prog_1_method_13_code 24 = .ok (.aload_n 0, 1) := by decide +kernel
theorem dX7_power_25 : decode prog_1_method_13_code 25 = .ok (.getfield 36, 3) := by decide +kernel
theorem dX7_power_28 : decode prog_1_method_13_code 28 = .ok (.invokevirtual 189, 3) := by decide +kernel
theorem dX7_power_31 : decode prog_1_method_13_code 31 = .ok (.aload_n 0, 1) := by decide +kernel
theorem dX7_power_32 : decode prog_1_method_13_code 32 = .ok (.getfield 40, 3) := by decide +kernel
theorem dX7_power_35 : decode prog_1_method_13_code 35 = .ok (.aload_n 0, 1) := by decide +kernel
theorem dX7_power_36 : decode prog_1_method_13_code 36 = .ok (.getfield 26, 3) := by decide +kernel
theorem dX7_power_39 : decode prog_1_method_13_code 39 = .ok (.iload_n 2, 1) := by decide +kernel
theorem dX7_power_40 : decode prog_1_method_13_code 40 = .ok (.invokevirtual 167, 3) := by decide +kernel
theorem dX7_power_43 : decode prog_1_method_13_code 43 = .ok (.pop, 1) := by decide +kernel
theorem dX7_power_44 : decode prog_1_method_13_code 44 = .ok (.aload_n 0, 1) := by decide +kernel
theorem dX7_power_45 : decode prog_1_method_13_code 45 = .ok (.getfield 40, 3) := by decide +kernel
theorem dX7_power_48 : decode prog_1_method_13_code 48 = .ok (.getfield 147, 3) := by decide +kernel
theorem dX7_power_51 : decode prog_1_method_13_code 51 = .ok (.iload_n 1, 1) := by decide +kernel
theorem dX7_power_52 : decode prog_1_method_13_code 52 = .ok (.iaload, 1) := by decide +kernel
theorem dX7_power_53 : decode prog_1_method_13_code 53 = .ok (.ireturn, 1) := by decide +kernel
theorem okM_X7_power : okM mX7_power 2 := ⟨tw473, tw1, by decide, by decide, by decide +kernel⟩
def bX7_power_18 (w : XW) : Option (Int32 × XW) :=
  some ((-1 : Int32), w)
theorem BX7_power_18 {K : CX} {l : Launch} {n0 k0 : Nat} {w : XW} {q : Int32 × XW} (h0 : bX7_power_18 w = some q) : WP K l mX7_power 5 116 n0 k0 (some (.int q.1)) q.2 18 [none, none, none] [] w := by
  unfold bX7_power_18 at h0
  refine wp_iconst (v := (-1 : Int32)) dX7_power_18 (by decide) ?_
  cases h0
  exact wp_iret rfl dX7_power_19
def eX7_power (w : XW) (l0 : Nat) (l1 : Int32) (l2 : Int32) : Option (Int32 × XW) :=
  (fX7_isPrime w l1).bind fun q1 =>
  if q1.1 = 0 then
  bX7_power_18 q1.2
  else
  if l2 < 0 then
  bX7_power_18 q1.2
  else
  if l2 ≤ (200 : Int32) then
  (gR q1.2 l0 7 5).bind fun x7 =>
  (gR q1.2 l0 7 4).bind fun x10 =>
  (fX5_copyFrom q1.2 x7 x10).bind fun q13 =>
  (gR q13 l0 7 5).bind fun x16 =>
  (gR q13 l0 7 2).bind fun x19 =>
  (fX5_takeSteps q13 x16 x19 l2).bind fun q22 =>
  (gR q22.2 l0 7 5).bind fun x25 =>
  (gR q22.2 x25 5 0).bind fun x28 =>
  (aI q22.2 0 x28 l1).bind fun x31 =>
  some (x31, q22.2)
  else
  bX7_power_18 q1.2
theorem EX7_power {K : CX} {l : Launch} {n0 k0 : Nat} {w : XW} {l0 : Nat} {l1 : Int32} {l2 : Int32} {q : Int32 × XW} (h0 : eX7_power w l0 l1 l2 = some q) : WP K l mX7_power 5 116 n0 k0 (some (.int q.1)) q.2 0 [some (.ref l0), some (.int l1), some (.int l2)] [] w := by
  unfold eX7_power at h0
  refine wp_iload_n dX7_power_0 rfl ?_
  obtain ⟨q1, e3, h2⟩ := Option.bind_eq_some_iff.mp h0
  clear h0
  refine wp_Si (As := [.int l1]) (S := []) okM_X7_isPrime tw399 tw398 rfl ⟨(Nat.le_of_ble_eq_true rfl), (Nat.le_of_ble_eq_true rfl)⟩ (Nat.le_of_ble_eq_true rfl) rfl dX7_power_1 (MX7_isPrime e3) ?_
  refine wp_if_eq (tgt := 18) dX7_power_4 (by decide) (fun c4 => ?_) (fun c4 => ?_)
  · rw [if_pos c4] at h2
    exact WP.wk (BX7_power_18 h2) trivial
  · rw [if_neg c4] at h2
    refine wp_iload_n dX7_power_7 rfl ?_
    refine wp_if_lt (tgt := 18) dX7_power_8 (by decide) (fun c5 => ?_) (fun c5 => ?_)
    · rw [if_pos c5] at h2
      exact WP.wk (BX7_power_18 h2) trivial
    · rw [if_neg c5] at h2
      refine wp_iload_n dX7_power_11 rfl ?_
      refine wp_sipush (v := (200 : Int32)) dX7_power_12 (by decide) ?_
      refine wp_icmp_le (tgt := 20) dX7_power_15 (by decide) (fun c6 => ?_) (fun c6 => ?_)
      · rw [if_pos c6] at h2
        refine wp_aload_n dX7_power_20 rfl ?_
        obtain ⟨x7, e9, h8⟩ := Option.bind_eq_some_iff.mp h2
        clear h2
        refine wp_getR okX7 (k := 5) (by decide) tw303 dX7_power_21 e9 ?_
        refine wp_aload_n dX7_power_24 rfl ?_
        obtain ⟨x10, e12, h11⟩ := Option.bind_eq_some_iff.mp h8
        clear h8
        refine wp_getR okX7 (k := 4) (by decide) tw302 dX7_power_25 e12 ?_
        obtain ⟨q13, e15, h14⟩ := Option.bind_eq_some_iff.mp h11
        clear h11
        refine wp_Vv (As := [.ref x10]) (S := []) okM_X5_copyFrom tw419 tw420 tw474 (OX5_copyFrom e15) rfl rfl rfl ⟨(Nat.le_of_ble_eq_true rfl), (Nat.le_of_ble_eq_true rfl)⟩ (Nat.le_of_ble_eq_true rfl) rfl dX7_power_28 (MX5_copyFrom e15) ?_
        refine wp_aload_n dX7_power_31 rfl ?_
        obtain ⟨x16, e18, h17⟩ := Option.bind_eq_some_iff.mp h14
        clear h14
        refine wp_getR okX7 (k := 5) (by decide) tw303 dX7_power_32 e18 ?_
        refine wp_aload_n dX7_power_35 rfl ?_
        obtain ⟨x19, e21, h20⟩ := Option.bind_eq_some_iff.mp h17
        clear h17
        refine wp_getR okX7 (k := 2) (by decide) tw300 dX7_power_36 e21 ?_
        refine wp_iload_n dX7_power_39 rfl ?_
        obtain ⟨q22, e24, h23⟩ := Option.bind_eq_some_iff.mp h20
        clear h20
        refine wp_Vi (As := [.ref x19, .int l2]) (S := []) okM_X5_takeSteps tw427 tw428 tw426 (OX5_takeSteps e24) rfl rfl rfl ⟨(Nat.le_of_ble_eq_true rfl), (Nat.le_of_ble_eq_true rfl)⟩ (Nat.le_of_ble_eq_true rfl) rfl dX7_power_40 (MX5_takeSteps e24) ?_
        refine wp_pop dX7_power_43 rfl ?_
        refine wp_aload_n dX7_power_44 rfl ?_
        obtain ⟨x25, e27, h26⟩ := Option.bind_eq_some_iff.mp h23
        clear h23
        refine wp_getR okX7 (k := 5) (by decide) tw303 dX7_power_45 e27 ?_
        obtain ⟨x28, e30, h29⟩ := Option.bind_eq_some_iff.mp h26
        clear h26
        refine wp_getR okX5 (k := 0) (by decide) tw94 dX7_power_48 e30 ?_
        refine wp_iload_n dX7_power_51 rfl ?_
        obtain ⟨x31, e33, h32⟩ := Option.bind_eq_some_iff.mp h29
        clear h29
        refine wp_iald dX7_power_52 e33 ?_
        cases h32
        exact wp_iret rfl dX7_power_53
      · rw [if_neg c6] at h2
        exact WP.wk (BX7_power_18 h2) trivial
def fX7_power (w : XW) (l0 : Nat) (l1 : Int32) (l2 : Int32) : Option (Int32 × XW) := if isO w l0 7 = true then eX7_power w l0 l1 l2 else none
theorem OX7_power {w : XW} {l0 : Nat} {l1 : Int32} {l2 : Int32} {q : Int32 × XW} (h : fX7_power w l0 l1 l2 = some q) : isO w l0 7 = true := Decidable.byContradiction fun z => by unfold fX7_power at h; rw [if_neg z] at h; cases h
theorem MX7_power {K : CX} {l : Launch} {w : XW} {l0 : Nat} {l1 : Int32} {l2 : Int32} {q : Int32 × XW} (h : fX7_power w l0 l1 l2 = some q) : MT K l mX7_power 5 116 [.ref l0, .int l1, .int l2] w (some (.int q.1)) q.2 := by
  have z := OX7_power h
  unfold fX7_power at h
  rw [if_pos z] at h
  exact MT.of (by decide) (Nat.le_of_ble_eq_true rfl) rfl (EX7_power h)
/-! FractionRunModel.goes(II)V: frames 6, words 140 -/
abbrev mX8_goes : MR := (⟨"FractionRunModel", "goes", "(II)V"⟩, prog_10_method_39_code, 4, none)
theorem dX8_goes_0 : decode prog_10_method_39_code 0 = .ok (.iconst 0, 1) := by decide +kernel
theorem dX8_goes_1 : decode prog_10_method_39_code 1 = .ok (.istore_n 3, 1) := by decide +kernel
theorem dX8_goes_2 : decode prog_10_method_39_code 2 = .ok (.iload_n 3, 1) := by decide +kernel
theorem dX8_goes_3 : decode prog_10_method_39_code 3 = .ok (.iload_n 2, 1) := by decide +kernel
theorem dX8_goes_4 : decode prog_10_method_39_code 4 = .ok (.if_icmp .ge 15, 3) := by decide +kernel
theorem dX8_goes_7 : decode prog_10_method_39_code 7 = .ok (.aload_n 0, 1) := by decide +kernel
theorem dX8_goes_8 : decode prog_10_method_39_code 8 = .ok (.iload_n 1, 1) := by decide +kernel
theorem dX8_goes_9 : decode prog_10_method_39_code 9 = .ok (.invokevirtual 175, 3) := by decide +kernel
theorem dX8_goes_12 : decode prog_10_method_39_code 12 = .ok (.pop, 1) := by decide +kernel
theorem dX8_goes_13 : decode prog_10_method_39_code 13 = .ok (.iinc 3 1, 3) := by decide +kernel
theorem dX8_goes_16 : decode prog_10_method_39_code 16 = .ok (.goto (-14), 3) := by decide +kernel
theorem dX8_goes_19 : decode prog_10_method_39_code 19 = .ok (.return_, 1) := by decide +kernel
theorem okM_X8_goes : okM mX8_goes 2 := ⟨tw921, tw15, by decide, by decide, by decide +kernel⟩
abbrev KTX8_goes : Type := (XW → Nat → Int32 → Int32 → Int32 → Option XW)
def hX8_goes_2 (k : KTX8_goes) (w : XW) (l0 : Nat) (l1 : Int32) (l2 : Int32) (l3 : Int32) : Option XW :=
  if l2 ≤ l3 then
  some w
  else
  (fX8_step w l0 l1).bind fun q2 =>
  k q2.2 l0 l1 l2 (l3 + (1 : Int32))
theorem HX8_goes_2 {K : CX} {l : Launch} {n0 k0 : Nat} {k : KTX8_goes} (hk0 : ∀ (w : XW) (l0 : Nat) (l1 : Int32) (l2 : Int32) (l3 : Int32) (q : XW), k w l0 l1 l2 l3 = some q → WP K l mX8_goes 6 140 n0 k0 none q 2 [some (.ref l0), some (.int l1), some (.int l2), some (.int l3)] [] w) {w : XW} {l0 : Nat} {l1 : Int32} {l2 : Int32} {l3 : Int32} {q : XW} (h0 : hX8_goes_2 k w l0 l1 l2 l3 = some q) : WP K l mX8_goes 6 140 n0 k0 none q 2 [some (.ref l0), some (.int l1), some (.int l2), some (.int l3)] [] w := by
  unfold hX8_goes_2 at h0
  refine wp_iload_n dX8_goes_2 rfl ?_
  refine wp_iload_n dX8_goes_3 rfl ?_
  refine wp_icmp_ge (tgt := 19) dX8_goes_4 (by decide) (fun c1 => ?_) (fun c1 => ?_)
  · rw [if_pos c1] at h0
    cases h0
    exact wp_vret rfl dX8_goes_19
  · rw [if_neg c1] at h0
    refine wp_aload_n dX8_goes_7 rfl ?_
    refine wp_iload_n dX8_goes_8 rfl ?_
    obtain ⟨q2, e4, h3⟩ := Option.bind_eq_some_iff.mp h0
    clear h0
    refine wp_Vi (As := [.int l1]) (S := []) okM_X8_step tw881 twP_X8_step tw879 (OX8_step e4) rfl rfl rfl ⟨(Nat.le_of_ble_eq_true rfl), (Nat.le_of_ble_eq_true rfl)⟩ (Nat.le_of_ble_eq_true rfl) rfl dX8_goes_9 (MX8_step e4) ?_
    refine wp_pop dX8_goes_12 rfl ?_
    refine wp_iinc (v := (l3 + (1 : Int32))) (L1 := [some (.ref l0), some (.int l1), some (.int l2), some (.int (l3 + (1 : Int32)))]) dX8_goes_13 (Nat.le_of_ble_eq_true rfl) rfl (congrArg (fun z => l3 + z) (by decide)) rfl ?_
    refine wp_goto (tgt := 2) dX8_goes_16 (by decide) ?_
    exact WP.wk (hk0 _ _ _ _ _ _ h3) (And.intro rfl (And.intro rfl (And.intro rfl (And.intro rfl trivial))))
def eX8_goes (k : KTX8_goes) (w : XW) (l0 : Nat) (l1 : Int32) (l2 : Int32) : Option XW :=
  k w l0 l1 l2 (0 : Int32)
theorem EX8_goes {K : CX} {l : Launch} {n0 k0 : Nat} {k : KTX8_goes} (hk0 : ∀ (w : XW) (l0 : Nat) (l1 : Int32) (l2 : Int32) (l3 : Int32) (q : XW), k w l0 l1 l2 l3 = some q → WP K l mX8_goes 6 140 n0 k0 none q 2 [some (.ref l0), some (.int l1), some (.int l2), some (.int l3)] [] w) {w : XW} {l0 : Nat} {l1 : Int32} {l2 : Int32} {q : XW} (h0 : eX8_goes k w l0 l1 l2 = some q) : WP K l mX8_goes 6 140 n0 k0 none q 0 [some (.ref l0), some (.int l1), some (.int l2), none] [] w := by
  unfold eX8_goes at h0
  refine wp_iconst (v := (0 : Int32)) dX8_goes_0 (by decide) ?_
  refine wp_istore_n (L1 := [some (.ref l0), some (.int l1), some (.int l2), some (.int (0 : Int32))]) dX8_goes_1 (Nat.le_of_ble_eq_true rfl) rfl ?_
  exact WP.wk (hk0 _ _ _ _ _ _ h0) (And.intro rfl (And.intro rfl (And.intro rfl (And.intro rfl trivial))))
def loX8_goes : Nat → KTX8_goes
  | 0 => fun _ _ _ _ _ => none
  | n + 1 => hX8_goes_2 (loX8_goes n)
theorem LOX8_goes {K : CX} {l : Launch} {n0 k0 : Nat} : ∀ n : Nat, (∀ (w : XW) (l0 : Nat) (l1 : Int32) (l2 : Int32) (l3 : Int32) (q : XW), (loX8_goes n) w l0 l1 l2 l3 = some q → WP K l mX8_goes 6 140 n0 k0 none q 2 [some (.ref l0), some (.int l1), some (.int l2), some (.int l3)] [] w) := by
  intro n
  induction n with
  | zero => exact fun _ _ _ _ _ q h => (by cases h)
  | succ n ih => exact fun _ _ _ _ _ q h => HX8_goes_2 ih h
def fX8_goes (w : XW) (l0 : Nat) (l1 : Int32) (l2 : Int32) : Option XW := if isO w l0 8 = true then eX8_goes (loX8_goes FU) w l0 l1 l2 else none
theorem OX8_goes {w : XW} {l0 : Nat} {l1 : Int32} {l2 : Int32} {q : XW} (h : fX8_goes w l0 l1 l2 = some q) : isO w l0 8 = true := Decidable.byContradiction fun z => by unfold fX8_goes at h; rw [if_neg z] at h; cases h
theorem MX8_goes {K : CX} {l : Launch} {w : XW} {l0 : Nat} {l1 : Int32} {l2 : Int32} {q : XW} (h : fX8_goes w l0 l1 l2 = some q) : MT K l mX8_goes 6 140 [.ref l0, .int l1, .int l2] w none q := by
  have z := OX8_goes h
  unfold fX8_goes at h
  rw [if_pos z] at h
  exact MT.of (by decide) (Nat.le_of_ble_eq_true rfl) rfl (EX8_goes (LOX8_goes FU) h)
/-! FractionRunModel.power(II)I: frames 7, words 163 -/
abbrev mX8_power : MR := (⟨"FractionRunModel", "power", "(II)I"⟩, prog_10_method_40_code, 3, (some .int))
theorem dX8_power_0 : decode prog_10_method_40_code 0 = .ok (.iload_n 1, 1) := by decide +kernel
theorem dX8_power_1 : decode prog_10_method_40_code 1 = .ok (.i2l, 1) := by decide +kernel
theorem dX8_power_2 : decode prog_10_method_40_code 2 = .ok (.lconst 0, 1) := by decide +kernel
theorem dX8_power_3 : decode prog_10_method_40_code 3 = .ok (.ldc2_w 161, 3) := by decide +kernel
theorem dX8_power_6 : decode prog_10_method_40_code 6 = .ok (.invokestatic 88, 3) := by decide +kernel
theorem dX8_power_9 : decode prog_10_method_40_code 9 = .ok (.ifCond .eq 15, 3) := by decide +kernel
theorem dX8_power_12 : decode prog_10_method_40_code 12 = .ok (.iload_n 2, 1) := by decide +kernel
theorem dX8_power_13 : decode prog_10_method_40_code 13 = .ok (.i2l, 1) := by decide +kernel
theorem dX8_power_14 : decode prog_10_method_40_code 14 = .ok (.lconst 0, 1) := by decide +kernel
theorem dX8_power_15 : decode prog_10_method_40_code 15 = .ok (.ldc2_w 188, 3) := by decide +kernel
theorem dX8_power_18 : decode prog_10_method_40_code 18 = .ok (.invokestatic 88, 3) := by decide +kernel
theorem dX8_power_21 : decode prog_10_method_40_code 21 = .ok (.ifCond .ne 5, 3) := by decide +kernel
theorem dX8_power_24 : decode prog_10_method_40_code 24 = .ok (.iconst (-1), 1) := by decide +kernel
theorem dX8_power_25 : decode prog_10_method_40_code 25 = .ok (.ireturn, 1) := by decide +kernel
theorem dX8_power_26 : decode prog_10_method_40_code 26 = .ok (.aload_n 0, 1) := by decide +kernel
theorem dX8_power_27 : decode prog_10_method_40_code 27 = .ok (.iconst 0, 1) := by decide +kernel
theorem dX8_power_28 : decode prog_10_method_40_code 28 = .ok (.sipush 198, 3) := by decide +kernel
theorem dX8_power_31 : decode prog_10_method_40_code 31 = .ok (.invokevirtual 155, 3) := by decide +kernel
theorem dX8_power_34 : decode prog_10_method_40_code 34 = .ok (.aload_n 0, 1) := by decide +kernel
theorem dX8_power_35 : decode prog_10_method_40_code 35 = .ok (.sipush 198, 3) := by decide +kernel
theorem dX8_power_38 : decode prog_10_method_40_code 38 = .ok (.iload_n 2, 1) := by decide +kernel
theorem dX8_power_39 : decode prog_10_method_40_code 39 = .ok (.invokevirtual 190, 3) := by decide +kernel
theorem dX8_power_42 : decode prog_10_method_40_code 42 = .ok (.aload_n 0, 1) := by decide +kernel
theorem dX8_power_43 : decode prog_10_method_40_code 43 = .ok (.getfield 25, 3) := by decide +kernel
theorem dX8_power_46 : decode prog_10_method_40_code 46 = .ok (.sipush 198, 3) := by decide +kernel
theorem dX8_power_49 : decode prog_10_method_40_code 49 = .ok (.iload_n 1, 1) := by decide +kernel
theorem dX8_power_50 : decode prog_10_method_40_code 50 = .ok (.iadd, 1) := by decide +kernel
theorem dX8_power_51 : decode prog_10_method_40_code 51 = .ok (.iaload, 1) := by decide +kernel
theorem dX8_power_52 : decode prog_10_method_40_code 52 = .ok (.ireturn, 1) := by decide +kernel
theorem okM_X8_power : okM mX8_power 2 := ⟨tw916, tw15, by decide, by decide, by decide +kernel⟩
def bX8_power_24 (w : XW) : Option (Int32 × XW) :=
  some ((-1 : Int32), w)
theorem BX8_power_24 {K : CX} {l : Launch} {n0 k0 : Nat} {w : XW} {q : Int32 × XW} (h0 : bX8_power_24 w = some q) : WP K l mX8_power 7 163 n0 k0 (some (.int q.1)) q.2 24 [none, none, none] [] w := by
  unfold bX8_power_24 at h0
  refine wp_iconst (v := (-1 : Int32)) dX8_power_24 (by decide) ?_
  cases h0
  exact wp_iret rfl dX8_power_25
def eX8_power (w : XW) (l0 : Nat) (l1 : Int32) (l2 : Int32) : Option (Int32 × XW) :=
  (fX8_in w (l1.toInt64) (0 : Int64) (5 : Int64)).bind fun q1 =>
  if q1.1 = 0 then
  bX8_power_24 q1.2
  else
  (fX8_in q1.2 (l2.toInt64) (0 : Int64) (200 : Int64)).bind fun q5 =>
  if q5.1 = 0 then
  bX8_power_24 q5.2
  else
  (fX8_copies q5.2 l0 (0 : Int32) (198 : Int32)).bind fun q9 =>
  (fX8_goes q9 l0 (198 : Int32) l2).bind fun q12 =>
  (gR q12 l0 8 7).bind fun x15 =>
  (aI q12 0 x15 ((198 : Int32) + l1)).bind fun x18 =>
  some (x18, q12)
theorem EX8_power {K : CX} {l : Launch} {n0 k0 : Nat} {w : XW} {l0 : Nat} {l1 : Int32} {l2 : Int32} {q : Int32 × XW} (h0 : eX8_power w l0 l1 l2 = some q) : WP K l mX8_power 7 163 n0 k0 (some (.int q.1)) q.2 0 [some (.ref l0), some (.int l1), some (.int l2)] [] w := by
  unfold eX8_power at h0
  refine wp_iload_n dX8_power_0 rfl ?_
  refine wp_i2l dX8_power_1 ?_
  refine wp_lconst (v := (0 : Int64)) dX8_power_2 (by decide) ?_
  refine wp_ldc2 tw837 dX8_power_3 ?_
  obtain ⟨q1, e3, h2⟩ := Option.bind_eq_some_iff.mp h0
  clear h0
  refine wp_Si (As := [.long (l1.toInt64), .long (0 : Int64), .long (5 : Int64)]) (S := []) okM_X8_in tw785 tw784 rfl ⟨(Nat.le_of_ble_eq_true rfl), (Nat.le_of_ble_eq_true rfl)⟩ (Nat.le_of_ble_eq_true rfl) rfl dX8_power_6 (MX8_in e3) ?_
  refine wp_if_eq (tgt := 24) dX8_power_9 (by decide) (fun c4 => ?_) (fun c4 => ?_)
  · rw [if_pos c4] at h2
    exact WP.wk (BX8_power_24 h2) trivial
  · rw [if_neg c4] at h2
    refine wp_iload_n dX8_power_12 rfl ?_
    refine wp_i2l dX8_power_13 ?_
    refine wp_lconst (v := (0 : Int64)) dX8_power_14 (by decide) ?_
    refine wp_ldc2 tw917 dX8_power_15 ?_
    obtain ⟨q5, e7, h6⟩ := Option.bind_eq_some_iff.mp h2
    clear h2
    refine wp_Si (As := [.long (l2.toInt64), .long (0 : Int64), .long (200 : Int64)]) (S := []) okM_X8_in tw785 tw784 rfl ⟨(Nat.le_of_ble_eq_true rfl), (Nat.le_of_ble_eq_true rfl)⟩ (Nat.le_of_ble_eq_true rfl) rfl dX8_power_18 (MX8_in e7) ?_
    refine wp_if_ne (tgt := 26) dX8_power_21 (by decide) (fun c8 => ?_) (fun c8 => ?_)
    · rw [if_neg c8] at h6
      refine wp_aload_n dX8_power_26 rfl ?_
      refine wp_iconst (v := (0 : Int32)) dX8_power_27 (by decide) ?_
      refine wp_sipush (v := (198 : Int32)) dX8_power_28 (by decide) ?_
      obtain ⟨q9, e11, h10⟩ := Option.bind_eq_some_iff.mp h6
      clear h6
      refine wp_Vv (As := [.int (0 : Int32), .int (198 : Int32)]) (S := []) okM_X8_copies tw877 twP_X8_copies tw875 (OX8_copies e11) rfl rfl rfl ⟨(Nat.le_of_ble_eq_true rfl), (Nat.le_of_ble_eq_true rfl)⟩ (Nat.le_of_ble_eq_true rfl) rfl dX8_power_31 (MX8_copies e11) ?_
      refine wp_aload_n dX8_power_34 rfl ?_
      refine wp_sipush (v := (198 : Int32)) dX8_power_35 (by decide) ?_
      refine wp_iload_n dX8_power_38 rfl ?_
      obtain ⟨q12, e14, h13⟩ := Option.bind_eq_some_iff.mp h10
      clear h10
      refine wp_Vv (As := [.int (198 : Int32), .int l2]) (S := []) okM_X8_goes tw920 twP_X8_goes tw918 (OX8_goes e14) rfl rfl rfl ⟨(Nat.le_of_ble_eq_true rfl), (Nat.le_of_ble_eq_true rfl)⟩ (Nat.le_of_ble_eq_true rfl) rfl dX8_power_39 (MX8_goes e14) ?_
      refine wp_aload_n dX8_power_42 rfl ?_
      obtain ⟨x15, e17, h16⟩ := Option.bind_eq_some_iff.mp h13
      clear h13
      refine wp_getR okX8 (k := 7) (by decide) tw712 dX8_power_43 e17 ?_
      refine wp_sipush (v := (198 : Int32)) dX8_power_46 (by decide) ?_
      refine wp_iload_n dX8_power_49 rfl ?_
      refine wp_iadd dX8_power_50 ?_
      obtain ⟨x18, e20, h19⟩ := Option.bind_eq_some_iff.mp h16
      clear h16
      refine wp_iald dX8_power_51 e20 ?_
      cases h19
      exact wp_iret rfl dX8_power_52
    · rw [if_pos c8] at h6
      exact WP.wk (BX8_power_24 h6) trivial
def fX8_power (w : XW) (l0 : Nat) (l1 : Int32) (l2 : Int32) : Option (Int32 × XW) := if isO w l0 8 = true then eX8_power w l0 l1 l2 else none
theorem OX8_power {w : XW} {l0 : Nat} {l1 : Int32} {l2 : Int32} {q : Int32 × XW} (h : fX8_power w l0 l1 l2 = some q) : isO w l0 8 = true := Decidable.byContradiction fun z => by unfold fX8_power at h; rw [if_neg z] at h; cases h
theorem MX8_power {K : CX} {l : Launch} {w : XW} {l0 : Nat} {l1 : Int32} {l2 : Int32} {q : Int32 × XW} (h : fX8_power w l0 l1 l2 = some q) : MT K l mX8_power 7 163 [.ref l0, .int l1, .int l2] w (some (.int q.1)) q.2 := by
  have z := OX8_power h
  unfold fX8_power at h
  rw [if_pos z] at h
  exact MT.of (by decide) (Nat.le_of_ble_eq_true rfl) rfl (EX8_power h)
/-! FractionRun.used(I)I: frames 5, words 116 -/
abbrev mX7_used : MR := (⟨"FractionRun", "used", "(I)I"⟩, prog_1_method_14_code, 2, (some .int))
theorem dX7_used_0 : decode prog_1_method_14_code 0 = .ok (.iload_n 1, 1) := by decide +kernel
theorem dX7_used_1 : decode prog_1_method_14_code 1 = .ok (.iconst 1, 1) := by decide +kernel
theorem dX7_used_2 : decode prog_1_method_14_code 2 = .ok (.if_icmp .lt 10, 3) := by decide +kernel
theorem dX7_used_5 : decode prog_1_method_14_code 5 = .ok (.iload_n 1, 1) := by decide +kernel
theorem dX7_used_6 : decode prog_1_method_14_code 6 = .ok (.sipush 200, 3) := by decide +kernel
theorem dX7_used_9 : decode prog_1_method_14_code 9 = .ok (.if_icmp .le 5, 3) := by decide +kernel
theorem dX7_used_12 : decode prog_1_method_14_code 12 = .ok (.iconst (-1), 1) := by decide +kernel
theorem dX7_used_13 : decode prog_1_method_14_code 13 = .ok (.ireturn, 1) := by decide +kernel
theorem dX7_used_14 : decode prog_1_method_14_code 14 = .ok (.aload_n 0, 1) := by decide +kernel
theorem dX7_used_15 : decode prog_1_method_14_code 15 = .ok (.getfield 40, 3) := by decide +kernel
theorem dX7_used_18 : decode prog_1_method_14_code 18 = .ok (.aload_n 0, 1) := by decide +kernel
theorem dX7_used_19 : decode prog_1_method_14_code 19 = .ok (.getfield 36, 3) := by decide +kernel
theorem dX7_used_22 : decode prog_1_method_14_code 22 = .ok (.invokevirtual 189, 3) := by decide +kernel
theorem dX7_used_25 : decode prog_1_method_14_code 25 = .ok (.aload_n 0, 1) := by decide +kernel
theorem dX7_used_26 : decode prog_1_method_14_code 26 = .ok (.getfield 40, 3) := by decide +kernel
theorem dX7_used_29 : decode prog_1_method_14_code 29 = .ok (.aload_n 0, 1) := by decide +kernel
theorem dX7_used_30 : decode prog_1_method_14_code 30 = .ok (.getfield 26, 3) := by decide +kernel
theorem dX7_used_33 : decode prog_1_method_14_code 33 = .ok (.iload_n 1, 1) := by decide +kernel
theorem dX7_used_34 : decode prog_1_method_14_code 34 = .ok (.iconst 1, 1) := by decide +kernel
theorem dX7_used_35 : decode prog_1_method_14_code 35 = .ok (.isub, 1) := by decide +kernel
theorem dX7_used_36 : decode prog_1_method_14_code 36 = .ok (.invokevirtual 167, 3) := by decide +kernel
theorem dX7_used_39 : decode prog_1_method_14_code 39 = .ok (.pop, 1) := by decide +kernel
theorem dX7_used_40 : decode prog_1_method_14_code 40 = .ok (.aload_n 0, 1) := by decide +kernel
theorem dX7_used_41 : decode prog_1_method_14_code 41 = .ok (.getfield 40, 3) := by decide +kernel
theorem dX7_used_44 : decode prog_1_method_14_code 44 = .ok (.aload_n 0, 1) := by decide +kernel
theorem dX7_used_45 : decode prog_1_method_14_code 45 = .ok (.getfield 26, 3) := by decide +kernel
theorem dX7_used_48 : decode prog_1_method_14_code 48 = .ok (.invokevirtual 191, 3) := by decide +kernel
theorem dX7_used_51 : decode prog_1_method_14_code 51 = .ok (.ireturn, 1) := by decide +kernel
theorem okM_X7_used : okM mX7_used 1 := ⟨tw478, tw1, by decide, by decide, by decide +kernel⟩
def bX7_used_12 (w : XW) : Option (Int32 × XW) :=
  some ((-1 : Int32), w)
theorem BX7_used_12 {K : CX} {l : Launch} {n0 k0 : Nat} {w : XW} {q : Int32 × XW} (h0 : bX7_used_12 w = some q) : WP K l mX7_used 5 116 n0 k0 (some (.int q.1)) q.2 12 [none, none] [] w := by
  unfold bX7_used_12 at h0
  refine wp_iconst (v := (-1 : Int32)) dX7_used_12 (by decide) ?_
  cases h0
  exact wp_iret rfl dX7_used_13
def eX7_used (w : XW) (l0 : Nat) (l1 : Int32) : Option (Int32 × XW) :=
  if l1 < (1 : Int32) then
  bX7_used_12 w
  else
  if l1 ≤ (200 : Int32) then
  (gR w l0 7 5).bind fun x3 =>
  (gR w l0 7 4).bind fun x6 =>
  (fX5_copyFrom w x3 x6).bind fun q9 =>
  (gR q9 l0 7 5).bind fun x12 =>
  (gR q9 l0 7 2).bind fun x15 =>
  (fX5_takeSteps q9 x12 x15 (l1 - (1 : Int32))).bind fun q18 =>
  (gR q18.2 l0 7 5).bind fun x21 =>
  (gR q18.2 l0 7 2).bind fun x24 =>
  (fX5_nextFraction q18.2 x21 x24).bind fun q27 =>
  some (q27.1, q27.2)
  else
  bX7_used_12 w
theorem EX7_used {K : CX} {l : Launch} {n0 k0 : Nat} {w : XW} {l0 : Nat} {l1 : Int32} {q : Int32 × XW} (h0 : eX7_used w l0 l1 = some q) : WP K l mX7_used 5 116 n0 k0 (some (.int q.1)) q.2 0 [some (.ref l0), some (.int l1)] [] w := by
  unfold eX7_used at h0
  refine wp_iload_n dX7_used_0 rfl ?_
  refine wp_iconst (v := (1 : Int32)) dX7_used_1 (by decide) ?_
  refine wp_icmp_lt (tgt := 12) dX7_used_2 (by decide) (fun c1 => ?_) (fun c1 => ?_)
  · rw [if_pos c1] at h0
    exact WP.wk (BX7_used_12 h0) trivial
  · rw [if_neg c1] at h0
    refine wp_iload_n dX7_used_5 rfl ?_
    refine wp_sipush (v := (200 : Int32)) dX7_used_6 (by decide) ?_
    refine wp_icmp_le (tgt := 14) dX7_used_9 (by decide) (fun c2 => ?_) (fun c2 => ?_)
    · rw [if_pos c2] at h0
      refine wp_aload_n dX7_used_14 rfl ?_
      obtain ⟨x3, e5, h4⟩ := Option.bind_eq_some_iff.mp h0
      clear h0
      refine wp_getR okX7 (k := 5) (by decide) tw303 dX7_used_15 e5 ?_
      refine wp_aload_n dX7_used_18 rfl ?_
      obtain ⟨x6, e8, h7⟩ := Option.bind_eq_some_iff.mp h4
      clear h4
      refine wp_getR okX7 (k := 4) (by decide) tw302 dX7_used_19 e8 ?_
      obtain ⟨q9, e11, h10⟩ := Option.bind_eq_some_iff.mp h7
      clear h7
      refine wp_Vv (As := [.ref x6]) (S := []) okM_X5_copyFrom tw419 tw420 tw474 (OX5_copyFrom e11) rfl rfl rfl ⟨(Nat.le_of_ble_eq_true rfl), (Nat.le_of_ble_eq_true rfl)⟩ (Nat.le_of_ble_eq_true rfl) rfl dX7_used_22 (MX5_copyFrom e11) ?_
      refine wp_aload_n dX7_used_25 rfl ?_
      obtain ⟨x12, e14, h13⟩ := Option.bind_eq_some_iff.mp h10
      clear h10
      refine wp_getR okX7 (k := 5) (by decide) tw303 dX7_used_26 e14 ?_
      refine wp_aload_n dX7_used_29 rfl ?_
      obtain ⟨x15, e17, h16⟩ := Option.bind_eq_some_iff.mp h13
      clear h13
      refine wp_getR okX7 (k := 2) (by decide) tw300 dX7_used_30 e17 ?_
      refine wp_iload_n dX7_used_33 rfl ?_
      refine wp_iconst (v := (1 : Int32)) dX7_used_34 (by decide) ?_
      refine wp_isub dX7_used_35 ?_
      obtain ⟨q18, e20, h19⟩ := Option.bind_eq_some_iff.mp h16
      clear h16
      refine wp_Vi (As := [.ref x15, .int (l1 - (1 : Int32))]) (S := []) okM_X5_takeSteps tw427 tw428 tw426 (OX5_takeSteps e20) rfl rfl rfl ⟨(Nat.le_of_ble_eq_true rfl), (Nat.le_of_ble_eq_true rfl)⟩ (Nat.le_of_ble_eq_true rfl) rfl dX7_used_36 (MX5_takeSteps e20) ?_
      refine wp_pop dX7_used_39 rfl ?_
      refine wp_aload_n dX7_used_40 rfl ?_
      obtain ⟨x21, e23, h22⟩ := Option.bind_eq_some_iff.mp h19
      clear h19
      refine wp_getR okX7 (k := 5) (by decide) tw303 dX7_used_41 e23 ?_
      refine wp_aload_n dX7_used_44 rfl ?_
      obtain ⟨x24, e26, h25⟩ := Option.bind_eq_some_iff.mp h22
      clear h22
      refine wp_getR okX7 (k := 2) (by decide) tw300 dX7_used_45 e26 ?_
      obtain ⟨q27, e29, h28⟩ := Option.bind_eq_some_iff.mp h25
      clear h25
      refine wp_Vi (As := [.ref x24]) (S := []) okM_X5_nextFraction tw410 tw411 tw479 (OX5_nextFraction e29) rfl rfl rfl ⟨(Nat.le_of_ble_eq_true rfl), (Nat.le_of_ble_eq_true rfl)⟩ (Nat.le_of_ble_eq_true rfl) rfl dX7_used_48 (MX5_nextFraction e29) ?_
      cases h28
      exact wp_iret rfl dX7_used_51
    · rw [if_neg c2] at h0
      exact WP.wk (BX7_used_12 h0) trivial
def fX7_used (w : XW) (l0 : Nat) (l1 : Int32) : Option (Int32 × XW) := if isO w l0 7 = true then eX7_used w l0 l1 else none
theorem OX7_used {w : XW} {l0 : Nat} {l1 : Int32} {q : Int32 × XW} (h : fX7_used w l0 l1 = some q) : isO w l0 7 = true := Decidable.byContradiction fun z => by unfold fX7_used at h; rw [if_neg z] at h; cases h
theorem MX7_used {K : CX} {l : Launch} {w : XW} {l0 : Nat} {l1 : Int32} {q : Int32 × XW} (h : fX7_used w l0 l1 = some q) : MT K l mX7_used 5 116 [.ref l0, .int l1] w (some (.int q.1)) q.2 := by
  have z := OX7_used h
  unfold fX7_used at h
  rw [if_pos z] at h
  exact MT.of (by decide) (Nat.le_of_ble_eq_true rfl) rfl (EX7_used h)
/-! FractionRunModel.used(I)I: frames 7, words 163 -/
abbrev mX8_used : MR := (⟨"FractionRunModel", "used", "(I)I"⟩, prog_10_method_41_code, 2, (some .int))
theorem dX8_used_0 : decode prog_10_method_41_code 0 = .ok (.iload_n 1, 1) := by decide +kernel
theorem dX8_used_1 : decode prog_10_method_41_code 1 = .ok (.i2l, 1) := by decide +kernel
theorem dX8_used_2 : decode prog_10_method_41_code 2 = .ok (.lconst 1, 1) := by decide +kernel
theorem dX8_used_3 : decode prog_10_method_41_code 3 = .ok (.ldc2_w 188, 3) := by decide +kernel
theorem dX8_used_6 : decode prog_10_method_41_code 6 = .ok (.invokestatic 88, 3) := by decide +kernel
theorem dX8_used_9 : decode prog_10_method_41_code 9 = .ok (.ifCond .ne 5, 3) := by decide +kernel
theorem dX8_used_12 : decode prog_10_method_41_code 12 = .ok (.iconst (-1), 1) := by decide +kernel
theorem dX8_used_13 : decode prog_10_method_41_code 13 = .ok (.ireturn, 1) := by decide +kernel
theorem dX8_used_14 : decode prog_10_method_41_code 14 = .ok (.aload_n 0, 1) := by decide +kernel
theorem dX8_used_15 : decode prog_10_method_41_code 15 = .ok (.iconst 0, 1) := by decide +kernel
theorem dX8_used_16 : decode prog_10_method_41_code 16 = .ok (.sipush 198, 3) := by decide +kernel
theorem dX8_used_19 : decode prog_10_method_41_code 19 = .ok (.invokevirtual 155, 3) := by decide +kernel
theorem dX8_used_22 : decode prog_10_method_41_code 22 = .ok (.aload_n 0, 1) := by decide +kernel
theorem dX8_used_23 : decode prog_10_method_41_code 23 = .ok (.sipush 198, 3) := by decide +kernel
theorem dX8_used_26 : decode prog_10_method_41_code 26 = .ok (.iload_n 1, 1) := by decide +kernel
theorem dX8_used_27 : decode prog_10_method_41_code 27 = .ok (.iconst 1, 1) := by decide +kernel
theorem dX8_used_28 : decode prog_10_method_41_code 28 = .ok (.isub, 1) := by decide +kernel
theorem dX8_used_29 : decode prog_10_method_41_code 29 = .ok (.invokevirtual 190, 3) := by decide +kernel
theorem dX8_used_32 : decode prog_10_method_41_code 32 = .ok (.aload_n 0, 1) := by decide +kernel
theorem dX8_used_33 : decode prog_10_method_41_code 33 = .ok (.sipush 198, 3) := by decide +kernel
theorem dX8_used_36 : decode prog_10_method_41_code 36 = .ok (.invokevirtual 175, 3) := by decide +kernel
theorem dX8_used_39 : decode prog_10_method_41_code 39 = .ok (.ireturn, 1) := by decide +kernel
theorem okM_X8_used : okM mX8_used 1 := ⟨tw925, tw15, by decide, by decide, by decide +kernel⟩
def eX8_used (w : XW) (l0 : Nat) (l1 : Int32) : Option (Int32 × XW) :=
  (fX8_in w (l1.toInt64) (1 : Int64) (200 : Int64)).bind fun q1 =>
  if q1.1 = 0 then
  some ((-1 : Int32), q1.2)
  else
  (fX8_copies q1.2 l0 (0 : Int32) (198 : Int32)).bind fun q5 =>
  (fX8_goes q5 l0 (198 : Int32) (l1 - (1 : Int32))).bind fun q8 =>
  (fX8_step q8 l0 (198 : Int32)).bind fun q11 =>
  some (q11.1, q11.2)
theorem EX8_used {K : CX} {l : Launch} {n0 k0 : Nat} {w : XW} {l0 : Nat} {l1 : Int32} {q : Int32 × XW} (h0 : eX8_used w l0 l1 = some q) : WP K l mX8_used 7 163 n0 k0 (some (.int q.1)) q.2 0 [some (.ref l0), some (.int l1)] [] w := by
  unfold eX8_used at h0
  refine wp_iload_n dX8_used_0 rfl ?_
  refine wp_i2l dX8_used_1 ?_
  refine wp_lconst (v := (1 : Int64)) dX8_used_2 (by decide) ?_
  refine wp_ldc2 tw917 dX8_used_3 ?_
  obtain ⟨q1, e3, h2⟩ := Option.bind_eq_some_iff.mp h0
  clear h0
  refine wp_Si (As := [.long (l1.toInt64), .long (1 : Int64), .long (200 : Int64)]) (S := []) okM_X8_in tw785 tw784 rfl ⟨(Nat.le_of_ble_eq_true rfl), (Nat.le_of_ble_eq_true rfl)⟩ (Nat.le_of_ble_eq_true rfl) rfl dX8_used_6 (MX8_in e3) ?_
  refine wp_if_ne (tgt := 14) dX8_used_9 (by decide) (fun c4 => ?_) (fun c4 => ?_)
  · rw [if_neg c4] at h2
    refine wp_aload_n dX8_used_14 rfl ?_
    refine wp_iconst (v := (0 : Int32)) dX8_used_15 (by decide) ?_
    refine wp_sipush (v := (198 : Int32)) dX8_used_16 (by decide) ?_
    obtain ⟨q5, e7, h6⟩ := Option.bind_eq_some_iff.mp h2
    clear h2
    refine wp_Vv (As := [.int (0 : Int32), .int (198 : Int32)]) (S := []) okM_X8_copies tw877 twP_X8_copies tw875 (OX8_copies e7) rfl rfl rfl ⟨(Nat.le_of_ble_eq_true rfl), (Nat.le_of_ble_eq_true rfl)⟩ (Nat.le_of_ble_eq_true rfl) rfl dX8_used_19 (MX8_copies e7) ?_
    refine wp_aload_n dX8_used_22 rfl ?_
    refine wp_sipush (v := (198 : Int32)) dX8_used_23 (by decide) ?_
    refine wp_iload_n dX8_used_26 rfl ?_
    refine wp_iconst (v := (1 : Int32)) dX8_used_27 (by decide) ?_
    refine wp_isub dX8_used_28 ?_
    obtain ⟨q8, e10, h9⟩ := Option.bind_eq_some_iff.mp h6
    clear h6
    refine wp_Vv (As := [.int (198 : Int32), .int (l1 - (1 : Int32))]) (S := []) okM_X8_goes tw920 twP_X8_goes tw918 (OX8_goes e10) rfl rfl rfl ⟨(Nat.le_of_ble_eq_true rfl), (Nat.le_of_ble_eq_true rfl)⟩ (Nat.le_of_ble_eq_true rfl) rfl dX8_used_29 (MX8_goes e10) ?_
    refine wp_aload_n dX8_used_32 rfl ?_
    refine wp_sipush (v := (198 : Int32)) dX8_used_33 (by decide) ?_
    obtain ⟨q11, e13, h12⟩ := Option.bind_eq_some_iff.mp h9
    clear h9
    refine wp_Vi (As := [.int (198 : Int32)]) (S := []) okM_X8_step tw881 twP_X8_step tw879 (OX8_step e13) rfl rfl rfl ⟨(Nat.le_of_ble_eq_true rfl), (Nat.le_of_ble_eq_true rfl)⟩ (Nat.le_of_ble_eq_true rfl) rfl dX8_used_36 (MX8_step e13) ?_
    cases h12
    exact wp_iret rfl dX8_used_39
  · rw [if_pos c4] at h2
    refine wp_iconst (v := (-1 : Int32)) dX8_used_12 (by decide) ?_
    cases h2
    exact wp_iret rfl dX8_used_13
def fX8_used (w : XW) (l0 : Nat) (l1 : Int32) : Option (Int32 × XW) := if isO w l0 8 = true then eX8_used w l0 l1 else none
theorem OX8_used {w : XW} {l0 : Nat} {l1 : Int32} {q : Int32 × XW} (h : fX8_used w l0 l1 = some q) : isO w l0 8 = true := Decidable.byContradiction fun z => by unfold fX8_used at h; rw [if_neg z] at h; cases h
theorem MX8_used {K : CX} {l : Launch} {w : XW} {l0 : Nat} {l1 : Int32} {q : Int32 × XW} (h : fX8_used w l0 l1 = some q) : MT K l mX8_used 7 163 [.ref l0, .int l1] w (some (.int q.1)) q.2 := by
  have z := OX8_used h
  unfold fX8_used at h
  rw [if_pos z] at h
  exact MT.of (by decide) (Nat.le_of_ble_eq_true rfl) rfl (EX8_used h)
/-! FractionRun$State.stepsToRest(LFractionRun$Fractions;I)I: frames 5, words 116 -/
abbrev mX5_stepsToRest : MR := (⟨"FractionRun$State", "stepsToRest", "(LFractionRun$Fractions;I)I"⟩, prog_7_method_17_code, 4, (some .int))
theorem dX5_stepsToRest_0 : decode prog_7_method_17_code 0 = .ok (.aload_n 0, 1) := by decide +kernel
theorem dX5_stepsToRest_1 : decode prog_7_method_17_code 1 = .ok (.aload_n 1, 1) := by decide +kernel
theorem dX5_stepsToRest_2 : decode prog_7_method_17_code 2 = .ok (.iload_n 2, 1) := by decide +kernel
theorem dX5_stepsToRest_3 : decode prog_7_method_17_code 3 = .ok (.invokevirtual 77, 3) := by decide +kernel
theorem dX5_stepsToRest_6 : decode prog_7_method_17_code 6 = .ok (.istore_n 3, 1) := by decide +kernel
theorem dX5_stepsToRest_7 : decode prog_7_method_17_code 7 = .ok (.aload_n 0, 1) := by decide +kernel
theorem dX5_stepsToRest_8 : decode prog_7_method_17_code 8 = .ok (.aload_n 1, 1) := by decide +kernel
theorem dX5_stepsToRest_9 : decode prog_7_method_17_code 9 = .ok (.invokevirtual 81, 3) := by decide +kernel
theorem dX5_stepsToRest_12 : decode prog_7_method_17_code 12 = .ok (.ifCond .eq 7, 3) := by decide +kernel
theorem dX5_stepsToRest_15 : decode prog_7_method_17_code 15 = .ok (.iload_n 3, 1) := by decide +kernel
theorem dX5_stepsToRest_16 : decode prog_7_method_17_code 16 = .ok (.goto 5, 3) := by decide +kernel
theorem dX5_stepsToRest_19 : decode prog_7_method_17_code 19 = .ok (.bipush (-4), 2) := by decide +kernel
theorem dX5_stepsToRest_21 : decode prog_7_method_17_code 21 = .ok (.ireturn, 1) := by decide +kernel
theorem okM_X5_stepsToRest : okM mX5_stepsToRest 2 := ⟨tw487, tw5, by decide, by decide, by decide +kernel⟩
def bX5_stepsToRest_21 (w : XW) (s0 : Int32) : Option (Int32 × XW) :=
  some (s0, w)
theorem BX5_stepsToRest_21 {K : CX} {l : Launch} {n0 k0 : Nat} {w : XW} {s0 : Int32} {q : Int32 × XW} (h0 : bX5_stepsToRest_21 w s0 = some q) : WP K l mX5_stepsToRest 5 116 n0 k0 (some (.int q.1)) q.2 21 [none, none, none, none] [.int s0] w := by
  unfold bX5_stepsToRest_21 at h0
  cases h0
  exact wp_iret rfl dX5_stepsToRest_21
def eX5_stepsToRest (w : XW) (l0 : Nat) (l1 : Nat) (l2 : Int32) : Option (Int32 × XW) :=
  (fX5_takeSteps w l0 l1 l2).bind fun q1 =>
  (fX5_isAtRest q1.2 l0 l1).bind fun q4 =>
  if q4.1 = 0 then
  bX5_stepsToRest_21 q4.2 (-4 : Int32)
  else
  bX5_stepsToRest_21 q4.2 q1.1
theorem EX5_stepsToRest {K : CX} {l : Launch} {n0 k0 : Nat} {w : XW} {l0 : Nat} {l1 : Nat} {l2 : Int32} {q : Int32 × XW} (h0 : eX5_stepsToRest w l0 l1 l2 = some q) : WP K l mX5_stepsToRest 5 116 n0 k0 (some (.int q.1)) q.2 0 [some (.ref l0), some (.ref l1), some (.int l2), none] [] w := by
  unfold eX5_stepsToRest at h0
  refine wp_aload_n dX5_stepsToRest_0 rfl ?_
  refine wp_aload_n dX5_stepsToRest_1 rfl ?_
  refine wp_iload_n dX5_stepsToRest_2 rfl ?_
  obtain ⟨q1, e3, h2⟩ := Option.bind_eq_some_iff.mp h0
  clear h0
  refine wp_Vi (As := [.ref l1, .int l2]) (S := []) okM_X5_takeSteps tw427 tw428 tw488 (OX5_takeSteps e3) rfl rfl rfl ⟨(Nat.le_of_ble_eq_true rfl), (Nat.le_of_ble_eq_true rfl)⟩ (Nat.le_of_ble_eq_true rfl) rfl dX5_stepsToRest_3 (MX5_takeSteps e3) ?_
  refine wp_istore_n (L1 := [some (.ref l0), some (.ref l1), some (.int l2), some (.int q1.1)]) dX5_stepsToRest_6 (Nat.le_of_ble_eq_true rfl) rfl ?_
  refine wp_aload_n dX5_stepsToRest_7 rfl ?_
  refine wp_aload_n dX5_stepsToRest_8 rfl ?_
  obtain ⟨q4, e6, h5⟩ := Option.bind_eq_some_iff.mp h2
  clear h2
  refine wp_Vi (As := [.ref l1]) (S := []) okM_X5_isAtRest tw406 tw407 tw489 (OX5_isAtRest e6) rfl rfl rfl ⟨(Nat.le_of_ble_eq_true rfl), (Nat.le_of_ble_eq_true rfl)⟩ (Nat.le_of_ble_eq_true rfl) rfl dX5_stepsToRest_9 (MX5_isAtRest e6) ?_
  refine wp_if_eq (tgt := 19) dX5_stepsToRest_12 (by decide) (fun c7 => ?_) (fun c7 => ?_)
  · rw [if_pos c7] at h5
    refine wp_bipush (v := (-4 : Int32)) dX5_stepsToRest_19 (by decide) ?_
    exact WP.wk (BX5_stepsToRest_21 h5) trivial
  · rw [if_neg c7] at h5
    refine wp_iload_n dX5_stepsToRest_15 rfl ?_
    refine wp_goto (tgt := 21) dX5_stepsToRest_16 (by decide) ?_
    exact WP.wk (BX5_stepsToRest_21 h5) trivial
def fX5_stepsToRest (w : XW) (l0 : Nat) (l1 : Nat) (l2 : Int32) : Option (Int32 × XW) := if isO w l0 5 = true then eX5_stepsToRest w l0 l1 l2 else none
theorem OX5_stepsToRest {w : XW} {l0 : Nat} {l1 : Nat} {l2 : Int32} {q : Int32 × XW} (h : fX5_stepsToRest w l0 l1 l2 = some q) : isO w l0 5 = true := Decidable.byContradiction fun z => by unfold fX5_stepsToRest at h; rw [if_neg z] at h; cases h
theorem MX5_stepsToRest {K : CX} {l : Launch} {w : XW} {l0 : Nat} {l1 : Nat} {l2 : Int32} {q : Int32 × XW} (h : fX5_stepsToRest w l0 l1 l2 = some q) : MT K l mX5_stepsToRest 5 116 [.ref l0, .ref l1, .int l2] w (some (.int q.1)) q.2 := by
  have z := OX5_stepsToRest h
  unfold fX5_stepsToRest at h
  rw [if_pos z] at h
  exact MT.of (by decide) (Nat.le_of_ble_eq_true rfl) rfl (EX5_stepsToRest h)
/-! FractionRun.rests()I: frames 6, words 139 -/
abbrev mX7_rests : MR := (⟨"FractionRun", "rests", "()I"⟩, prog_1_method_15_code, 1, (some .int))
theorem dX7_rests_0 : decode prog_1_method_15_code 0 = .ok (.aload_n 0, 1) := by decide +kernel
theorem dX7_rests_1 : decode prog_1_method_15_code 1 = .ok (.getfield 40, 3) := by decide +kernel
theorem dX7_rests_4 : decode prog_1_method_15_code 4 = .ok (.aload_n 0, 1) := by decide +kernel
theorem dX7_rests_5 : decode prog_1_method_15_code 5 = .ok (.getfield 36, 3) := by decide +kernel
theorem dX7_rests_8 : decode prog_1_method_15_code 8 = .ok (.invokevirtual 189, 3) := by decide +kernel
theorem dX7_rests_11 : decode prog_1_method_15_code 11 = .ok (.aload_n 0, 1) := by decide +kernel
theorem dX7_rests_12 : decode prog_1_method_15_code 12 = .ok (.getfield 40, 3) := by decide +kernel
theorem dX7_rests_15 : decode prog_1_method_15_code 15 = .ok (.aload_n 0, 1) := by decide +kernel
theorem dX7_rests_16 : decode prog_1_method_15_code 16 = .ok (.getfield 26, 3) := by decide +kernel
theorem dX7_rests_19 : decode prog_1_method_15_code 19 = .ok (.sipush 200, 3) := by decide +kernel
theorem dX7_rests_22 : decode prog_1_method_15_code 22 = .ok (.invokevirtual 195, 3) := by decide +kernel
theorem dX7_rests_25 : decode prog_1_method_15_code 25 = .ok (.ireturn, 1) := by decide +kernel
theorem okM_X7_rests : okM mX7_rests 0 := ⟨tw483, tw1, by decide, by decide, by decide +kernel⟩
def eX7_rests (w : XW) (l0 : Nat) : Option (Int32 × XW) :=
  (gR w l0 7 5).bind fun x1 =>
  (gR w l0 7 4).bind fun x4 =>
  (fX5_copyFrom w x1 x4).bind fun q7 =>
  (gR q7 l0 7 5).bind fun x10 =>
  (gR q7 l0 7 2).bind fun x13 =>
  (fX5_stepsToRest q7 x10 x13 (200 : Int32)).bind fun q16 =>
  some (q16.1, q16.2)
theorem EX7_rests {K : CX} {l : Launch} {n0 k0 : Nat} {w : XW} {l0 : Nat} {q : Int32 × XW} (h0 : eX7_rests w l0 = some q) : WP K l mX7_rests 6 139 n0 k0 (some (.int q.1)) q.2 0 [some (.ref l0)] [] w := by
  unfold eX7_rests at h0
  refine wp_aload_n dX7_rests_0 rfl ?_
  obtain ⟨x1, e3, h2⟩ := Option.bind_eq_some_iff.mp h0
  clear h0
  refine wp_getR okX7 (k := 5) (by decide) tw303 dX7_rests_1 e3 ?_
  refine wp_aload_n dX7_rests_4 rfl ?_
  obtain ⟨x4, e6, h5⟩ := Option.bind_eq_some_iff.mp h2
  clear h2
  refine wp_getR okX7 (k := 4) (by decide) tw302 dX7_rests_5 e6 ?_
  obtain ⟨q7, e9, h8⟩ := Option.bind_eq_some_iff.mp h5
  clear h5
  refine wp_Vv (As := [.ref x4]) (S := []) okM_X5_copyFrom tw419 tw420 tw474 (OX5_copyFrom e9) rfl rfl rfl ⟨(Nat.le_of_ble_eq_true rfl), (Nat.le_of_ble_eq_true rfl)⟩ (Nat.le_of_ble_eq_true rfl) rfl dX7_rests_8 (MX5_copyFrom e9) ?_
  refine wp_aload_n dX7_rests_11 rfl ?_
  obtain ⟨x10, e12, h11⟩ := Option.bind_eq_some_iff.mp h8
  clear h8
  refine wp_getR okX7 (k := 5) (by decide) tw303 dX7_rests_12 e12 ?_
  refine wp_aload_n dX7_rests_15 rfl ?_
  obtain ⟨x13, e15, h14⟩ := Option.bind_eq_some_iff.mp h11
  clear h11
  refine wp_getR okX7 (k := 2) (by decide) tw300 dX7_rests_16 e15 ?_
  refine wp_sipush (v := (200 : Int32)) dX7_rests_19 (by decide) ?_
  obtain ⟨q16, e18, h17⟩ := Option.bind_eq_some_iff.mp h14
  clear h14
  refine wp_Vi (As := [.ref x13, .int (200 : Int32)]) (S := []) okM_X5_stepsToRest tw485 tw486 tw484 (OX5_stepsToRest e18) rfl rfl rfl ⟨(Nat.le_of_ble_eq_true rfl), (Nat.le_of_ble_eq_true rfl)⟩ (Nat.le_of_ble_eq_true rfl) rfl dX7_rests_22 (MX5_stepsToRest e18) ?_
  cases h17
  exact wp_iret rfl dX7_rests_25
def fX7_rests (w : XW) (l0 : Nat) : Option (Int32 × XW) := if isO w l0 7 = true then eX7_rests w l0 else none
theorem OX7_rests {w : XW} {l0 : Nat} {q : Int32 × XW} (h : fX7_rests w l0 = some q) : isO w l0 7 = true := Decidable.byContradiction fun z => by unfold fX7_rests at h; rw [if_neg z] at h; cases h
theorem MX7_rests {K : CX} {l : Launch} {w : XW} {l0 : Nat} {q : Int32 × XW} (h : fX7_rests w l0 = some q) : MT K l mX7_rests 6 139 [.ref l0] w (some (.int q.1)) q.2 := by
  have z := OX7_rests h
  unfold fX7_rests at h
  rw [if_pos z] at h
  exact MT.of (by decide) (Nat.le_of_ble_eq_true rfl) rfl (EX7_rests h)
/-! FractionRunModel.restsBy(I)I: frames 6, words 140 -/
abbrev mX8_restsBy : MR := (⟨"FractionRunModel", "restsBy", "(I)I"⟩, prog_10_method_42_code, 3, (some .int))
theorem dX8_restsBy_0 : decode prog_10_method_42_code 0 = .ok (.iconst 0, 1) := by decide +kernel
theorem dX8_restsBy_1 : decode prog_10_method_42_code 1 = .ok (.istore_n 2, 1) := by decide +kernel
theorem dX8_restsBy_2 : decode prog_10_method_42_code 2 = .ok (.iload_n 2, 1) := by decide +kernel
theorem dX8_restsBy_3 : decode prog_10_method_42_code 3 = .ok (.sipush 200, 3) := by decide +kernel
theorem dX8_restsBy_6 : decode prog_10_method_42_code 6 = .ok (.if_icmp .gt 33, 3) := by decide +kernel
theorem dX8_restsBy_9 : decode prog_10_method_42_code 9 = .ok (.aload_n 0, 1) := by decide +kernel
theorem dX8_restsBy_10 : decode prog_10_method_42_code 10 = .ok (.iload_n 1, 1) := by decide +kernel
theorem dX8_restsBy_11 : decode prog_10_method_42_code 11 = .ok (.iconst 0, 1) := by decide +kernel
theorem dX8_restsBy_12 : decode prog_10_method_42_code 12 = .ok (.invokevirtual 145, 3) := by decide +kernel
theorem dX8_restsBy_15 : decode prog_10_method_42_code 15 = .ok (.ifCond .ge 5, 3) := by decide +kernel
theorem dX8_restsBy_18 : decode prog_10_method_42_code 18 = .ok (.iload_n 2, 1) := by decide +kernel
theorem dX8_restsBy_19 : decode prog_10_method_42_code 19 = .ok (.ireturn, 1) := by decide +kernel
theorem dX8_restsBy_20 : decode prog_10_method_42_code 20 = .ok (.iload_n 2, 1) := by decide +kernel
theorem dX8_restsBy_21 : decode prog_10_method_42_code 21 = .ok (.sipush 200, 3) := by decide +kernel
theorem dX8_restsBy_24 : decode prog_10_method_42_code 24 = .ok (.if_icmp .ge 9, 3) := by decide +kernel
theorem dX8_restsBy_27 : decode prog_10_method_42_code 27 = .ok (.aload_n 0, 1) := by decide +kernel
theorem dX8_restsBy_28 : decode prog_10_method_42_code 28 = .ok (.iload_n 1, 1) := by decide +kernel
theorem dX8_restsBy_29 : decode prog_10_method_42_code 29 = .ok (.invokevirtual 175, 3) := by decide +kernel
theorem dX8_restsBy_32 : decode prog_10_method_42_code 32 = .ok (.pop, 1) := by decide +kernel
theorem dX8_restsBy_33 : decode prog_10_method_42_code 33 = .ok (.iinc 2 1, 3) := by decide +kernel
theorem dX8_restsBy_36 : decode prog_10_method_42_code 36 = .ok (.goto (-34), 3) := by decide +kernel
theorem dX8_restsBy_39 : decode prog_10_method_42_code 39 = .ok (.bipush (-4), 2) := by decide +kernel
theorem dX8_restsBy_41 : decode prog_10_method_42_code 41 = .ok (.ireturn, 1) := by decide +kernel
theorem okM_X8_restsBy : okM mX8_restsBy 1 := ⟨tw933, tw15, by decide, by decide, by decide +kernel⟩
abbrev KTX8_restsBy : Type := (XW → Nat → Int32 → Int32 → Option (Int32 × XW))
def bX8_restsBy_33 (k : KTX8_restsBy) (w : XW) (l0 : Nat) (l1 : Int32) (l2 : Int32) : Option (Int32 × XW) :=
  k w l0 l1 (l2 + (1 : Int32))
theorem BX8_restsBy_33 {K : CX} {l : Launch} {n0 k0 : Nat} {k : KTX8_restsBy} (hk0 : ∀ (w : XW) (l0 : Nat) (l1 : Int32) (l2 : Int32) (q : Int32 × XW), k w l0 l1 l2 = some q → WP K l mX8_restsBy 6 140 n0 k0 (some (.int q.1)) q.2 2 [some (.ref l0), some (.int l1), some (.int l2)] [] w) {w : XW} {l0 : Nat} {l1 : Int32} {l2 : Int32} {q : Int32 × XW} (h0 : bX8_restsBy_33 k w l0 l1 l2 = some q) : WP K l mX8_restsBy 6 140 n0 k0 (some (.int q.1)) q.2 33 [some (.ref l0), some (.int l1), some (.int l2)] [] w := by
  unfold bX8_restsBy_33 at h0
  refine wp_iinc (v := (l2 + (1 : Int32))) (L1 := [some (.ref l0), some (.int l1), some (.int (l2 + (1 : Int32)))]) dX8_restsBy_33 (Nat.le_of_ble_eq_true rfl) rfl (congrArg (fun z => l2 + z) (by decide)) rfl ?_
  refine wp_goto (tgt := 2) dX8_restsBy_36 (by decide) ?_
  exact WP.wk (hk0 _ _ _ _ _ h0) (And.intro rfl (And.intro rfl (And.intro rfl trivial)))
def hX8_restsBy_2 (k : KTX8_restsBy) (w : XW) (l0 : Nat) (l1 : Int32) (l2 : Int32) : Option (Int32 × XW) :=
  if (200 : Int32) < l2 then
  some ((-4 : Int32), w)
  else
  (fX8_who w l0 l1 (0 : Int32)).bind fun q2 =>
  if 0 ≤ q2.1 then
  if (200 : Int32) ≤ l2 then
  bX8_restsBy_33 k q2.2 l0 l1 l2
  else
  (fX8_step q2.2 l0 l1).bind fun q7 =>
  bX8_restsBy_33 k q7.2 l0 l1 l2
  else
  some (l2, q2.2)
theorem HX8_restsBy_2 {K : CX} {l : Launch} {n0 k0 : Nat} {k : KTX8_restsBy} (hk0 : ∀ (w : XW) (l0 : Nat) (l1 : Int32) (l2 : Int32) (q : Int32 × XW), k w l0 l1 l2 = some q → WP K l mX8_restsBy 6 140 n0 k0 (some (.int q.1)) q.2 2 [some (.ref l0), some (.int l1), some (.int l2)] [] w) {w : XW} {l0 : Nat} {l1 : Int32} {l2 : Int32} {q : Int32 × XW} (h0 : hX8_restsBy_2 k w l0 l1 l2 = some q) : WP K l mX8_restsBy 6 140 n0 k0 (some (.int q.1)) q.2 2 [some (.ref l0), some (.int l1), some (.int l2)] [] w := by
  unfold hX8_restsBy_2 at h0
  refine wp_iload_n dX8_restsBy_2 rfl ?_
  refine wp_sipush (v := (200 : Int32)) dX8_restsBy_3 (by decide) ?_
  refine wp_icmp_gt (tgt := 39) dX8_restsBy_6 (by decide) (fun c1 => ?_) (fun c1 => ?_)
  · rw [if_pos c1] at h0
    refine wp_bipush (v := (-4 : Int32)) dX8_restsBy_39 (by decide) ?_
    cases h0
    exact wp_iret rfl dX8_restsBy_41
  · rw [if_neg c1] at h0
    refine wp_aload_n dX8_restsBy_9 rfl ?_
    refine wp_iload_n dX8_restsBy_10 rfl ?_
    refine wp_iconst (v := (0 : Int32)) dX8_restsBy_11 (by decide) ?_
    obtain ⟨q2, e4, h3⟩ := Option.bind_eq_some_iff.mp h0
    clear h0
    refine wp_Vi (As := [.int l1, .int (0 : Int32)]) (S := []) okM_X8_who tw869 twP_X8_who tw867 (OX8_who e4) rfl rfl rfl ⟨(Nat.le_of_ble_eq_true rfl), (Nat.le_of_ble_eq_true rfl)⟩ (Nat.le_of_ble_eq_true rfl) rfl dX8_restsBy_12 (MX8_who e4) ?_
    refine wp_if_ge (tgt := 20) dX8_restsBy_15 (by decide) (fun c5 => ?_) (fun c5 => ?_)
    · rw [if_pos c5] at h3
      refine wp_iload_n dX8_restsBy_20 rfl ?_
      refine wp_sipush (v := (200 : Int32)) dX8_restsBy_21 (by decide) ?_
      refine wp_icmp_ge (tgt := 33) dX8_restsBy_24 (by decide) (fun c6 => ?_) (fun c6 => ?_)
      · rw [if_pos c6] at h3
        exact WP.wk (BX8_restsBy_33 hk0 h3) (And.intro rfl (And.intro rfl (And.intro rfl trivial)))
      · rw [if_neg c6] at h3
        refine wp_aload_n dX8_restsBy_27 rfl ?_
        refine wp_iload_n dX8_restsBy_28 rfl ?_
        obtain ⟨q7, e9, h8⟩ := Option.bind_eq_some_iff.mp h3
        clear h3
        refine wp_Vi (As := [.int l1]) (S := []) okM_X8_step tw881 twP_X8_step tw879 (OX8_step e9) rfl rfl rfl ⟨(Nat.le_of_ble_eq_true rfl), (Nat.le_of_ble_eq_true rfl)⟩ (Nat.le_of_ble_eq_true rfl) rfl dX8_restsBy_29 (MX8_step e9) ?_
        refine wp_pop dX8_restsBy_32 rfl ?_
        exact WP.wk (BX8_restsBy_33 hk0 h8) (And.intro rfl (And.intro rfl (And.intro rfl trivial)))
    · rw [if_neg c5] at h3
      refine wp_iload_n dX8_restsBy_18 rfl ?_
      cases h3
      exact wp_iret rfl dX8_restsBy_19
def eX8_restsBy (k : KTX8_restsBy) (w : XW) (l0 : Nat) (l1 : Int32) : Option (Int32 × XW) :=
  k w l0 l1 (0 : Int32)
theorem EX8_restsBy {K : CX} {l : Launch} {n0 k0 : Nat} {k : KTX8_restsBy} (hk0 : ∀ (w : XW) (l0 : Nat) (l1 : Int32) (l2 : Int32) (q : Int32 × XW), k w l0 l1 l2 = some q → WP K l mX8_restsBy 6 140 n0 k0 (some (.int q.1)) q.2 2 [some (.ref l0), some (.int l1), some (.int l2)] [] w) {w : XW} {l0 : Nat} {l1 : Int32} {q : Int32 × XW} (h0 : eX8_restsBy k w l0 l1 = some q) : WP K l mX8_restsBy 6 140 n0 k0 (some (.int q.1)) q.2 0 [some (.ref l0), some (.int l1), none] [] w := by
  unfold eX8_restsBy at h0
  refine wp_iconst (v := (0 : Int32)) dX8_restsBy_0 (by decide) ?_
  refine wp_istore_n (L1 := [some (.ref l0), some (.int l1), some (.int (0 : Int32))]) dX8_restsBy_1 (Nat.le_of_ble_eq_true rfl) rfl ?_
  exact WP.wk (hk0 _ _ _ _ _ h0) (And.intro rfl (And.intro rfl (And.intro rfl trivial)))
def loX8_restsBy : Nat → KTX8_restsBy
  | 0 => fun _ _ _ _ => none
  | n + 1 => hX8_restsBy_2 (loX8_restsBy n)
theorem LOX8_restsBy {K : CX} {l : Launch} {n0 k0 : Nat} : ∀ n : Nat, (∀ (w : XW) (l0 : Nat) (l1 : Int32) (l2 : Int32) (q : Int32 × XW), (loX8_restsBy n) w l0 l1 l2 = some q → WP K l mX8_restsBy 6 140 n0 k0 (some (.int q.1)) q.2 2 [some (.ref l0), some (.int l1), some (.int l2)] [] w) := by
  intro n
  induction n with
  | zero => exact fun _ _ _ _ q h => (by cases h)
  | succ n ih => exact fun _ _ _ _ q h => HX8_restsBy_2 ih h
def fX8_restsBy (w : XW) (l0 : Nat) (l1 : Int32) : Option (Int32 × XW) := if isO w l0 8 = true then eX8_restsBy (loX8_restsBy FU) w l0 l1 else none
theorem OX8_restsBy {w : XW} {l0 : Nat} {l1 : Int32} {q : Int32 × XW} (h : fX8_restsBy w l0 l1 = some q) : isO w l0 8 = true := Decidable.byContradiction fun z => by unfold fX8_restsBy at h; rw [if_neg z] at h; cases h
theorem MX8_restsBy {K : CX} {l : Launch} {w : XW} {l0 : Nat} {l1 : Int32} {q : Int32 × XW} (h : fX8_restsBy w l0 l1 = some q) : MT K l mX8_restsBy 6 140 [.ref l0, .int l1] w (some (.int q.1)) q.2 := by
  have z := OX8_restsBy h
  unfold fX8_restsBy at h
  rw [if_pos z] at h
  exact MT.of (by decide) (Nat.le_of_ble_eq_true rfl) rfl (EX8_restsBy (LOX8_restsBy FU) h)
