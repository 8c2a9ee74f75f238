/-! FractionRun$Kept.push(LFractionRun$State;LFractionRun$Text;)V: frames 2, words 47 -/
abbrev mX2_push : MR := (⟨"FractionRun$Kept", "push", "(LFractionRun$State;LFractionRun$Text;)V"⟩, prog_4_method_3_code, 3, none)
theorem dX2_push_0 : decode prog_4_method_3_code 0 = .ok (.aload_n 0, 1) := by decide +kernel
theorem dX2_push_1 : decode prog_4_method_3_code 1 = .ok (.getfield 25, 3) := by decide +kernel
theorem dX2_push_4 : decode prog_4_method_3_code 4 = .ok (.iconst 2, 1) := by decide +kernel
theorem dX2_push_5 : decode prog_4_method_3_code 5 = .ok (.if_icmp .ge 39, 3) := by decide +kernel
theorem dX2_push_8 : decode prog_4_method_3_code 8 = .ok (.aload_n 0, 1) := by decide +kernel
theorem dX2_push_9 : decode prog_4_method_3_code 9 = .ok (.getfield 11, 3) := by decide +kernel
theorem dX2_push_12 : decode prog_4_method_3_code 12 = .ok (.aload_n 0, 1) := by decide +kernel
theorem dX2_push_13 : decode prog_4_method_3_code 13 = .ok (.getfield 25, 3) := by decide +kernel
theorem dX2_push_16 : decode prog_4_method_3_code 16 = .ok (.aaload, 1) := by decide +kernel
theorem dX2_push_17 : decode prog_4_method_3_code 17 = .ok (.aload_n 1, 1) := by decide +kernel
theorem dX2_push_18 : decode prog_4_method_3_code 18 = .ok (.invokevirtual 29, 3) := by decide +kernel
theorem dX2_push_21 : decode prog_4_method_3_code 21 = .ok (.aload_n 0, 1) := by decide +kernel
theorem dX2_push_22 : decode prog_4_method_3_code 22 = .ok (.getfield 19, 3) := by decide +kernel
theorem dX2_push_25 : decode prog_4_method_3_code 25 = .ok (.aload_n 0, 1) := by decide +kernel
theorem dX2_push_26 : decode prog_4_method_3_code 26 = .ok (.getfield 25, 3) := by decide +kernel
theorem dX2_push_29 : decode prog_4_method_3_code 29 = .ok (.aaload, 1) := by decide +kernel
theorem dX2_push_30 : decode prog_4_method_3_code 30 = .ok (.aload_n 2, 1) := by decide +kernel
theorem dX2_push_31 : decode prog_4_method_3_code 31 = .ok (.invokevirtual 33, 3) := by decide +kernel
theorem dX2_push_34 : decode prog_4_method_3_code 34 = .ok (.aload_n 0, 1) := by decide +kernel
theorem dX2_push_35 : decode prog_4_method_3_code 35 = .ok (.dup, 1) := by decide +kernel
theorem dX2_push_36 : decode prog_4_method_3_code 36 = .ok (.getfield 25, 3) := by decide +kernel
theorem dX2_push_39 : decode prog_4_method_3_code 39 = .ok (.iconst 1, 1) := by decide +kernel
theorem dX2_push_40 : decode prog_4_method_3_code 40 = .ok (.iadd, 1) := by decide +kernel
theorem dX2_push_41 : decode prog_4_method_3_code 41 = .ok (.putfield 25, 3) := by decide +kernel
theorem dX2_push_44 : decode prog_4_method_3_code 44 = .ok (.return_, 1) := by decide +kernel
theorem okM_X2_push : okM mX2_push 2 := ⟨tw666, tw7, by decide, by decide, by decide +kernel⟩
def bX2_push_44 (w : XW) : Option XW :=
  some w
theorem BX2_push_44 {K : CX} {l : Launch} {n0 k0 : Nat} {w : XW} {q : XW} (h0 : bX2_push_44 w = some q) : WP K l mX2_push 2 47 n0 k0 none q 44 [none, none, none] [] w := by
  unfold bX2_push_44 at h0
  cases h0
  exact wp_vret rfl dX2_push_44
def eX2_push (w : XW) (l0 : Nat) (l1 : Nat) (l2 : Nat) : Option XW :=
  (gI w l0 2 2).bind fun x1 =>
  if (2 : Int32) ≤ x1 then
  bX2_push_44 w
  else
  (gR w l0 2 0).bind fun x5 =>
  (gI w l0 2 2).bind fun x8 =>
  (aR w 0 x5 x8).bind fun x11 =>
  (fX5_copyFrom w x11 l1).bind fun q14 =>
  (gR q14 l0 2 1).bind fun x17 =>
  (gI q14 l0 2 2).bind fun x20 =>
  (aR q14 1 x17 x20).bind fun x23 =>
  (fX6_copyFrom q14 x23 l2).bind fun q26 =>
  (gI q26 l0 2 2).bind fun x29 =>
  (pV q26 l0 2 2 (.int (x29 + (1 : Int32)))).bind fun w32 =>
  bX2_push_44 w32
theorem EX2_push {K : CX} {l : Launch} {n0 k0 : Nat} {w : XW} {l0 : Nat} {l1 : Nat} {l2 : Nat} {q : XW} (h0 : eX2_push w l0 l1 l2 = some q) : WP K l mX2_push 2 47 n0 k0 none q 0 [some (.ref l0), some (.ref l1), some (.ref l2)] [] w := by
  unfold eX2_push at h0
  refine wp_aload_n dX2_push_0 rfl ?_
  obtain ⟨x1, e3, h2⟩ := Option.bind_eq_some_iff.mp h0
  clear h0
  refine wp_getI okX2 (k := 2) (by decide) tw157 dX2_push_1 e3 ?_
  refine wp_iconst (v := (2 : Int32)) dX2_push_4 (by decide) ?_
  refine wp_icmp_ge (tgt := 44) dX2_push_5 (by decide) (fun c4 => ?_) (fun c4 => ?_)
  · rw [if_pos c4] at h2
    exact WP.wk (BX2_push_44 h2) trivial
  · rw [if_neg c4] at h2
    refine wp_aload_n dX2_push_8 rfl ?_
    obtain ⟨x5, e7, h6⟩ := Option.bind_eq_some_iff.mp h2
    clear h2
    refine wp_getR okX2 (k := 0) (by decide) tw155 dX2_push_9 e7 ?_
    refine wp_aload_n dX2_push_12 rfl ?_
    obtain ⟨x8, e10, h9⟩ := Option.bind_eq_some_iff.mp h6
    clear h6
    refine wp_getI okX2 (k := 2) (by decide) tw157 dX2_push_13 e10 ?_
    obtain ⟨x11, e13, h12⟩ := Option.bind_eq_some_iff.mp h9
    clear h9
    refine wp_aald (t := 0) rfl dX2_push_16 e13 ?_
    refine wp_aload_n dX2_push_17 rfl ?_
    obtain ⟨q14, e16, h15⟩ := Option.bind_eq_some_iff.mp h12
    clear h12
    refine wp_Vv (As := [.ref l1]) (S := []) okM_X5_copyFrom tw419 tw420 tw667 (OX5_copyFrom e16) rfl rfl rfl ⟨(Nat.le_of_ble_eq_true rfl), (Nat.le_of_ble_eq_true rfl)⟩ (Nat.le_of_ble_eq_true rfl) rfl dX2_push_18 (MX5_copyFrom e16) ?_
    refine wp_aload_n dX2_push_21 rfl ?_
    obtain ⟨x17, e19, h18⟩ := Option.bind_eq_some_iff.mp h15
    clear h15
    refine wp_getR okX2 (k := 1) (by decide) tw156 dX2_push_22 e19 ?_
    refine wp_aload_n dX2_push_25 rfl ?_
    obtain ⟨x20, e22, h21⟩ := Option.bind_eq_some_iff.mp h18
    clear h18
    refine wp_getI okX2 (k := 2) (by decide) tw157 dX2_push_26 e22 ?_
    obtain ⟨x23, e25, h24⟩ := Option.bind_eq_some_iff.mp h21
    clear h21
    refine wp_aald (t := 1) rfl dX2_push_29 e25 ?_
    refine wp_aload_n dX2_push_30 rfl ?_
    obtain ⟨q26, e28, h27⟩ := Option.bind_eq_some_iff.mp h24
    clear h24
    refine wp_Vv (As := [.ref l2]) (S := []) okM_X6_copyFrom tw669 tw670 tw668 (OX6_copyFrom e28) rfl rfl rfl ⟨(Nat.le_of_ble_eq_true rfl), (Nat.le_of_ble_eq_true rfl)⟩ (Nat.le_of_ble_eq_true rfl) rfl dX2_push_31 (MX6_copyFrom e28) ?_
    refine wp_aload_n dX2_push_34 rfl ?_
    refine wp_dup dX2_push_35 rfl ?_
    obtain ⟨x29, e31, h30⟩ := Option.bind_eq_some_iff.mp h27
    clear h27
    refine wp_getI okX2 (k := 2) (by decide) tw157 dX2_push_36 e31 ?_
    refine wp_iconst (v := (1 : Int32)) dX2_push_39 (by decide) ?_
    refine wp_iadd dX2_push_40 ?_
    obtain ⟨w32, e34, h33⟩ := Option.bind_eq_some_iff.mp h30
    clear h30
    refine wp_putV okX2 (k := 2) (by decide) rfl tw157 dX2_push_41 rfl rfl e34 ?_
    exact WP.wk (BX2_push_44 h33) trivial
def fX2_push (w : XW) (l0 : Nat) (l1 : Nat) (l2 : Nat) : Option XW := if isO w l0 2 = true then eX2_push w l0 l1 l2 else none
theorem OX2_push {w : XW} {l0 : Nat} {l1 : Nat} {l2 : Nat} {q : XW} (h : fX2_push w l0 l1 l2 = some q) : isO w l0 2 = true := Decidable.byContradiction fun z => by unfold fX2_push at h; rw [if_neg z] at h; cases h
theorem MX2_push {K : CX} {l : Launch} {w : XW} {l0 : Nat} {l1 : Nat} {l2 : Nat} {q : XW} (h : fX2_push w l0 l1 l2 = some q) : MT K l mX2_push 2 47 [.ref l0, .ref l1, .ref l2] w none q := by
  have z := OX2_push h
  unfold fX2_push at h
  rw [if_pos z] at h
  exact MT.of (by decide) (Nat.le_of_ble_eq_true rfl) rfl (EX2_push h)
/-! FractionRun.keep()I: frames 3, words 69 -/
abbrev mX7_keep : MR := (⟨"FractionRun", "keep", "()I"⟩, prog_1_method_31_code, 1, (some .int))
theorem dX7_keep_0 : decode prog_1_method_31_code 0 = .ok (.aload_n 0, 1) := by decide +kernel
theorem dX7_keep_1 : decode prog_1_method_31_code 1 = .ok (.getfield 56, 3) := by decide +kernel
theorem dX7_keep_4 : decode prog_1_method_31_code 4 = .ok (.getfield 266, 3) := by decide +kernel
theorem dX7_keep_7 : decode prog_1_method_31_code 7 = .ok (.iconst 2, 1) := by decide +kernel
theorem dX7_keep_8 : decode prog_1_method_31_code 8 = .ok (.if_icmp .lt 6, 3) := by decide +kernel
theorem dX7_keep_11 : decode prog_1_method_31_code 11 = .ok (.bipush (-3), 2) := by decide +kernel
theorem dX7_keep_13 : decode prog_1_method_31_code 13 = .ok (.ireturn, 1) := by decide +kernel
theorem dX7_keep_14 : decode prog_1_method_31_code 14 = .ok (.aload_n 0, 1) := by decide +kernel
theorem dX7_keep_15 : decode prog_1_method_31_code 15 = .ok (.getfield 56, 3) := by decide +kernel
theorem dX7_keep_18 : decode prog_1_method_31_code 18 = .ok (.aload_n 0, 1) := by decide +kernel
theorem dX7_keep_19 : decode prog_1_method_31_code 19 = .ok (.getfield 36, 3) := by decide +kernel
theorem dX7_keep_22 : decode prog_1_method_31_code 22 = .ok (.aload_n 0, 1) := by decide +kernel
theorem dX7_keep_23 : decode prog_1_method_31_code 23 = .ok (.getfield 10, 3) := by decide +kernel
theorem dX7_keep_26 : decode prog_1_method_31_code 26 = .ok (.invokevirtual 267, 3) := by decide +kernel
theorem dX7_keep_29 : decode prog_1_method_31_code 29 = .ok (.aload_n 0, 1) := by decide +kernel
theorem dX7_keep_30 : decode prog_1_method_31_code 30 = .ok (.getfield 56, 3) := by decide +kernel
theorem dX7_keep_33 : decode prog_1_method_31_code 33 = .ok (.getfield 266, 3) := by decide +kernel
theorem dX7_keep_36 : decode prog_1_method_31_code 36 = .ok (.ireturn, 1) := by decide +kernel
theorem okM_X7_keep : okM mX7_keep 0 := ⟨tw662, tw1, by decide, by decide, by decide +kernel⟩
def eX7_keep (w : XW) (l0 : Nat) : Option (Int32 × XW) :=
  (gR w l0 7 8).bind fun x1 =>
  (gI w x1 2 2).bind fun x4 =>
  if x4 < (2 : Int32) then
  (gR w l0 7 8).bind fun x8 =>
  (gR w l0 7 4).bind fun x11 =>
  (gR w l0 7 0).bind fun x14 =>
  (fX2_push w x8 x11 x14).bind fun q17 =>
  (gR q17 l0 7 8).bind fun x20 =>
  (gI q17 x20 2 2).bind fun x23 =>
  some (x23, q17)
  else
  some ((-3 : Int32), w)
theorem EX7_keep {K : CX} {l : Launch} {n0 k0 : Nat} {w : XW} {l0 : Nat} {q : Int32 × XW} (h0 : eX7_keep w l0 = some q) : WP K l mX7_keep 3 69 n0 k0 (some (.int q.1)) q.2 0 [some (.ref l0)] [] w := by
  unfold eX7_keep at h0
  refine wp_aload_n dX7_keep_0 rfl ?_
  obtain ⟨x1, e3, h2⟩ := Option.bind_eq_some_iff.mp h0
  clear h0
  refine wp_getR okX7 (k := 8) (by decide) tw306 dX7_keep_1 e3 ?_
  obtain ⟨x4, e6, h5⟩ := Option.bind_eq_some_iff.mp h2
  clear h2
  refine wp_getI okX2 (k := 2) (by decide) tw158 dX7_keep_4 e6 ?_
  refine wp_iconst (v := (2 : Int32)) dX7_keep_7 (by decide) ?_
  refine wp_icmp_lt (tgt := 14) dX7_keep_8 (by decide) (fun c7 => ?_) (fun c7 => ?_)
  · rw [if_pos c7] at h5
    refine wp_aload_n dX7_keep_14 rfl ?_
    obtain ⟨x8, e10, h9⟩ := Option.bind_eq_some_iff.mp h5
    clear h5
    refine wp_getR okX7 (k := 8) (by decide) tw306 dX7_keep_15 e10 ?_
    refine wp_aload_n dX7_keep_18 rfl ?_
    obtain ⟨x11, e13, h12⟩ := Option.bind_eq_some_iff.mp h9
    clear h9
    refine wp_getR okX7 (k := 4) (by decide) tw302 dX7_keep_19 e13 ?_
    refine wp_aload_n dX7_keep_22 rfl ?_
    obtain ⟨x14, e16, h15⟩ := Option.bind_eq_some_iff.mp h12
    clear h12
    refine wp_getR okX7 (k := 0) (by decide) tw298 dX7_keep_23 e16 ?_
    obtain ⟨q17, e19, h18⟩ := Option.bind_eq_some_iff.mp h15
    clear h15
    refine wp_Vv (As := [.ref x11, .ref x14]) (S := []) okM_X2_push tw664 tw665 tw663 (OX2_push e19) rfl rfl rfl ⟨(Nat.le_of_ble_eq_true rfl), (Nat.le_of_ble_eq_true rfl)⟩ (Nat.le_of_ble_eq_true rfl) rfl dX7_keep_26 (MX2_push e19) ?_
    refine wp_aload_n dX7_keep_29 rfl ?_
    obtain ⟨x20, e22, h21⟩ := Option.bind_eq_some_iff.mp h18
    clear h18
    refine wp_getR okX7 (k := 8) (by decide) tw306 dX7_keep_30 e22 ?_
    obtain ⟨x23, e25, h24⟩ := Option.bind_eq_some_iff.mp h21
    clear h21
    refine wp_getI okX2 (k := 2) (by decide) tw158 dX7_keep_33 e25 ?_
    cases h24
    exact wp_iret rfl dX7_keep_36
  · rw [if_neg c7] at h5
    refine wp_bipush (v := (-3 : Int32)) dX7_keep_11 (by decide) ?_
    cases h5
    exact wp_iret rfl dX7_keep_13
def fX7_keep (w : XW) (l0 : Nat) : Option (Int32 × XW) := if isO w l0 7 = true then eX7_keep w l0 else none
theorem OX7_keep {w : XW} {l0 : Nat} {q : Int32 × XW} (h : fX7_keep w l0 = some q) : isO w l0 7 = true := Decidable.byContradiction fun z => by unfold fX7_keep at h; rw [if_neg z] at h; cases h
theorem MX7_keep {K : CX} {l : Launch} {w : XW} {l0 : Nat} {q : Int32 × XW} (h : fX7_keep w l0 = some q) : MT K l mX7_keep 3 69 [.ref l0] w (some (.int q.1)) q.2 := by
  have z := OX7_keep h
  unfold fX7_keep at h
  rw [if_pos z] at h
  exact MT.of (by decide) (Nat.le_of_ble_eq_true rfl) rfl (EX7_keep h)
/-! FractionRunModel.keep()I: frames 2, words 43 -/
abbrev mX8_keep : MR := (⟨"FractionRunModel", "keep", "()I"⟩, prog_10_method_68_code, 1, (some .int))
theorem dX8_keep_0 : decode prog_10_method_68_code 0 = .ok (.aload_n 0, 1) := by decide +kernel
theorem dX8_keep_1 : decode prog_10_method_68_code 1 = .ok (.getfield 78, 3) := by decide +kernel
theorem dX8_keep_4 : decode prog_10_method_68_code 4 = .ok (.iconst 2, 1) := by decide +kernel
theorem dX8_keep_5 : decode prog_10_method_68_code 5 = .ok (.if_icmp .ne 6, 3) := by decide +kernel
theorem dX8_keep_8 : decode prog_10_method_68_code 8 = .ok (.bipush (-3), 2) := by decide +kernel
theorem dX8_keep_10 : decode prog_10_method_68_code 10 = .ok (.ireturn, 1) := by decide +kernel
theorem dX8_keep_11 : decode prog_10_method_68_code 11 = .ok (.aload_n 0, 1) := by decide +kernel
theorem dX8_keep_12 : decode prog_10_method_68_code 12 = .ok (.iconst 0, 1) := by decide +kernel
theorem dX8_keep_13 : decode prog_10_method_68_code 13 = .ok (.sipush 162, 3) := by decide +kernel
theorem dX8_keep_16 : decode prog_10_method_68_code 16 = .ok (.aload_n 0, 1) := by decide +kernel
theorem dX8_keep_17 : decode prog_10_method_68_code 17 = .ok (.getfield 78, 3) := by decide +kernel
theorem dX8_keep_20 : decode prog_10_method_68_code 20 = .ok (.bipush 18, 2) := by decide +kernel
theorem dX8_keep_22 : decode prog_10_method_68_code 22 = .ok (.imul, 1) := by decide +kernel
theorem dX8_keep_23 : decode prog_10_method_68_code 23 = .ok (.iadd, 1) := by decide +kernel
theorem dX8_keep_24 : decode prog_10_method_68_code 24 = .ok (.invokevirtual 155, 3) := by decide +kernel
theorem dX8_keep_27 : decode prog_10_method_68_code 27 = .ok (.aload_n 0, 1) := by decide +kernel
theorem dX8_keep_28 : decode prog_10_method_68_code 28 = .ok (.dup, 1) := by decide +kernel
theorem dX8_keep_29 : decode prog_10_method_68_code 29 = .ok (.getfield 78, 3) := by decide +kernel
theorem dX8_keep_32 : decode prog_10_method_68_code 32 = .ok (.iconst 1, 1) := by decide +kernel
theorem dX8_keep_33 : decode prog_10_method_68_code 33 = .ok (.iadd, 1) := by decide +kernel
theorem dX8_keep_34 : decode prog_10_method_68_code 34 = .ok (.putfield 78, 3) := by decide +kernel
theorem dX8_keep_37 : decode prog_10_method_68_code 37 = .ok (.aload_n 0, 1) := by decide +kernel
theorem dX8_keep_38 : decode prog_10_method_68_code 38 = .ok (.getfield 78, 3) := by decide +kernel
theorem dX8_keep_41 : decode prog_10_method_68_code 41 = .ok (.ireturn, 1) := by decide +kernel
theorem okM_X8_keep : okM mX8_keep 0 := ⟨tw1047, tw15, by decide, by decide, by decide +kernel⟩
def eX8_keep (w : XW) (l0 : Nat) : Option (Int32 × XW) :=
  (gI w l0 8 9).bind fun x1 =>
  if x1 = (2 : Int32) then
  some ((-3 : Int32), w)
  else
  (gI w l0 8 9).bind fun x5 =>
  (fX8_copies w l0 (0 : Int32) ((162 : Int32) + (x5 * (18 : Int32)))).bind fun q8 =>
  (gI q8 l0 8 9).bind fun x11 =>
  (pV q8 l0 8 9 (.int (x11 + (1 : Int32)))).bind fun w14 =>
  (gI w14 l0 8 9).bind fun x17 =>
  some (x17, w14)
theorem EX8_keep {K : CX} {l : Launch} {n0 k0 : Nat} {w : XW} {l0 : Nat} {q : Int32 × XW} (h0 : eX8_keep w l0 = some q) : WP K l mX8_keep 2 43 n0 k0 (some (.int q.1)) q.2 0 [some (.ref l0)] [] w := by
  unfold eX8_keep at h0
  refine wp_aload_n dX8_keep_0 rfl ?_
  obtain ⟨x1, e3, h2⟩ := Option.bind_eq_some_iff.mp h0
  clear h0
  refine wp_getI okX8 (k := 9) (by decide) tw714 dX8_keep_1 e3 ?_
  refine wp_iconst (v := (2 : Int32)) dX8_keep_4 (by decide) ?_
  refine wp_icmp_ne (tgt := 11) dX8_keep_5 (by decide) (fun c4 => ?_) (fun c4 => ?_)
  · rw [if_neg c4] at h2
    refine wp_aload_n dX8_keep_11 rfl ?_
    refine wp_iconst (v := (0 : Int32)) dX8_keep_12 (by decide) ?_
    refine wp_sipush (v := (162 : Int32)) dX8_keep_13 (by decide) ?_
    refine wp_aload_n dX8_keep_16 rfl ?_
    obtain ⟨x5, e7, h6⟩ := Option.bind_eq_some_iff.mp h2
    clear h2
    refine wp_getI okX8 (k := 9) (by decide) tw714 dX8_keep_17 e7 ?_
    refine wp_bipush (v := (18 : Int32)) dX8_keep_20 (by decide) ?_
    refine wp_imul dX8_keep_22 ?_
    refine wp_iadd dX8_keep_23 ?_
    obtain ⟨q8, e10, h9⟩ := Option.bind_eq_some_iff.mp h6
    clear h6
    refine wp_Vv (As := [.int (0 : Int32), .int ((162 : Int32) + (x5 * (18 : Int32)))]) (S := []) okM_X8_copies tw877 twP_X8_copies tw875 (OX8_copies e10) rfl rfl rfl ⟨(Nat.le_of_ble_eq_true rfl), (Nat.le_of_ble_eq_true rfl)⟩ (Nat.le_of_ble_eq_true rfl) rfl dX8_keep_24 (MX8_copies e10) ?_
    refine wp_aload_n dX8_keep_27 rfl ?_
    refine wp_dup dX8_keep_28 rfl ?_
    obtain ⟨x11, e13, h12⟩ := Option.bind_eq_some_iff.mp h9
    clear h9
    refine wp_getI okX8 (k := 9) (by decide) tw714 dX8_keep_29 e13 ?_
    refine wp_iconst (v := (1 : Int32)) dX8_keep_32 (by decide) ?_
    refine wp_iadd dX8_keep_33 ?_
    obtain ⟨w14, e16, h15⟩ := Option.bind_eq_some_iff.mp h12
    clear h12
    refine wp_putV okX8 (k := 9) (by decide) rfl tw714 dX8_keep_34 rfl rfl e16 ?_
    refine wp_aload_n dX8_keep_37 rfl ?_
    obtain ⟨x17, e19, h18⟩ := Option.bind_eq_some_iff.mp h15
    clear h15
    refine wp_getI okX8 (k := 9) (by decide) tw714 dX8_keep_38 e19 ?_
    cases h18
    exact wp_iret rfl dX8_keep_41
  · rw [if_pos c4] at h2
    refine wp_bipush (v := (-3 : Int32)) dX8_keep_8 (by decide) ?_
    cases h2
    exact wp_iret rfl dX8_keep_10
def fX8_keep (w : XW) (l0 : Nat) : Option (Int32 × XW) := if isO w l0 8 = true then eX8_keep w l0 else none
theorem OX8_keep {w : XW} {l0 : Nat} {q : Int32 × XW} (h : fX8_keep w l0 = some q) : isO w l0 8 = true := Decidable.byContradiction fun z => by unfold fX8_keep at h; rw [if_neg z] at h; cases h
theorem MX8_keep {K : CX} {l : Launch} {w : XW} {l0 : Nat} {q : Int32 × XW} (h : fX8_keep w l0 = some q) : MT K l mX8_keep 2 43 [.ref l0] w (some (.int q.1)) q.2 := by
  have z := OX8_keep h
  unfold fX8_keep at h
  rw [if_pos z] at h
  exact MT.of (by decide) (Nat.le_of_ble_eq_true rfl) rfl (EX8_keep h)
/-! FractionRun$Kept.pop(LFractionRun$State;LFractionRun$Text;)V: frames 2, words 47 -/
abbrev mX2_pop : MR := (⟨"FractionRun$Kept", "pop", "(LFractionRun$State;LFractionRun$Text;)V"⟩, prog_4_method_4_code, 3, none)
theorem dX2_pop_0 : decode prog_4_method_4_code 0 = .ok (.aload_n 0, 1) := by decide +kernel
theorem dX2_pop_1 : decode prog_4_method_4_code 1 = .ok (.getfield 25, 3) := by decide +kernel
theorem dX2_pop_4 : decode prog_4_method_4_code 4 = .ok (.ifCond .le 39, 3) := by decide +kernel
theorem dX2_pop_7 : decode prog_4_method_4_code 7 = .ok (.aload_n 0, 1) := by decide +kernel
theorem dX2_pop_8 : decode prog_4_method_4_code 8 = .ok (.dup, 1) := by decide +kernel
theorem dX2_pop_9 : decode prog_4_method_4_code 9 = .ok (.getfield 25, 3) := by decide +kernel
theorem dX2_pop_12 : decode prog_4_method_4_code 12 = .ok (.iconst 1, 1) := by decide +kernel
theorem dX2_pop_13 : decode prog_4_method_4_code 13 = .ok (.isub, 1) := by decide +kernel
theorem dX2_pop_14 : decode prog_4_method_4_code 14 = .ok (.putfield 25, 3) := by decide +kernel
theorem dX2_pop_17 : decode prog_4_method_4_code 17 = .ok (.aload_n 1, 1) := by decide +kernel
theorem dX2_pop_18 : decode prog_4_method_4_code 18 = .ok (.aload_n 0, 1) := by decide +kernel
theorem dX2_pop_19 : decode prog_4_method_4_code 19 = .ok (.getfield 11, 3) := by decide +kernel
theorem dX2_pop_22 : decode prog_4_method_4_code 22 = .ok (.aload_n 0, 1) := by decide +kernel
theorem dX2_pop_23 : decode prog_4_method_4_code 23 = .ok (.getfield 25, 3) := by decide +kernel
theorem dX2_pop_26 : decode prog_4_method_4_code 26 = .ok (.aaload, 1) := by decide +kernel
theorem dX2_pop_27 : decode prog_4_method_4_code 27 = .ok (.invokevirtual 29, 3) := by decide +kernel
theorem dX2_pop_30 : decode prog_4_method_4_code 30 = .ok (.aload_n 2, 1) := by decide +kernel
theorem dX2_pop_31 : decode prog_4_method_4_code 31 = .ok (.aload_n 0, 1) := by decide +kernel
theorem dX2_pop_32 : decode prog_4_method_4_code 32 = .ok (.getfield 19, 3) := by decide +kernel
theorem dX2_pop_35 : decode prog_4_method_4_code 35 = .ok (.aload_n 0, 1) := by decide +kernel
theorem dX2_pop_36 : decode prog_4_method_4_code 36 = .ok (.getfield 25, 3) := by decide +kernel
theorem dX2_pop_39 : decode prog_4_method_4_code 39 = .ok (.aaload, 1) := by decide +kernel
theorem dX2_pop_40 : decode prog_4_method_4_code 40 = .ok (.invokevirtual 33, 3) := by decide +kernel
theorem dX2_pop_43 : decode prog_4_method_4_code 43 = .ok (.return_, 1) := by decide +kernel
theorem okM_X2_pop : okM mX2_pop 2 := ⟨tw680, tw7, by decide, by decide, by decide +kernel⟩
def bX2_pop_43 (w : XW) : Option XW :=
  some w
theorem BX2_pop_43 {K : CX} {l : Launch} {n0 k0 : Nat} {w : XW} {q : XW} (h0 : bX2_pop_43 w = some q) : WP K l mX2_pop 2 47 n0 k0 none q 43 [none, none, none] [] w := by
  unfold bX2_pop_43 at h0
  cases h0
  exact wp_vret rfl dX2_pop_43
def eX2_pop (w : XW) (l0 : Nat) (l1 : Nat) (l2 : Nat) : Option XW :=
  (gI w l0 2 2).bind fun x1 =>
  if x1 ≤ 0 then
  bX2_pop_43 w
  else
  (gI w l0 2 2).bind fun x5 =>
  (pV w l0 2 2 (.int (x5 - (1 : Int32)))).bind fun w8 =>
  (gR w8 l0 2 0).bind fun x11 =>
  (gI w8 l0 2 2).bind fun x14 =>
  (aR w8 0 x11 x14).bind fun x17 =>
  (fX5_copyFrom w8 l1 x17).bind fun q20 =>
  (gR q20 l0 2 1).bind fun x23 =>
  (gI q20 l0 2 2).bind fun x26 =>
  (aR q20 1 x23 x26).bind fun x29 =>
  (fX6_copyFrom q20 l2 x29).bind fun q32 =>
  bX2_pop_43 q32
theorem EX2_pop {K : CX} {l : Launch} {n0 k0 : Nat} {w : XW} {l0 : Nat} {l1 : Nat} {l2 : Nat} {q : XW} (h0 : eX2_pop w l0 l1 l2 = some q) : WP K l mX2_pop 2 47 n0 k0 none q 0 [some (.ref l0), some (.ref l1), some (.ref l2)] [] w := by
  unfold eX2_pop at h0
  refine wp_aload_n dX2_pop_0 rfl ?_
  obtain ⟨x1, e3, h2⟩ := Option.bind_eq_some_iff.mp h0
  clear h0
  refine wp_getI okX2 (k := 2) (by decide) tw157 dX2_pop_1 e3 ?_
  refine wp_if_le (tgt := 43) dX2_pop_4 (by decide) (fun c4 => ?_) (fun c4 => ?_)
  · rw [if_pos c4] at h2
    exact WP.wk (BX2_pop_43 h2) trivial
  · rw [if_neg c4] at h2
    refine wp_aload_n dX2_pop_7 rfl ?_
    refine wp_dup dX2_pop_8 rfl ?_
    obtain ⟨x5, e7, h6⟩ := Option.bind_eq_some_iff.mp h2
    clear h2
    refine wp_getI okX2 (k := 2) (by decide) tw157 dX2_pop_9 e7 ?_
    refine wp_iconst (v := (1 : Int32)) dX2_pop_12 (by decide) ?_
    refine wp_isub dX2_pop_13 ?_
    obtain ⟨w8, e10, h9⟩ := Option.bind_eq_some_iff.mp h6
    clear h6
    refine wp_putV okX2 (k := 2) (by decide) rfl tw157 dX2_pop_14 rfl rfl e10 ?_
    refine wp_aload_n dX2_pop_17 rfl ?_
    refine wp_aload_n dX2_pop_18 rfl ?_
    obtain ⟨x11, e13, h12⟩ := Option.bind_eq_some_iff.mp h9
    clear h9
    refine wp_getR okX2 (k := 0) (by decide) tw155 dX2_pop_19 e13 ?_
    refine wp_aload_n dX2_pop_22 rfl ?_
    obtain ⟨x14, e16, h15⟩ := Option.bind_eq_some_iff.mp h12
    clear h12
    refine wp_getI okX2 (k := 2) (by decide) tw157 dX2_pop_23 e16 ?_
    obtain ⟨x17, e19, h18⟩ := Option.bind_eq_some_iff.mp h15
    clear h15
    refine wp_aald (t := 0) rfl dX2_pop_26 e19 ?_
    obtain ⟨q20, e22, h21⟩ := Option.bind_eq_some_iff.mp h18
    clear h18
    refine wp_Vv (As := [.ref x17]) (S := []) okM_X5_copyFrom tw419 tw420 tw667 (OX5_copyFrom e22) rfl rfl rfl ⟨(Nat.le_of_ble_eq_true rfl), (Nat.le_of_ble_eq_true rfl)⟩ (Nat.le_of_ble_eq_true rfl) rfl dX2_pop_27 (MX5_copyFrom e22) ?_
    refine wp_aload_n dX2_pop_30 rfl ?_
    refine wp_aload_n dX2_pop_31 rfl ?_
    obtain ⟨x23, e25, h24⟩ := Option.bind_eq_some_iff.mp h21
    clear h21
    refine wp_getR okX2 (k := 1) (by decide) tw156 dX2_pop_32 e25 ?_
    refine wp_aload_n dX2_pop_35 rfl ?_
    obtain ⟨x26, e28, h27⟩ := Option.bind_eq_some_iff.mp h24
    clear h24
    refine wp_getI okX2 (k := 2) (by decide) tw157 dX2_pop_36 e28 ?_
    obtain ⟨x29, e31, h30⟩ := Option.bind_eq_some_iff.mp h27
    clear h27
    refine wp_aald (t := 1) rfl dX2_pop_39 e31 ?_
    obtain ⟨q32, e34, h33⟩ := Option.bind_eq_some_iff.mp h30
    clear h30
    refine wp_Vv (As := [.ref x29]) (S := []) okM_X6_copyFrom tw669 tw670 tw668 (OX6_copyFrom e34) rfl rfl rfl ⟨(Nat.le_of_ble_eq_true rfl), (Nat.le_of_ble_eq_true rfl)⟩ (Nat.le_of_ble_eq_true rfl) rfl dX2_pop_40 (MX6_copyFrom e34) ?_
    exact WP.wk (BX2_pop_43 h33) trivial
def fX2_pop (w : XW) (l0 : Nat) (l1 : Nat) (l2 : Nat) : Option XW := if isO w l0 2 = true then eX2_pop w l0 l1 l2 else none
theorem OX2_pop {w : XW} {l0 : Nat} {l1 : Nat} {l2 : Nat} {q : XW} (h : fX2_pop w l0 l1 l2 = some q) : isO w l0 2 = true := Decidable.byContradiction fun z => by unfold fX2_pop at h; rw [if_neg z] at h; cases h
theorem MX2_pop {K : CX} {l : Launch} {w : XW} {l0 : Nat} {l1 : Nat} {l2 : Nat} {q : XW} (h : fX2_pop w l0 l1 l2 = some q) : MT K l mX2_pop 2 47 [.ref l0, .ref l1, .ref l2] w none q := by
  have z := OX2_pop h
  unfold fX2_pop at h
  rw [if_pos z] at h
  exact MT.of (by decide) (Nat.le_of_ble_eq_true rfl) rfl (EX2_pop h)
/-! FractionRun.back()I: frames 3, words 69 -/
abbrev mX7_back : MR := (⟨"FractionRun", "back", "()I"⟩, prog_1_method_32_code, 1, (some .int))
theorem dX7_back_0 : decode prog_1_method_32_code 0 = .ok (.aload_n 0, 1) := by decide +kernel
theorem dX7_back_1 : decode prog_1_method_32_code 1 = .ok (.getfield 56, 3) := by decide +kernel
theorem dX7_back_4 : decode prog_1_method_32_code 4 = .ok (.getfield 266, 3) := by decide +kernel
theorem dX7_back_7 : decode prog_1_method_32_code 7 = .ok (.ifCond .ne 6, 3) := by decide +kernel
theorem dX7_back_10 : decode prog_1_method_32_code 10 = .ok (.bipush (-2), 2) := by decide +kernel
theorem dX7_back_12 : decode prog_1_method_32_code 12 = .ok (.ireturn, 1) := by decide +kernel
theorem dX7_back_13 : decode prog_1_method_32_code 13 = .ok (.aload_n 0, 1) := by decide +kernel
theorem dX7_back_14 : decode prog_1_method_32_code 14 = .ok (.getfield 56, 3) := by decide +kernel
theorem dX7_back_17 : decode prog_1_method_32_code 17 = .ok (.aload_n 0, 1) := by decide +kernel
theorem dX7_back_18 : decode prog_1_method_32_code 18 = .ok (.getfield 36, 3) := by decide +kernel
theorem dX7_back_21 : decode prog_1_method_32_code 21 = .ok (.aload_n 0, 1) := by decide +kernel
theorem dX7_back_22 : decode prog_1_method_32_code 22 = .ok (.getfield 10, 3) := by decide +kernel
theorem dX7_back_25 : decode prog_1_method_32_code 25 = .ok (.invokevirtual 270, 3) := by decide +kernel
theorem dX7_back_28 : decode prog_1_method_32_code 28 = .ok (.aload_n 0, 1) := by decide +kernel
theorem dX7_back_29 : decode prog_1_method_32_code 29 = .ok (.getfield 49, 3) := by decide +kernel
theorem dX7_back_32 : decode prog_1_method_32_code 32 = .ok (.invokevirtual 115, 3) := by decide +kernel
theorem dX7_back_35 : decode prog_1_method_32_code 35 = .ok (.aload_n 0, 1) := by decide +kernel
theorem dX7_back_36 : decode prog_1_method_32_code 36 = .ok (.getfield 56, 3) := by decide +kernel
theorem dX7_back_39 : decode prog_1_method_32_code 39 = .ok (.getfield 266, 3) := by decide +kernel
theorem dX7_back_42 : decode prog_1_method_32_code 42 = .ok (.ireturn, 1) := by decide +kernel
theorem okM_X7_back : okM mX7_back 0 := ⟨tw676, tw1, by decide, by decide, by decide +kernel⟩
def eX7_back (w : XW) (l0 : Nat) : Option (Int32 × XW) :=
  (gR w l0 7 8).bind fun x1 =>
  (gI w x1 2 2).bind fun x4 =>
  if x4 = 0 then
  some ((-2 : Int32), w)
  else
  (gR w l0 7 8).bind fun x8 =>
  (gR w l0 7 4).bind fun x11 =>
  (gR w l0 7 0).bind fun x14 =>
  (fX2_pop w x8 x11 x14).bind fun q17 =>
  (gR q17 l0 7 7).bind fun x20 =>
  (fX3_clear q17 x20).bind fun q23 =>
  (gR q23 l0 7 8).bind fun x26 =>
  (gI q23 x26 2 2).bind fun x29 =>
  some (x29, q23)
theorem EX7_back {K : CX} {l : Launch} {n0 k0 : Nat} {w : XW} {l0 : Nat} {q : Int32 × XW} (h0 : eX7_back w l0 = some q) : WP K l mX7_back 3 69 n0 k0 (some (.int q.1)) q.2 0 [some (.ref l0)] [] w := by
  unfold eX7_back at h0
  refine wp_aload_n dX7_back_0 rfl ?_
  obtain ⟨x1, e3, h2⟩ := Option.bind_eq_some_iff.mp h0
  clear h0
  refine wp_getR okX7 (k := 8) (by decide) tw306 dX7_back_1 e3 ?_
  obtain ⟨x4, e6, h5⟩ := Option.bind_eq_some_iff.mp h2
  clear h2
  refine wp_getI okX2 (k := 2) (by decide) tw158 dX7_back_4 e6 ?_
  refine wp_if_ne (tgt := 13) dX7_back_7 (by decide) (fun c7 => ?_) (fun c7 => ?_)
  · rw [if_neg c7] at h5
    refine wp_aload_n dX7_back_13 rfl ?_
    obtain ⟨x8, e10, h9⟩ := Option.bind_eq_some_iff.mp h5
    clear h5
    refine wp_getR okX7 (k := 8) (by decide) tw306 dX7_back_14 e10 ?_
    refine wp_aload_n dX7_back_17 rfl ?_
    obtain ⟨x11, e13, h12⟩ := Option.bind_eq_some_iff.mp h9
    clear h9
    refine wp_getR okX7 (k := 4) (by decide) tw302 dX7_back_18 e13 ?_
    refine wp_aload_n dX7_back_21 rfl ?_
    obtain ⟨x14, e16, h15⟩ := Option.bind_eq_some_iff.mp h12
    clear h12
    refine wp_getR okX7 (k := 0) (by decide) tw298 dX7_back_22 e16 ?_
    obtain ⟨q17, e19, h18⟩ := Option.bind_eq_some_iff.mp h15
    clear h15
    refine wp_Vv (As := [.ref x11, .ref x14]) (S := []) okM_X2_pop tw678 tw679 tw677 (OX2_pop e19) rfl rfl rfl ⟨(Nat.le_of_ble_eq_true rfl), (Nat.le_of_ble_eq_true rfl)⟩ (Nat.le_of_ble_eq_true rfl) rfl dX7_back_25 (MX2_pop e19) ?_
    refine wp_aload_n dX7_back_28 rfl ?_
    obtain ⟨x20, e22, h21⟩ := Option.bind_eq_some_iff.mp h18
    clear h18
    refine wp_getR okX7 (k := 7) (by decide) tw305 dX7_back_29 e22 ?_
    obtain ⟨q23, e25, h24⟩ := Option.bind_eq_some_iff.mp h21
    clear h21
    refine wp_Vv (As := []) (S := []) okM_X3_clear tw367 tw368 tw366 (OX3_clear e25) rfl rfl rfl ⟨(Nat.le_of_ble_eq_true rfl), (Nat.le_of_ble_eq_true rfl)⟩ (Nat.le_of_ble_eq_true rfl) rfl dX7_back_32 (MX3_clear e25) ?_
    refine wp_aload_n dX7_back_35 rfl ?_
    obtain ⟨x26, e28, h27⟩ := Option.bind_eq_some_iff.mp h24
    clear h24
    refine wp_getR okX7 (k := 8) (by decide) tw306 dX7_back_36 e28 ?_
    obtain ⟨x29, e31, h30⟩ := Option.bind_eq_some_iff.mp h27
    clear h27
    refine wp_getI okX2 (k := 2) (by decide) tw158 dX7_back_39 e31 ?_
    cases h30
    exact wp_iret rfl dX7_back_42
  · rw [if_pos c7] at h5
    refine wp_bipush (v := (-2 : Int32)) dX7_back_10 (by decide) ?_
    cases h5
    exact wp_iret rfl dX7_back_12
def fX7_back (w : XW) (l0 : Nat) : Option (Int32 × XW) := if isO w l0 7 = true then eX7_back w l0 else none
theorem OX7_back {w : XW} {l0 : Nat} {q : Int32 × XW} (h : fX7_back w l0 = some q) : isO w l0 7 = true := Decidable.byContradiction fun z => by unfold fX7_back at h; rw [if_neg z] at h; cases h
theorem MX7_back {K : CX} {l : Launch} {w : XW} {l0 : Nat} {q : Int32 × XW} (h : fX7_back w l0 = some q) : MT K l mX7_back 3 69 [.ref l0] w (some (.int q.1)) q.2 := by
  have z := OX7_back h
  unfold fX7_back at h
  rw [if_pos z] at h
  exact MT.of (by decide) (Nat.le_of_ble_eq_true rfl) rfl (EX7_back h)
/-! FractionRunModel.back()I: frames 2, words 43 -/
abbrev mX8_back : MR := (⟨"FractionRunModel", "back", "()I"⟩, prog_10_method_69_code, 1, (some .int))
theorem dX8_back_0 : decode prog_10_method_69_code 0 = .ok (.aload_n 0, 1) := by decide +kernel
theorem dX8_back_1 : decode prog_10_method_69_code 1 = .ok (.getfield 78, 3) := by decide +kernel
theorem dX8_back_4 : decode prog_10_method_69_code 4 = .ok (.ifCond .ne 6, 3) := by decide +kernel
theorem dX8_back_7 : decode prog_10_method_69_code 7 = .ok (.bipush (-2), 2) := by decide +kernel
theorem dX8_back_9 : decode prog_10_method_69_code 9 = .ok (.ireturn, 1) := by decide +kernel
theorem dX8_back_10 : decode prog_10_method_69_code 10 = .ok (.aload_n 0, 1) := by decide +kernel
theorem dX8_back_11 : decode prog_10_method_69_code 11 = .ok (.dup, 1) := by decide +kernel
theorem dX8_back_12 : decode prog_10_method_69_code 12 = .ok (.getfield 78, 3) := by decide +kernel
theorem dX8_back_15 : decode prog_10_method_69_code 15 = .ok (.iconst 1, 1) := by decide +kernel
theorem dX8_back_16 : decode prog_10_method_69_code 16 = .ok (.isub, 1) := by decide +kernel
theorem dX8_back_17 : decode prog_10_method_69_code 17 = .ok (.putfield 78, 3) := by decide +kernel
theorem dX8_back_20 : decode prog_10_method_69_code 20 = .ok (.aload_n 0, 1) := by decide +kernel
theorem dX8_back_21 : decode prog_10_method_69_code 21 = .ok (.sipush 162, 3) := by decide +kernel
theorem dX8_back_24 : decode prog_10_method_69_code 24 = .ok (.aload_n 0, 1) := by decide +kernel
theorem dX8_back_25 : decode prog_10_method_69_code 25 = .ok (.getfield 78, 3) := by decide +kernel
theorem dX8_back_28 : decode prog_10_method_69_code 28 = .ok (.bipush 18, 2) := by decide +kernel
theorem dX8_back_30 : decode prog_10_method_69_code 30 = .ok (.imul, 1) := by decide +kernel
theorem dX8_back_31 : decode prog_10_method_69_code 31 = .ok (.iadd, 1) := by decide +kernel
theorem dX8_back_32 : decode prog_10_method_69_code 32 = .ok (.iconst 0, 1) := by decide +kernel
theorem dX8_back_33 : decode prog_10_method_69_code 33 = .ok (.invokevirtual 155, 3) := by decide +kernel
theorem dX8_back_36 : decode prog_10_method_69_code 36 = .ok (.aload_n 0, 1) := by decide +kernel
theorem dX8_back_37 : decode prog_10_method_69_code 37 = .ok (.iconst 0, 1) := by decide +kernel
theorem dX8_back_38 : decode prog_10_method_69_code 38 = .ok (.putfield 75, 3) := by decide +kernel
theorem dX8_back_41 : decode prog_10_method_69_code 41 = .ok (.aload_n 0, 1) := by decide +kernel
theorem dX8_back_42 : decode prog_10_method_69_code 42 = .ok (.getfield 78, 3) := by decide +kernel
theorem dX8_back_45 : decode prog_10_method_69_code 45 = .ok (.ireturn, 1) := by decide +kernel
theorem okM_X8_back : okM mX8_back 0 := ⟨tw1051, tw15, by decide, by decide, by decide +kernel⟩
def eX8_back (w : XW) (l0 : Nat) : Option (Int32 × XW) :=
  (gI w l0 8 9).bind fun x1 =>
  if x1 = 0 then
  some ((-2 : Int32), w)
  else
  (gI w l0 8 9).bind fun x5 =>
  (pV w l0 8 9 (.int (x5 - (1 : Int32)))).bind fun w8 =>
  (gI w8 l0 8 9).bind fun x11 =>
  (fX8_copies w8 l0 ((162 : Int32) + (x11 * (18 : Int32))) (0 : Int32)).bind fun q14 =>
  (pV q14 l0 8 8 (.int (0 : Int32))).bind fun w17 =>
  (gI w17 l0 8 9).bind fun x20 =>
  some (x20, w17)
theorem EX8_back {K : CX} {l : Launch} {n0 k0 : Nat} {w : XW} {l0 : Nat} {q : Int32 × XW} (h0 : eX8_back w l0 = some q) : WP K l mX8_back 2 43 n0 k0 (some (.int q.1)) q.2 0 [some (.ref l0)] [] w := by
  unfold eX8_back at h0
  refine wp_aload_n dX8_back_0 rfl ?_
  obtain ⟨x1, e3, h2⟩ := Option.bind_eq_some_iff.mp h0
  clear h0
  refine wp_getI okX8 (k := 9) (by decide) tw714 dX8_back_1 e3 ?_
  refine wp_if_ne (tgt := 10) dX8_back_4 (by decide) (fun c4 => ?_) (fun c4 => ?_)
  · rw [if_neg c4] at h2
    refine wp_aload_n dX8_back_10 rfl ?_
    refine wp_dup dX8_back_11 rfl ?_
    obtain ⟨x5, e7, h6⟩ := Option.bind_eq_some_iff.mp h2
    clear h2
    refine wp_getI okX8 (k := 9) (by decide) tw714 dX8_back_12 e7 ?_
    refine wp_iconst (v := (1 : Int32)) dX8_back_15 (by decide) ?_
    refine wp_isub dX8_back_16 ?_
    obtain ⟨w8, e10, h9⟩ := Option.bind_eq_some_iff.mp h6
    clear h6
    refine wp_putV okX8 (k := 9) (by decide) rfl tw714 dX8_back_17 rfl rfl e10 ?_
    refine wp_aload_n dX8_back_20 rfl ?_
    refine wp_sipush (v := (162 : Int32)) dX8_back_21 (by decide) ?_
    refine wp_aload_n dX8_back_24 rfl ?_
    obtain ⟨x11, e13, h12⟩ := Option.bind_eq_some_iff.mp h9
    clear h9
    refine wp_getI okX8 (k := 9) (by decide) tw714 dX8_back_25 e13 ?_
    refine wp_bipush (v := (18 : Int32)) dX8_back_28 (by decide) ?_
    refine wp_imul dX8_back_30 ?_
    refine wp_iadd dX8_back_31 ?_
    refine wp_iconst (v := (0 : Int32)) dX8_back_32 (by decide) ?_
    obtain ⟨q14, e16, h15⟩ := Option.bind_eq_some_iff.mp h12
    clear h12
    refine wp_Vv (As := [.int ((162 : Int32) + (x11 * (18 : Int32))), .int (0 : Int32)]) (S := []) okM_X8_copies tw877 twP_X8_copies tw875 (OX8_copies e16) rfl rfl rfl ⟨(Nat.le_of_ble_eq_true rfl), (Nat.le_of_ble_eq_true rfl)⟩ (Nat.le_of_ble_eq_true rfl) rfl dX8_back_33 (MX8_copies e16) ?_
    refine wp_aload_n dX8_back_36 rfl ?_
    refine wp_iconst (v := (0 : Int32)) dX8_back_37 (by decide) ?_
    obtain ⟨w17, e19, h18⟩ := Option.bind_eq_some_iff.mp h15
    clear h15
    refine wp_putV okX8 (k := 8) (by decide) rfl tw713 dX8_back_38 rfl rfl e19 ?_
    refine wp_aload_n dX8_back_41 rfl ?_
    obtain ⟨x20, e22, h21⟩ := Option.bind_eq_some_iff.mp h18
    clear h18
    refine wp_getI okX8 (k := 9) (by decide) tw714 dX8_back_42 e22 ?_
    cases h21
    exact wp_iret rfl dX8_back_45
  · rw [if_pos c4] at h2
    refine wp_bipush (v := (-2 : Int32)) dX8_back_7 (by decide) ?_
    cases h2
    exact wp_iret rfl dX8_back_9
def fX8_back (w : XW) (l0 : Nat) : Option (Int32 × XW) := if isO w l0 8 = true then eX8_back w l0 else none
theorem OX8_back {w : XW} {l0 : Nat} {q : Int32 × XW} (h : fX8_back w l0 = some q) : isO w l0 8 = true := Decidable.byContradiction fun z => by unfold fX8_back at h; rw [if_neg z] at h; cases h
theorem MX8_back {K : CX} {l : Launch} {w : XW} {l0 : Nat} {q : Int32 × XW} (h : fX8_back w l0 = some q) : MT K l mX8_back 2 43 [.ref l0] w (some (.int q.1)) q.2 := by
  have z := OX8_back h
  unfold fX8_back at h
  rw [if_pos z] at h
  exact MT.of (by decide) (Nat.le_of_ble_eq_true rfl) rfl (EX8_back h)
/-! FractionRun.count(I)I: frames 4, words 92 -/
abbrev mX7_count : MR := (⟨"FractionRun", "count", "(I)I"⟩, prog_1_method_33_code, 2, (some .int))
theorem dX7_count_0 : decode prog_1_method_33_code 0 = .ok (.iload_n 1, 1) := by decide +kernel
theorem dX7_count_1 : decode prog_1_method_33_code 1 = .ok (.tableswitch 152 0 9 #[55, 63, 71, 79, 87, 107, 115, 123, 128, 136], 55) := by decide +kernel
theorem dX7_count_56 : decode prog_1_method_33_code 56 = .ok (.aload_n 0, 1) := by decide +kernel
theorem dX7_count_57 : decode prog_1_method_33_code 57 = .ok (.getfield 26, 3) := by decide +kernel
theorem dX7_count_60 : decode prog_1_method_33_code 60 = .ok (.getfield 111, 3) := by decide +kernel
theorem dX7_count_63 : decode prog_1_method_33_code 63 = .ok (.ireturn, 1) := by decide +kernel
theorem dX7_count_64 : decode prog_1_method_33_code 64 = .ok (.aload_n 0, 1) := by decide +kernel
theorem dX7_count_65 : decode prog_1_method_33_code 65 = .ok (.getfield 36, 3) := by decide +kernel
theorem dX7_count_68 : decode prog_1_method_33_code 68 = .ok (.getfield 175, 3) := by decide +kernel
theorem dX7_count_71 : decode prog_1_method_33_code 71 = .ok (.ireturn, 1) := by decide +kernel
theorem dX7_count_72 : decode prog_1_method_33_code 72 = .ok (.aload_n 0, 1) := by decide +kernel
theorem dX7_count_73 : decode prog_1_method_33_code 73 = .ok (.getfield 36, 3) := by decide +kernel
theorem dX7_count_76 : decode prog_1_method_33_code 76 = .ok (.getfield 150, 3) := by decide +kernel
theorem dX7_count_79 : decode prog_1_method_33_code 79 = .ok (.ireturn, 1) := by decide +kernel
theorem dX7_count_80 : decode prog_1_method_33_code 80 = .ok (.aload_n 0, 1) := by decide +kernel
theorem dX7_count_81 : decode prog_1_method_33_code 81 = .ok (.getfield 36, 3) := by decide +kernel
theorem dX7_count_84 : decode prog_1_method_33_code 84 = .ok (.invokevirtual 263, 3) := by decide +kernel
theorem dX7_count_87 : decode prog_1_method_33_code 87 = .ok (.ireturn, 1) := by decide +kernel
theorem dX7_count_88 : decode prog_1_method_33_code 88 = .ok (.aload_n 0, 1) := by decide +kernel
theorem dX7_count_89 : decode prog_1_method_33_code 89 = .ok (.getfield 36, 3) := by decide +kernel
theorem dX7_count_92 : decode prog_1_method_33_code 92 = .ok (.aload_n 0, 1) := by decide +kernel
theorem dX7_count_93 : decode prog_1_method_33_code 93 = .ok (.getfield 26, 3) := by decide +kernel
theorem dX7_count_96 : decode prog_1_method_33_code 96 = .ok (.invokevirtual 153, 3) := by decide +kernel
theorem dX7_count_99 : decode prog_1_method_33_code 99 = .ok (.ifCond .eq 7, 3) := by decide +kernel
theorem dX7_count_102 : decode prog_1_method_33_code 102 = .ok (.iconst 1, 1) := by decide +kernel
theorem dX7_count_103 : decode prog_1_method_33_code 103 = .ok (.goto 4, 3) := by decide +kernel
theorem dX7_count_106 : decode prog_1_method_33_code 106 = .ok (.iconst 0, 1) := by decide +kernel
theorem dX7_count_107 : decode prog_1_method_33_code 107 = .ok (.ireturn, 1) := by decide +kernel
theorem dX7_count_108 : decode prog_1_method_33_code 108 = .ok (.aload_n 0, 1) := by decide +kernel
theorem dX7_count_109 : decode prog_1_method_33_code 109 = .ok (.getfield 49, 3) := by decide +kernel
theorem dX7_count_112 : decode prog_1_method_33_code 112 = .ok (.getfield 185, 3) := by decide +kernel
theorem dX7_count_115 : decode prog_1_method_33_code 115 = .ok (.ireturn, 1) := by decide +kernel
theorem dX7_count_116 : decode prog_1_method_33_code 116 = .ok (.aload_n 0, 1) := by decide +kernel
theorem dX7_count_117 : decode prog_1_method_33_code 117 = .ok (.getfield 56, 3) := by decide +kernel
theorem dX7_count_120 : decode prog_1_method_33_code 120 = .ok (.getfield 266, 3) := by decide +kernel
theorem dX7_count_123 : decode prog_1_method_33_code 123 = .ok (.ireturn, 1) := by decide +kernel
theorem dX7_count_124 : decode prog_1_method_33_code 124 = .ok (.aload_n 0, 1) := by decide +kernel
theorem dX7_count_125 : decode prog_1_method_33_code 125 = .ok (.getfield 117, 3) := by decide +kernel
theorem dX7_count_128 : decode prog_1_method_33_code 128 = .ok (.ireturn, 1) := by decide +kernel
theorem dX7_count_129 : decode prog_1_method_33_code 129 = .ok (.aload_n 0, 1) := by decide +kernel
theorem dX7_count_130 : decode prog_1_method_33_code 130 = .ok (.getfield 10, 3) := by decide +kernel
theorem dX7_count_133 : decode prog_1_method_33_code 133 = .ok (.getfield 107, 3) := by decide +kernel
theorem dX7_count_136 : decode prog_1_method_33_code 136 = .ok (.ireturn, 1) := by decide +kernel
theorem dX7_count_137 : decode prog_1_method_33_code 137 = .ok (.aload_n 0, 1) := by decide +kernel
theorem dX7_count_138 : decode prog_1_method_33_code 138 = .ok (.getfield 36, 3) := by decide +kernel
theorem dX7_count_141 : decode prog_1_method_33_code 141 = .ok (.getfield 272, 3) := by decide +kernel
theorem dX7_count_144 : decode prog_1_method_33_code 144 = .ok (.ifCond .eq 7, 3) := by decide +kernel
theorem dX7_count_147 : decode prog_1_method_33_code 147 = .ok (.iconst 1, 1) := by decide +kernel
theorem dX7_count_148 : decode prog_1_method_33_code 148 = .ok (.goto 4, 3) := by decide +kernel
theorem dX7_count_151 : decode prog_1_method_33_code 151 = .ok (.iconst 0, 1) := by decide +kernel
theorem dX7_count_152 : decode prog_1_method_33_code 152 = .ok (.ireturn, 1) := by decide +kernel
theorem dX7_count_153 : decode prog_1_method_33_code 153 = .ok (.iconst (-1), 1) := by decide +kernel
theorem dX7_count_154 : decode prog_1_method_33_code 154 = .ok (.ireturn, 1) := by decide +kernel
theorem okM_X7_count : okM mX7_count 1 := ⟨tw684, tw1, by decide, by decide, by decide +kernel⟩
def bX7_count_152 (w : XW) (s0 : Int32) : Option (Int32 × XW) :=
  some (s0, w)
theorem BX7_count_152 {K : CX} {l : Launch} {n0 k0 : Nat} {w : XW} {s0 : Int32} {q : Int32 × XW} (h0 : bX7_count_152 w s0 = some q) : WP K l mX7_count 4 92 n0 k0 (some (.int q.1)) q.2 152 [none, none] [.int s0] w := by
  unfold bX7_count_152 at h0
  cases h0
  exact wp_iret rfl dX7_count_152
def bX7_count_107 (w : XW) (s0 : Int32) : Option (Int32 × XW) :=
  some (s0, w)
theorem BX7_count_107 {K : CX} {l : Launch} {n0 k0 : Nat} {w : XW} {s0 : Int32} {q : Int32 × XW} (h0 : bX7_count_107 w s0 = some q) : WP K l mX7_count 4 92 n0 k0 (some (.int q.1)) q.2 107 [none, none] [.int s0] w := by
  unfold bX7_count_107 at h0
  cases h0
  exact wp_iret rfl dX7_count_107
def eX7_count (w : XW) (l0 : Nat) (l1 : Int32) : Option (Int32 × XW) :=
  if l1.toInt < 0 ∨ 9 < l1.toInt then
  some ((-1 : Int32), w)
  else if l1 = (0 : Int32) then
  (gR w l0 7 2).bind fun x3 =>
  (gI w x3 1 5).bind fun x6 =>
  some (x6, w)
  else if l1 = (1 : Int32) then
  (gR w l0 7 4).bind fun x10 =>
  (gI w x10 5 2).bind fun x13 =>
  some (x13, w)
  else if l1 = (2 : Int32) then
  (gR w l0 7 4).bind fun x17 =>
  (gI w x17 5 4).bind fun x20 =>
  some (x20, w)
  else if l1 = (3 : Int32) then
  (gR w l0 7 4).bind fun x24 =>
  (fX5_allPowers w x24).bind fun q27 =>
  some (q27.1, q27.2)
  else if l1 = (4 : Int32) then
  (gR w l0 7 4).bind fun x31 =>
  (gR w l0 7 2).bind fun x34 =>
  (fX5_isAtRest w x31 x34).bind fun q37 =>
  if q37.1 = 0 then
  bX7_count_107 q37.2 (0 : Int32)
  else
  bX7_count_107 q37.2 (1 : Int32)
  else if l1 = (5 : Int32) then
  (gR w l0 7 7).bind fun x42 =>
  (gI w x42 3 2).bind fun x45 =>
  some (x45, w)
  else if l1 = (6 : Int32) then
  (gR w l0 7 8).bind fun x49 =>
  (gI w x49 2 2).bind fun x52 =>
  some (x52, w)
  else if l1 = (7 : Int32) then
  (gI w l0 7 11).bind fun x56 =>
  some (x56, w)
  else if l1 = (8 : Int32) then
  (gR w l0 7 0).bind fun x60 =>
  (gI w x60 6 1).bind fun x63 =>
  some (x63, w)
  else if l1 = (9 : Int32) then
  (gR w l0 7 4).bind fun x67 =>
  (gI w x67 5 5).bind fun x70 =>
  if x70 = 0 then
  bX7_count_152 w (0 : Int32)
  else
  bX7_count_152 w (1 : Int32)
  else none
theorem EX7_count {K : CX} {l : Launch} {n0 k0 : Nat} {w : XW} {l0 : Nat} {l1 : Int32} {q : Int32 × XW} (h0 : eX7_count w l0 l1 = some q) : WP K l mX7_count 4 92 n0 k0 (some (.int q.1)) q.2 0 [some (.ref l0), some (.int l1)] [] w := by
  unfold eX7_count at h0
  refine wp_iload_n dX7_count_0 rfl ?_
  by_cases c1 : l1.toInt < 0 ∨ 9 < l1.toInt
  · rw [if_pos c1] at h0
    refine wp_tabOut (tgt := 153) dX7_count_1 c1 (by decide) ?_
    refine wp_iconst (v := (-1 : Int32)) dX7_count_153 (by decide) ?_
    cases h0
    exact wp_iret rfl dX7_count_154
  rw [if_neg c1] at h0
  by_cases c2 : l1 = (0 : Int32)
  · rw [if_pos c2] at h0
    refine wp_tabIn (off := 55) (tgt := 56) dX7_count_1 (by rw [c2]; decide) (by rw [c2]; decide) (by rw [c2]; decide) (by decide) ?_
    refine wp_aload_n dX7_count_56 rfl ?_
    obtain ⟨x3, e5, h4⟩ := Option.bind_eq_some_iff.mp h0
    clear h0
    refine wp_getR okX7 (k := 2) (by decide) tw300 dX7_count_57 e5 ?_
    obtain ⟨x6, e8, h7⟩ := Option.bind_eq_some_iff.mp h4
    clear h4
    refine wp_getI okX1 (k := 5) (by decide) tw72 dX7_count_60 e8 ?_
    cases h7
    exact wp_iret rfl dX7_count_63
  rw [if_neg c2] at h0
  by_cases c9 : l1 = (1 : Int32)
  · rw [if_pos c9] at h0
    refine wp_tabIn (off := 63) (tgt := 64) dX7_count_1 (by rw [c9]; decide) (by rw [c9]; decide) (by rw [c9]; decide) (by decide) ?_
    refine wp_aload_n dX7_count_64 rfl ?_
    obtain ⟨x10, e12, h11⟩ := Option.bind_eq_some_iff.mp h0
    clear h0
    refine wp_getR okX7 (k := 4) (by decide) tw302 dX7_count_65 e12 ?_
    obtain ⟨x13, e15, h14⟩ := Option.bind_eq_some_iff.mp h11
    clear h11
    refine wp_getI okX5 (k := 2) (by decide) tw98 dX7_count_68 e15 ?_
    cases h14
    exact wp_iret rfl dX7_count_71
  rw [if_neg c9] at h0
  by_cases c16 : l1 = (2 : Int32)
  · rw [if_pos c16] at h0
    refine wp_tabIn (off := 71) (tgt := 72) dX7_count_1 (by rw [c16]; decide) (by rw [c16]; decide) (by rw [c16]; decide) (by decide) ?_
    refine wp_aload_n dX7_count_72 rfl ?_
    obtain ⟨x17, e19, h18⟩ := Option.bind_eq_some_iff.mp h0
    clear h0
    refine wp_getR okX7 (k := 4) (by decide) tw302 dX7_count_73 e19 ?_
    obtain ⟨x20, e22, h21⟩ := Option.bind_eq_some_iff.mp h18
    clear h18
    refine wp_getI okX5 (k := 4) (by decide) tw104 dX7_count_76 e22 ?_
    cases h21
    exact wp_iret rfl dX7_count_79
  rw [if_neg c16] at h0
  by_cases c23 : l1 = (3 : Int32)
  · rw [if_pos c23] at h0
    refine wp_tabIn (off := 79) (tgt := 80) dX7_count_1 (by rw [c23]; decide) (by rw [c23]; decide) (by rw [c23]; decide) (by decide) ?_
    refine wp_aload_n dX7_count_80 rfl ?_
    obtain ⟨x24, e26, h25⟩ := Option.bind_eq_some_iff.mp h0
    clear h0
    refine wp_getR okX7 (k := 4) (by decide) tw302 dX7_count_81 e26 ?_
    obtain ⟨q27, e29, h28⟩ := Option.bind_eq_some_iff.mp h25
    clear h25
    refine wp_Vi (As := []) (S := []) okM_X5_allPowers tw656 tw657 tw655 (OX5_allPowers e29) rfl rfl rfl ⟨(Nat.le_of_ble_eq_true rfl), (Nat.le_of_ble_eq_true rfl)⟩ (Nat.le_of_ble_eq_true rfl) rfl dX7_count_84 (MX5_allPowers e29) ?_
    cases h28
    exact wp_iret rfl dX7_count_87
  rw [if_neg c23] at h0
  by_cases c30 : l1 = (4 : Int32)
  · rw [if_pos c30] at h0
    refine wp_tabIn (off := 87) (tgt := 88) dX7_count_1 (by rw [c30]; decide) (by rw [c30]; decide) (by rw [c30]; decide) (by decide) ?_
    refine wp_aload_n dX7_count_88 rfl ?_
    obtain ⟨x31, e33, h32⟩ := Option.bind_eq_some_iff.mp h0
    clear h0
    refine wp_getR okX7 (k := 4) (by decide) tw302 dX7_count_89 e33 ?_
    refine wp_aload_n dX7_count_92 rfl ?_
    obtain ⟨x34, e36, h35⟩ := Option.bind_eq_some_iff.mp h32
    clear h32
    refine wp_getR okX7 (k := 2) (by decide) tw300 dX7_count_93 e36 ?_
    obtain ⟨q37, e39, h38⟩ := Option.bind_eq_some_iff.mp h35
    clear h35
    refine wp_Vi (As := [.ref x34]) (S := []) okM_X5_isAtRest tw406 tw407 tw405 (OX5_isAtRest e39) rfl rfl rfl ⟨(Nat.le_of_ble_eq_true rfl), (Nat.le_of_ble_eq_true rfl)⟩ (Nat.le_of_ble_eq_true rfl) rfl dX7_count_96 (MX5_isAtRest e39) ?_
    refine wp_if_eq (tgt := 106) dX7_count_99 (by decide) (fun c40 => ?_) (fun c40 => ?_)
    · rw [if_pos c40] at h38
      refine wp_iconst (v := (0 : Int32)) dX7_count_106 (by decide) ?_
      exact WP.wk (BX7_count_107 h38) trivial
    · rw [if_neg c40] at h38
      refine wp_iconst (v := (1 : Int32)) dX7_count_102 (by decide) ?_
      refine wp_goto (tgt := 107) dX7_count_103 (by decide) ?_
      exact WP.wk (BX7_count_107 h38) trivial
  rw [if_neg c30] at h0
  by_cases c41 : l1 = (5 : Int32)
  · rw [if_pos c41] at h0
    refine wp_tabIn (off := 107) (tgt := 108) dX7_count_1 (by rw [c41]; decide) (by rw [c41]; decide) (by rw [c41]; decide) (by decide) ?_
    refine wp_aload_n dX7_count_108 rfl ?_
    obtain ⟨x42, e44, h43⟩ := Option.bind_eq_some_iff.mp h0
    clear h0
    refine wp_getR okX7 (k := 7) (by decide) tw305 dX7_count_109 e44 ?_
    obtain ⟨x45, e47, h46⟩ := Option.bind_eq_some_iff.mp h43
    clear h43
    refine wp_getI okX3 (k := 2) (by decide) tw136 dX7_count_112 e47 ?_
    cases h46
    exact wp_iret rfl dX7_count_115
  rw [if_neg c41] at h0
  by_cases c48 : l1 = (6 : Int32)
  · rw [if_pos c48] at h0
    refine wp_tabIn (off := 115) (tgt := 116) dX7_count_1 (by rw [c48]; decide) (by rw [c48]; decide) (by rw [c48]; decide) (by decide) ?_
    refine wp_aload_n dX7_count_116 rfl ?_
    obtain ⟨x49, e51, h50⟩ := Option.bind_eq_some_iff.mp h0
    clear h0
    refine wp_getR okX7 (k := 8) (by decide) tw306 dX7_count_117 e51 ?_
    obtain ⟨x52, e54, h53⟩ := Option.bind_eq_some_iff.mp h50
    clear h50
    refine wp_getI okX2 (k := 2) (by decide) tw158 dX7_count_120 e54 ?_
    cases h53
    exact wp_iret rfl dX7_count_123
  rw [if_neg c48] at h0
  by_cases c55 : l1 = (7 : Int32)
  · rw [if_pos c55] at h0
    refine wp_tabIn (off := 123) (tgt := 124) dX7_count_1 (by rw [c55]; decide) (by rw [c55]; decide) (by rw [c55]; decide) (by decide) ?_
    refine wp_aload_n dX7_count_124 rfl ?_
    obtain ⟨x56, e58, h57⟩ := Option.bind_eq_some_iff.mp h0
    clear h0
    refine wp_getI okX7 (k := 11) (by decide) tw309 dX7_count_125 e58 ?_
    cases h57
    exact wp_iret rfl dX7_count_128
  rw [if_neg c55] at h0
  by_cases c59 : l1 = (8 : Int32)
  · rw [if_pos c59] at h0
    refine wp_tabIn (off := 128) (tgt := 129) dX7_count_1 (by rw [c59]; decide) (by rw [c59]; decide) (by rw [c59]; decide) (by decide) ?_
    refine wp_aload_n dX7_count_129 rfl ?_
    obtain ⟨x60, e62, h61⟩ := Option.bind_eq_some_iff.mp h0
    clear h0
    refine wp_getR okX7 (k := 0) (by decide) tw298 dX7_count_130 e62 ?_
    obtain ⟨x63, e65, h64⟩ := Option.bind_eq_some_iff.mp h61
    clear h61
    refine wp_getI okX6 (k := 1) (by decide) tw33 dX7_count_133 e65 ?_
    cases h64
    exact wp_iret rfl dX7_count_136
  rw [if_neg c59] at h0
  by_cases c66 : l1 = (9 : Int32)
  · rw [if_pos c66] at h0
    refine wp_tabIn (off := 136) (tgt := 137) dX7_count_1 (by rw [c66]; decide) (by rw [c66]; decide) (by rw [c66]; decide) (by decide) ?_
    refine wp_aload_n dX7_count_137 rfl ?_
    obtain ⟨x67, e69, h68⟩ := Option.bind_eq_some_iff.mp h0
    clear h0
    refine wp_getR okX7 (k := 4) (by decide) tw302 dX7_count_138 e69 ?_
    obtain ⟨x70, e72, h71⟩ := Option.bind_eq_some_iff.mp h68
    clear h68
    refine wp_getI okX5 (k := 5) (by decide) tw106 dX7_count_141 e72 ?_
    refine wp_if_eq (tgt := 151) dX7_count_144 (by decide) (fun c73 => ?_) (fun c73 => ?_)
    · rw [if_pos c73] at h71
      refine wp_iconst (v := (0 : Int32)) dX7_count_151 (by decide) ?_
      exact WP.wk (BX7_count_152 h71) trivial
    · rw [if_neg c73] at h71
      refine wp_iconst (v := (1 : Int32)) dX7_count_147 (by decide) ?_
      refine wp_goto (tgt := 152) dX7_count_148 (by decide) ?_
      exact WP.wk (BX7_count_152 h71) trivial
  rw [if_neg c66] at h0
  cases h0
def fX7_count (w : XW) (l0 : Nat) (l1 : Int32) : Option (Int32 × XW) := if isO w l0 7 = true then eX7_count w l0 l1 else none
theorem OX7_count {w : XW} {l0 : Nat} {l1 : Int32} {q : Int32 × XW} (h : fX7_count w l0 l1 = some q) : isO w l0 7 = true := Decidable.byContradiction fun z => by unfold fX7_count at h; rw [if_neg z] at h; cases h
theorem MX7_count {K : CX} {l : Launch} {w : XW} {l0 : Nat} {l1 : Int32} {q : Int32 × XW} (h : fX7_count w l0 l1 = some q) : MT K l mX7_count 4 92 [.ref l0, .int l1] w (some (.int q.1)) q.2 := by
  have z := OX7_count h
  unfold fX7_count at h
  rw [if_pos z] at h
  exact MT.of (by decide) (Nat.le_of_ble_eq_true rfl) rfl (EX7_count h)
/-! FractionRunModel.count(I)I: frames 5, words 118 -/
abbrev mX8_count : MR := (⟨"FractionRunModel", "count", "(I)I"⟩, prog_10_method_70_code, 2, (some .int))
theorem dX8_count_0 : decode prog_10_method_70_code 0 = .ok (.iload_n 1, 1) := by decide +kernel
theorem dX8_count_1 : decode prog_10_method_70_code 1 = .ok (.i2l, 1) := by decide +kernel
theorem dX8_count_2 : decode prog_10_method_70_code 2 = .ok (.lconst 0, 1) := by decide +kernel
theorem dX8_count_3 : decode prog_10_method_70_code 3 = .ok (.ldc2_w 180, 3) := by decide +kernel
theorem dX8_count_6 : decode prog_10_method_70_code 6 = .ok (.invokestatic 88, 3) := by decide +kernel
theorem dX8_count_9 : decode prog_10_method_70_code 9 = .ok (.ifCond .ne 5, 3) := by decide +kernel
theorem dX8_count_12 : decode prog_10_method_70_code 12 = .ok (.iconst (-1), 1) := by decide +kernel
theorem dX8_count_13 : decode prog_10_method_70_code 13 = .ok (.ireturn, 1) := by decide +kernel
theorem dX8_count_14 : decode prog_10_method_70_code 14 = .ok (.iload_n 1, 1) := by decide +kernel
theorem dX8_count_15 : decode prog_10_method_70_code 15 = .ok (.ifCond .ne 10, 3) := by decide +kernel
theorem dX8_count_18 : decode prog_10_method_70_code 18 = .ok (.aload_n 0, 1) := by decide +kernel
theorem dX8_count_19 : decode prog_10_method_70_code 19 = .ok (.getfield 72, 3) := by decide +kernel
theorem dX8_count_22 : decode prog_10_method_70_code 22 = .ok (.goto 126, 3) := by decide +kernel
theorem dX8_count_25 : decode prog_10_method_70_code 25 = .ok (.iload_n 1, 1) := by decide +kernel
theorem dX8_count_26 : decode prog_10_method_70_code 26 = .ok (.iconst 1, 1) := by decide +kernel
theorem dX8_count_27 : decode prog_10_method_70_code 27 = .ok (.if_icmp .ne 13, 3) := by decide +kernel
theorem dX8_count_30 : decode prog_10_method_70_code 30 = .ok (.aload_n 0, 1) := by decide +kernel
theorem dX8_count_31 : decode prog_10_method_70_code 31 = .ok (.getfield 25, 3) := by decide +kernel
theorem dX8_count_34 : decode prog_10_method_70_code 34 = .ok (.bipush 14, 2) := by decide +kernel
theorem dX8_count_36 : decode prog_10_method_70_code 36 = .ok (.iaload, 1) := by decide +kernel
theorem dX8_count_37 : decode prog_10_method_70_code 37 = .ok (.goto 111, 3) := by decide +kernel
theorem dX8_count_40 : decode prog_10_method_70_code 40 = .ok (.iload_n 1, 1) := by decide +kernel
theorem dX8_count_41 : decode prog_10_method_70_code 41 = .ok (.iconst 2, 1) := by decide +kernel
theorem dX8_count_42 : decode prog_10_method_70_code 42 = .ok (.if_icmp .ne 13, 3) := by decide +kernel
theorem dX8_count_45 : decode prog_10_method_70_code 45 = .ok (.aload_n 0, 1) := by decide +kernel
theorem dX8_count_46 : decode prog_10_method_70_code 46 = .ok (.getfield 25, 3) := by decide +kernel
theorem dX8_count_49 : decode prog_10_method_70_code 49 = .ok (.bipush 16, 2) := by decide +kernel
theorem dX8_count_51 : decode prog_10_method_70_code 51 = .ok (.iaload, 1) := by decide +kernel
theorem dX8_count_52 : decode prog_10_method_70_code 52 = .ok (.goto 96, 3) := by decide +kernel
theorem dX8_count_55 : decode prog_10_method_70_code 55 = .ok (.iload_n 1, 1) := by decide +kernel
theorem dX8_count_56 : decode prog_10_method_70_code 56 = .ok (.iconst 3, 1) := by decide +kernel
theorem dX8_count_57 : decode prog_10_method_70_code 57 = .ok (.if_icmp .ne 11, 3) := by decide +kernel
theorem dX8_count_60 : decode prog_10_method_70_code 60 = .ok (.aload_n 0, 1) := by decide +kernel
theorem dX8_count_61 : decode prog_10_method_70_code 61 = .ok (.iconst 0, 1) := by decide +kernel
theorem dX8_count_62 : decode prog_10_method_70_code 62 = .ok (.invokevirtual 251, 3) := by decide +kernel
theorem dX8_count_65 : decode prog_10_method_70_code 65 = .ok (.goto 83, 3) := by decide +kernel
theorem dX8_count_68 : decode prog_10_method_70_code 68 = .ok (.iload_n 1, 1) := by decide +kernel
theorem dX8_count_69 : decode prog_10_method_70_code 69 = .ok (.iconst 4, 1) := by decide +kernel
theorem dX8_count_70 : decode prog_10_method_70_code 70 = .ok (.if_icmp .ne 20, 3) := by decide +kernel
theorem dX8_count_73 : decode prog_10_method_70_code 73 = .ok (.aload_n 0, 1) := by decide +kernel
theorem dX8_count_74 : decode prog_10_method_70_code 74 = .ok (.iconst 0, 1) := by decide +kernel
theorem dX8_count_75 : decode prog_10_method_70_code 75 = .ok (.iconst 0, 1) := by decide +kernel
theorem dX8_count_76 : decode prog_10_method_70_code 76 = .ok (.invokevirtual 145, 3) := by decide +kernel
theorem dX8_count_79 : decode prog_10_method_70_code 79 = .ok (.ifCond .ge 7, 3) := by decide +kernel
theorem dX8_count_82 : decode prog_10_method_70_code 82 = .ok (.iconst 1, 1) := by decide +kernel
theorem dX8_count_83 : decode prog_10_method_70_code 83 = .ok (.goto 65, 3) := by decide +kernel
theorem dX8_count_86 : decode prog_10_method_70_code 86 = .ok (.iconst 0, 1) := by decide +kernel
theorem dX8_count_87 : decode prog_10_method_70_code 87 = .ok (.goto 61, 3) := by decide +kernel
theorem dX8_count_90 : decode prog_10_method_70_code 90 = .ok (.iload_n 1, 1) := by decide +kernel
theorem dX8_count_91 : decode prog_10_method_70_code 91 = .ok (.iconst 5, 1) := by decide +kernel
theorem dX8_count_92 : decode prog_10_method_70_code 92 = .ok (.if_icmp .ne 10, 3) := by decide +kernel
theorem dX8_count_95 : decode prog_10_method_70_code 95 = .ok (.aload_n 0, 1) := by decide +kernel
theorem dX8_count_96 : decode prog_10_method_70_code 96 = .ok (.getfield 75, 3) := by decide +kernel
theorem dX8_count_99 : decode prog_10_method_70_code 99 = .ok (.goto 49, 3) := by decide +kernel
theorem dX8_count_102 : decode prog_10_method_70_code 102 = .ok (.iload_n 1, 1) := by decide +kernel
theorem dX8_count_103 : decode prog_10_method_70_code 103 = .ok (.bipush 6, 2) := by decide +kernel
theorem dX8_count_105 : decode prog_10_method_70_code 105 = .ok (.if_icmp .ne 10, 3) := by decide +kernel
theorem dX8_count_108 : decode prog_10_method_70_code 108 = .ok (.aload_n 0, 1) := by decide +kernel
theorem dX8_count_109 : decode prog_10_method_70_code 109 = .ok (.getfield 78, 3) := by decide +kernel
theorem dX8_count_112 : decode prog_10_method_70_code 112 = .ok (.goto 36, 3) := by decide +kernel
theorem dX8_count_115 : decode prog_10_method_70_code 115 = .ok (.iload_n 1, 1) := by decide +kernel
theorem dX8_count_116 : decode prog_10_method_70_code 116 = .ok (.bipush 7, 2) := by decide +kernel
theorem dX8_count_118 : decode prog_10_method_70_code 118 = .ok (.if_icmp .ne 10, 3) := by decide +kernel
theorem dX8_count_121 : decode prog_10_method_70_code 121 = .ok (.aload_n 0, 1) := by decide +kernel
theorem dX8_count_122 : decode prog_10_method_70_code 122 = .ok (.getfield 81, 3) := by decide +kernel
theorem dX8_count_125 : decode prog_10_method_70_code 125 = .ok (.goto 23, 3) := by decide +kernel
theorem dX8_count_128 : decode prog_10_method_70_code 128 = .ok (.iload_n 1, 1) := by decide +kernel
theorem dX8_count_129 : decode prog_10_method_70_code 129 = .ok (.bipush 8, 2) := by decide +kernel
theorem dX8_count_131 : decode prog_10_method_70_code 131 = .ok (.if_icmp .ne 10, 3) := by decide +kernel
theorem dX8_count_134 : decode prog_10_method_70_code 134 = .ok (.aload_n 0, 1) := by decide +kernel
theorem dX8_count_135 : decode prog_10_method_70_code 135 = .ok (.getfield 92, 3) := by decide +kernel
theorem dX8_count_138 : decode prog_10_method_70_code 138 = .ok (.goto 10, 3) := by decide +kernel
theorem dX8_count_141 : decode prog_10_method_70_code 141 = .ok (.aload_n 0, 1) := by decide +kernel
theorem dX8_count_142 : decode prog_10_method_70_code 142 = .ok (.getfield 25, 3) := by decide +kernel
theorem dX8_count_145 : decode prog_10_method_70_code 145 = .ok (.bipush 17, 2) := by decide +kernel
theorem dX8_count_147 : decode prog_10_method_70_code 147 = .ok (.iaload, 1) := by decide +kernel
theorem dX8_count_148 : decode prog_10_method_70_code 148 = .ok (.ireturn, 1) := by decide +kernel
theorem okM_X8_count : okM mX8_count 1 := ⟨tw1055, tw15, by decide, by decide, by decide +kernel⟩
def bX8_count_148 (w : XW) (s0 : Int32) : Option (Int32 × XW) :=
  some (s0, w)
theorem BX8_count_148 {K : CX} {l : Launch} {n0 k0 : Nat} {w : XW} {s0 : Int32} {q : Int32 × XW} (h0 : bX8_count_148 w s0 = some q) : WP K l mX8_count 5 118 n0 k0 (some (.int q.1)) q.2 148 [none, none] [.int s0] w := by
  unfold bX8_count_148 at h0
  cases h0
  exact wp_iret rfl dX8_count_148
def eX8_count (w : XW) (l0 : Nat) (l1 : Int32) : Option (Int32 × XW) :=
  (fX8_in w (l1.toInt64) (0 : Int64) (9 : Int64)).bind fun q1 =>
  if q1.1 = 0 then
  some ((-1 : Int32), q1.2)
  else
  if l1 = 0 then
  (gI q1.2 l0 8 0).bind fun x51 =>
  bX8_count_148 q1.2 x51
  else
  if l1 = (1 : Int32) then
  (gR q1.2 l0 8 7).bind fun x45 =>
  (aI q1.2 0 x45 (14 : Int32)).bind fun x48 =>
  bX8_count_148 q1.2 x48
  else
  if l1 = (2 : Int32) then
  (gR q1.2 l0 8 7).bind fun x39 =>
  (aI q1.2 0 x39 (16 : Int32)).bind fun x42 =>
  bX8_count_148 q1.2 x42
  else
  if l1 = (3 : Int32) then
  (fX8_powersOf q1.2 l0 (0 : Int32)).bind fun q36 =>
  bX8_count_148 q36.2 q36.1
  else
  if l1 = (4 : Int32) then
  (fX8_who q1.2 l0 (0 : Int32) (0 : Int32)).bind fun q32 =>
  if 0 ≤ q32.1 then
  bX8_count_148 q32.2 (0 : Int32)
  else
  bX8_count_148 q32.2 (1 : Int32)
  else
  if l1 = (5 : Int32) then
  (gI q1.2 l0 8 8).bind fun x29 =>
  bX8_count_148 q1.2 x29
  else
  if l1 = (6 : Int32) then
  (gI q1.2 l0 8 9).bind fun x26 =>
  bX8_count_148 q1.2 x26
  else
  if l1 = (7 : Int32) then
  (gI q1.2 l0 8 15).bind fun x23 =>
  bX8_count_148 q1.2 x23
  else
  if l1 = (8 : Int32) then
  (gI q1.2 l0 8 10).bind fun x20 =>
  bX8_count_148 q1.2 x20
  else
  (gR q1.2 l0 8 7).bind fun x14 =>
  (aI q1.2 0 x14 (17 : Int32)).bind fun x17 =>
  bX8_count_148 q1.2 x17
theorem EX8_count {K : CX} {l : Launch} {n0 k0 : Nat} {w : XW} {l0 : Nat} {l1 : Int32} {q : Int32 × XW} (h0 : eX8_count w l0 l1 = some q) : WP K l mX8_count 5 118 n0 k0 (some (.int q.1)) q.2 0 [some (.ref l0), some (.int l1)] [] w := by
  unfold eX8_count at h0
  refine wp_iload_n dX8_count_0 rfl ?_
  refine wp_i2l dX8_count_1 ?_
  refine wp_lconst (v := (0 : Int64)) dX8_count_2 (by decide) ?_
  refine wp_ldc2 tw892 dX8_count_3 ?_
  obtain ⟨q1, e3, h2⟩ := Option.bind_eq_some_iff.mp h0
  clear h0
  refine wp_Si (As := [.long (l1.toInt64), .long (0 : Int64), .long (9 : Int64)]) (S := []) okM_X8_in tw785 tw784 rfl ⟨(Nat.le_of_ble_eq_true rfl), (Nat.le_of_ble_eq_true rfl)⟩ (Nat.le_of_ble_eq_true rfl) rfl dX8_count_6 (MX8_in e3) ?_
  refine wp_if_ne (tgt := 14) dX8_count_9 (by decide) (fun c4 => ?_) (fun c4 => ?_)
  · rw [if_neg c4] at h2
    refine wp_iload_n dX8_count_14 rfl ?_
    refine wp_if_ne (tgt := 25) dX8_count_15 (by decide) (fun c5 => ?_) (fun c5 => ?_)
    · rw [if_neg c5] at h2
      refine wp_iload_n dX8_count_25 rfl ?_
      refine wp_iconst (v := (1 : Int32)) dX8_count_26 (by decide) ?_
      refine wp_icmp_ne (tgt := 40) dX8_count_27 (by decide) (fun c6 => ?_) (fun c6 => ?_)
      · rw [if_neg c6] at h2
        refine wp_iload_n dX8_count_40 rfl ?_
        refine wp_iconst (v := (2 : Int32)) dX8_count_41 (by decide) ?_
        refine wp_icmp_ne (tgt := 55) dX8_count_42 (by decide) (fun c7 => ?_) (fun c7 => ?_)
        · rw [if_neg c7] at h2
          refine wp_iload_n dX8_count_55 rfl ?_
          refine wp_iconst (v := (3 : Int32)) dX8_count_56 (by decide) ?_
          refine wp_icmp_ne (tgt := 68) dX8_count_57 (by decide) (fun c8 => ?_) (fun c8 => ?_)
          · rw [if_neg c8] at h2
            refine wp_iload_n dX8_count_68 rfl ?_
            refine wp_iconst (v := (4 : Int32)) dX8_count_69 (by decide) ?_
            refine wp_icmp_ne (tgt := 90) dX8_count_70 (by decide) (fun c9 => ?_) (fun c9 => ?_)
            · rw [if_neg c9] at h2
              refine wp_iload_n dX8_count_90 rfl ?_
              refine wp_iconst (v := (5 : Int32)) dX8_count_91 (by decide) ?_
              refine wp_icmp_ne (tgt := 102) dX8_count_92 (by decide) (fun c10 => ?_) (fun c10 => ?_)
              · rw [if_neg c10] at h2
                refine wp_iload_n dX8_count_102 rfl ?_
                refine wp_bipush (v := (6 : Int32)) dX8_count_103 (by decide) ?_
                refine wp_icmp_ne (tgt := 115) dX8_count_105 (by decide) (fun c11 => ?_) (fun c11 => ?_)
                · rw [if_neg c11] at h2
                  refine wp_iload_n dX8_count_115 rfl ?_
                  refine wp_bipush (v := (7 : Int32)) dX8_count_116 (by decide) ?_
                  refine wp_icmp_ne (tgt := 128) dX8_count_118 (by decide) (fun c12 => ?_) (fun c12 => ?_)
                  · rw [if_neg c12] at h2
                    refine wp_iload_n dX8_count_128 rfl ?_
                    refine wp_bipush (v := (8 : Int32)) dX8_count_129 (by decide) ?_
                    refine wp_icmp_ne (tgt := 141) dX8_count_131 (by decide) (fun c13 => ?_) (fun c13 => ?_)
                    · rw [if_neg c13] at h2
                      refine wp_aload_n dX8_count_141 rfl ?_
                      obtain ⟨x14, e16, h15⟩ := Option.bind_eq_some_iff.mp h2
                      clear h2
                      refine wp_getR okX8 (k := 7) (by decide) tw712 dX8_count_142 e16 ?_
                      refine wp_bipush (v := (17 : Int32)) dX8_count_145 (by decide) ?_
                      obtain ⟨x17, e19, h18⟩ := Option.bind_eq_some_iff.mp h15
                      clear h15
                      refine wp_iald dX8_count_147 e19 ?_
                      exact WP.wk (BX8_count_148 h18) trivial
                    · rw [if_pos c13] at h2
                      refine wp_aload_n dX8_count_134 rfl ?_
                      obtain ⟨x20, e22, h21⟩ := Option.bind_eq_some_iff.mp h2
                      clear h2
                      refine wp_getI okX8 (k := 10) (by decide) tw715 dX8_count_135 e22 ?_
                      refine wp_goto (tgt := 148) dX8_count_138 (by decide) ?_
                      exact WP.wk (BX8_count_148 h21) trivial
                  · rw [if_pos c12] at h2
                    refine wp_aload_n dX8_count_121 rfl ?_
                    obtain ⟨x23, e25, h24⟩ := Option.bind_eq_some_iff.mp h2
                    clear h2
                    refine wp_getI okX8 (k := 15) (by decide) tw720 dX8_count_122 e25 ?_
                    refine wp_goto (tgt := 148) dX8_count_125 (by decide) ?_
                    exact WP.wk (BX8_count_148 h24) trivial
                · rw [if_pos c11] at h2
                  refine wp_aload_n dX8_count_108 rfl ?_
                  obtain ⟨x26, e28, h27⟩ := Option.bind_eq_some_iff.mp h2
                  clear h2
                  refine wp_getI okX8 (k := 9) (by decide) tw714 dX8_count_109 e28 ?_
                  refine wp_goto (tgt := 148) dX8_count_112 (by decide) ?_
                  exact WP.wk (BX8_count_148 h27) trivial
              · rw [if_pos c10] at h2
                refine wp_aload_n dX8_count_95 rfl ?_
                obtain ⟨x29, e31, h30⟩ := Option.bind_eq_some_iff.mp h2
                clear h2
                refine wp_getI okX8 (k := 8) (by decide) tw713 dX8_count_96 e31 ?_
                refine wp_goto (tgt := 148) dX8_count_99 (by decide) ?_
                exact WP.wk (BX8_count_148 h30) trivial
            · rw [if_pos c9] at h2
              refine wp_aload_n dX8_count_73 rfl ?_
              refine wp_iconst (v := (0 : Int32)) dX8_count_74 (by decide) ?_
              refine wp_iconst (v := (0 : Int32)) dX8_count_75 (by decide) ?_
              obtain ⟨q32, e34, h33⟩ := Option.bind_eq_some_iff.mp h2
              clear h2
              refine wp_Vi (As := [.int (0 : Int32), .int (0 : Int32)]) (S := []) okM_X8_who tw869 twP_X8_who tw867 (OX8_who e34) rfl rfl rfl ⟨(Nat.le_of_ble_eq_true rfl), (Nat.le_of_ble_eq_true rfl)⟩ (Nat.le_of_ble_eq_true rfl) rfl dX8_count_76 (MX8_who e34) ?_
              refine wp_if_ge (tgt := 86) dX8_count_79 (by decide) (fun c35 => ?_) (fun c35 => ?_)
              · rw [if_pos c35] at h33
                refine wp_iconst (v := (0 : Int32)) dX8_count_86 (by decide) ?_
                refine wp_goto (tgt := 148) dX8_count_87 (by decide) ?_
                exact WP.wk (BX8_count_148 h33) trivial
              · rw [if_neg c35] at h33
                refine wp_iconst (v := (1 : Int32)) dX8_count_82 (by decide) ?_
                refine wp_goto (tgt := 148) dX8_count_83 (by decide) ?_
                exact WP.wk (BX8_count_148 h33) trivial
          · rw [if_pos c8] at h2
            refine wp_aload_n dX8_count_60 rfl ?_
            refine wp_iconst (v := (0 : Int32)) dX8_count_61 (by decide) ?_
            obtain ⟨q36, e38, h37⟩ := Option.bind_eq_some_iff.mp h2
            clear h2
            refine wp_Vi (As := [.int (0 : Int32)]) (S := []) okM_X8_powersOf tw1042 twP_X8_powersOf tw1040 (OX8_powersOf e38) rfl rfl rfl ⟨(Nat.le_of_ble_eq_true rfl), (Nat.le_of_ble_eq_true rfl)⟩ (Nat.le_of_ble_eq_true rfl) rfl dX8_count_62 (MX8_powersOf e38) ?_
            refine wp_goto (tgt := 148) dX8_count_65 (by decide) ?_
            exact WP.wk (BX8_count_148 h37) trivial
        · rw [if_pos c7] at h2
          refine wp_aload_n dX8_count_45 rfl ?_
          obtain ⟨x39, e41, h40⟩ := Option.bind_eq_some_iff.mp h2
          clear h2
          refine wp_getR okX8 (k := 7) (by decide) tw712 dX8_count_46 e41 ?_
          refine wp_bipush (v := (16 : Int32)) dX8_count_49 (by decide) ?_
          obtain ⟨x42, e44, h43⟩ := Option.bind_eq_some_iff.mp h40
          clear h40
          refine wp_iald dX8_count_51 e44 ?_
          refine wp_goto (tgt := 148) dX8_count_52 (by decide) ?_
          exact WP.wk (BX8_count_148 h43) trivial
      · rw [if_pos c6] at h2
        refine wp_aload_n dX8_count_30 rfl ?_
        obtain ⟨x45, e47, h46⟩ := Option.bind_eq_some_iff.mp h2
        clear h2
        refine wp_getR okX8 (k := 7) (by decide) tw712 dX8_count_31 e47 ?_
        refine wp_bipush (v := (14 : Int32)) dX8_count_34 (by decide) ?_
        obtain ⟨x48, e50, h49⟩ := Option.bind_eq_some_iff.mp h46
        clear h46
        refine wp_iald dX8_count_36 e50 ?_
        refine wp_goto (tgt := 148) dX8_count_37 (by decide) ?_
        exact WP.wk (BX8_count_148 h49) trivial
    · rw [if_pos c5] at h2
      refine wp_aload_n dX8_count_18 rfl ?_
      obtain ⟨x51, e53, h52⟩ := Option.bind_eq_some_iff.mp h2
      clear h2
      refine wp_getI okX8 (k := 0) (by decide) tw705 dX8_count_19 e53 ?_
      refine wp_goto (tgt := 148) dX8_count_22 (by decide) ?_
      exact WP.wk (BX8_count_148 h52) trivial
  · rw [if_pos c4] at h2
    refine wp_iconst (v := (-1 : Int32)) dX8_count_12 (by decide) ?_
    cases h2
    exact wp_iret rfl dX8_count_13
def fX8_count (w : XW) (l0 : Nat) (l1 : Int32) : Option (Int32 × XW) := if isO w l0 8 = true then eX8_count w l0 l1 else none
theorem OX8_count {w : XW} {l0 : Nat} {l1 : Int32} {q : Int32 × XW} (h : fX8_count w l0 l1 = some q) : isO w l0 8 = true := Decidable.byContradiction fun z => by unfold fX8_count at h; rw [if_neg z] at h; cases h
theorem MX8_count {K : CX} {l : Launch} {w : XW} {l0 : Nat} {l1 : Int32} {q : Int32 × XW} (h : fX8_count w l0 l1 = some q) : MT K l mX8_count 5 118 [.ref l0, .int l1] w (some (.int q.1)) q.2 := by
  have z := OX8_count h
  unfold fX8_count at h
  rw [if_pos z] at h
  exact MT.of (by decide) (Nat.le_of_ble_eq_true rfl) rfl (EX8_count h)
/-! FractionRunLaw.law([I)Z: frames 14, words 341 -/
abbrev mL_law : MR := (x, code, 4, ret)
theorem dL_law_0 : decode code 0 = .ok (.new 7, 3) := by decide +kernel
theorem dL_law_3 : decode code 3 = .ok (.dup, 1) := by decide +kernel
theorem dL_law_4 : decode code 4 = .ok (.invokespecial 9, 3) := by decide +kernel
theorem dL_law_7 : decode code 7 = .ok (.astore_n 1, 1) := by decide +kernel
theorem dL_law_8 : decode code 8 = .ok (.new 10, 3) := by decide +kernel
theorem dL_law_11 : decode code 11 = .ok (.dup, 1) := by decide +kernel
theorem dL_law_12 : decode code 12 = .ok (.invokespecial 12, 3) := by decide +kernel
theorem dL_law_15 : decode code 15 = .ok (.astore_n 2, 1) := by decide +kernel
theorem dL_law_16 : decode code 16 = .ok (.iconst 0, 1) := by decide +kernel
theorem dL_law_17 : decode code 17 = .ok (.istore_n 3, 1) := by decide +kernel
theorem dL_law_18 : decode code 18 = .ok (.iload_n 3, 1) := by decide +kernel
theorem dL_law_19 : decode code 19 = .ok (.aload_n 0, 1) := by decide +kernel
theorem dL_law_20 : decode code 20 = .ok (.arraylength, 1) := by decide +kernel
theorem dL_law_21 : decode code 21 = .ok (.iconst 4, 1) := by decide +kernel
theorem dL_law_22 : decode code 22 = .ok (.isub, 1) := by decide +kernel
theorem dL_law_23 : decode code 23 = .ok (.if_icmp .gt 925, 3) := by decide +kernel
theorem dL_law_26 : decode code 26 = .ok (.aload_n 0, 1) := by decide +kernel
theorem dL_law_27 : decode code 27 = .ok (.iload_n 3, 1) := by decide +kernel
theorem dL_law_28 : decode code 28 = .ok (.iaload, 1) := by decide +kernel
theorem dL_law_29 : decode code 29 = .ok (.bipush 31, 2) := by decide +kernel
theorem dL_law_31 : decode code 31 = .ok (.iand, 1) := by decide +kernel
theorem dL_law_32 : decode code 32 = .ok (.tableswitch 910 0 31 #[144, 167, 180, 193, 206, 239, 262, 285, 318, 351, 374, 387, 420, 443, 456, 479, 502, 525, 538, 561, 594, 637, 650, 683, 696, 719, 752, 775, 818, 861, 874, 887], 144) := by decide +kernel
theorem dL_law_176 : decode code 176 = .ok (.aload_n 1, 1) := by decide +kernel
theorem dL_law_177 : decode code 177 = .ok (.aload_n 0, 1) := by decide +kernel
theorem dL_law_178 : decode code 178 = .ok (.iload_n 3, 1) := by decide +kernel
theorem dL_law_179 : decode code 179 = .ok (.iconst 1, 1) := by decide +kernel
theorem dL_law_180 : decode code 180 = .ok (.iadd, 1) := by decide +kernel
theorem dL_law_181 : decode code 181 = .ok (.iaload, 1) := by decide +kernel
theorem dL_law_182 : decode code 182 = .ok (.invokevirtual 13, 3) := by decide +kernel
theorem dL_law_185 : decode code 185 = .ok (.aload_n 2, 1) := by decide +kernel
theorem dL_law_186 : decode code 186 = .ok (.aload_n 0, 1) := by decide +kernel
theorem dL_law_187 : decode code 187 = .ok (.iload_n 3, 1) := by decide +kernel
theorem dL_law_188 : decode code 188 = .ok (.iconst 1, 1) := by decide +kernel
theorem dL_law_189 : decode code 189 = .ok (.iadd, 1) := by decide +kernel
theorem dL_law_190 : decode code 190 = .ok (.iaload, 1) := by decide +kernel
theorem dL_law_191 : decode code 191 = .ok (.invokevirtual 17, 3) := by decide +kernel
theorem dL_law_194 : decode code 194 = .ok (.if_icmp .eq 748, 3) := by decide +kernel
theorem dL_law_197 : decode code 197 = .ok (.iconst 0, 1) := by decide +kernel
theorem dL_law_198 : decode code 198 = .ok (.ireturn, 1) := by decide +kernel
theorem dL_law_199 : decode code 199 = .ok (.aload_n 1, 1) := by decide +kernel
theorem dL_law_200 : decode code 200 = .ok (.invokevirtual 18, 3) := by decide +kernel
theorem dL_law_203 : decode code 203 = .ok (.aload_n 2, 1) := by decide +kernel
theorem dL_law_204 : decode code 204 = .ok (.invokevirtual 22, 3) := by decide +kernel
theorem dL_law_207 : decode code 207 = .ok (.if_icmp .eq 735, 3) := by decide +kernel
theorem dL_law_210 : decode code 210 = .ok (.iconst 0, 1) := by decide +kernel
theorem dL_law_211 : decode code 211 = .ok (.ireturn, 1) := by decide +kernel
theorem dL_law_212 : decode code 212 = .ok (.aload_n 1, 1) := by decide +kernel
theorem dL_law_213 : decode code 213 = .ok (.invokevirtual 23, 3) := by decide +kernel
theorem dL_law_216 : decode code 216 = .ok (.aload_n 2, 1) := by decide +kernel
theorem dL_law_217 : decode code 217 = .ok (.invokevirtual 26, 3) := by decide +kernel
theorem dL_law_220 : decode code 220 = .ok (.if_icmp .eq 722, 3) := by decide +kernel
theorem dL_law_223 : decode code 223 = .ok (.iconst 0, 1) := by decide +kernel
theorem dL_law_224 : decode code 224 = .ok (.ireturn, 1) := by decide +kernel
theorem dL_law_225 : decode code 225 = .ok (.aload_n 1, 1) := by decide +kernel
theorem dL_law_226 : decode code 226 = .ok (.invokevirtual 27, 3) := by decide +kernel
theorem dL_law_229 : decode code 229 = .ok (.aload_n 2, 1) := by decide +kernel
theorem dL_law_230 : decode code 230 = .ok (.invokevirtual 30, 3) := by decide +kernel
theorem dL_law_233 : decode code 233 = .ok (.if_icmp .eq 709, 3) := by decide +kernel
theorem dL_law_236 : decode code 236 = .ok (.iconst 0, 1) := by decide +kernel
theorem dL_law_237 : decode code 237 = .ok (.ireturn, 1) := by decide +kernel
theorem dL_law_238 : decode code 238 = .ok (.aload_n 1, 1) := by decide +kernel
theorem dL_law_239 : decode code 239 = .ok (.aload_n 0, 1) := by decide +kernel
theorem dL_law_240 : decode code 240 = .ok (.iload_n 3, 1) := by decide +kernel
theorem dL_law_241 : decode code 241 = .ok (.iconst 1, 1) := by decide +kernel
theorem dL_law_242 : decode code 242 = .ok (.iadd, 1) := by decide +kernel
theorem dL_law_243 : decode code 243 = .ok (.iaload, 1) := by decide +kernel
theorem dL_law_244 : decode code 244 = .ok (.aload_n 0, 1) := by decide +kernel
theorem dL_law_245 : decode code 245 = .ok (.iload_n 3, 1) := by decide +kernel
theorem dL_law_246 : decode code 246 = .ok (.iconst 2, 1) := by decide +kernel
theorem dL_law_247 : decode code 247 = .ok (.iadd, 1) := by decide +kernel
theorem dL_law_248 : decode code 248 = .ok (.iaload, 1) := by decide +kernel
theorem dL_law_249 : decode code 249 = .ok (.invokevirtual 31, 3) := by decide +kernel
theorem dL_law_252 : decode code 252 = .ok (.aload_n 2, 1) := by decide +kernel
theorem dL_law_253 : decode code 253 = .ok (.aload_n 0, 1) := by decide +kernel
theorem dL_law_254 : decode code 254 = .ok (.iload_n 3, 1) := by decide +kernel
theorem dL_law_255 : decode code 255 = .ok (.iconst 1, 1) := by decide +kernel
theorem dL_law_256 : decode code 256 = .ok (.iadd, 1) := by decide +kernel
theorem dL_law_257 : decode code 257 = .ok (.iaload, 1) := by decide +kernel
theorem dL_law_258 : decode code 258 = .ok (.aload_n 0, 1) := by decide +kernel
theorem dL_law_259 : decode code 259 = .ok (.iload_n 3, 1) := by decide +kernel
theorem dL_law_260 : decode code 260 = .ok (.iconst 2, 1) := by decide +kernel
theorem dL_law_261 : decode code 261 = .ok (.iadd, 1) := by decide +kernel
theorem dL_law_262 : decode code 262 = .ok (.iaload, 1) := by decide +kernel
theorem dL_law_263 : decode code 263 = .ok (.invokevirtual 35, 3) := by decide +kernel
theorem dL_law_266 : decode code 266 = .ok (.if_icmp .eq 676, 3) := by decide +kernel
theorem dL_law_269 : decode code 269 = .ok (.iconst 0, 1) := by decide +kernel
theorem dL_law_270 : decode code 270 = .ok (.ireturn, 1) := by decide +kernel
theorem dL_law_271 : decode code 271 = .ok (.aload_n 1, 1) := by decide +kernel
theorem dL_law_272 : decode code 272 = .ok (.aload_n 0, 1) := by decide +kernel
theorem dL_law_273 : decode code 273 = .ok (.iload_n 3, 1) := by decide +kernel
theorem dL_law_274 : decode code 274 = .ok (.iconst 1, 1) := by decide +kernel
theorem dL_law_275 : decode code 275 = .ok (.iadd, 1) := by decide +kernel
theorem dL_law_276 : decode code 276 = .ok (.iaload, 1) := by decide +kernel
theorem dL_law_277 : decode code 277 = .ok (.invokevirtual 36, 3) := by decide +kernel
theorem dL_law_280 : decode code 280 = .ok (.aload_n 2, 1) := by decide +kernel
theorem dL_law_281 : decode code 281 = .ok (.aload_n 0, 1) := by decide +kernel
theorem dL_law_282 : decode code 282 = .ok (.iload_n 3, 1) := by decide +kernel
theorem dL_law_283 : decode code 283 = .ok (.iconst 1, 1) := by decide +kernel
theorem dL_law_284 : decode code 284 = .ok (.iadd, 1) := by decide +kernel
theorem dL_law_285 : decode code 285 = .ok (.iaload, 1) := by decide +kernel
theorem dL_law_286 : decode code 286 = .ok (.invokevirtual 39, 3) := by decide +kernel
theorem dL_law_289 : decode code 289 = .ok (.if_icmp .eq 653, 3) := by decide +kernel
theorem dL_law_292 : decode code 292 = .ok (.iconst 0, 1) := by decide +kernel
theorem dL_law_293 : decode code 293 = .ok (.ireturn, 1) := by decide +kernel
theorem dL_law_294 : decode code 294 = .ok (.aload_n 1, 1) := by decide +kernel
theorem dL_law_295 : decode code 295 = .ok (.aload_n 0, 1) := by decide +kernel
theorem dL_law_296 : decode code 296 = .ok (.iload_n 3, 1) := by decide +kernel
theorem dL_law_297 : decode code 297 = .ok (.iconst 1, 1) := by decide +kernel
theorem dL_law_298 : decode code 298 = .ok (.iadd, 1) := by decide +kernel
theorem dL_law_299 : decode code 299 = .ok (.iaload, 1) := by decide +kernel
theorem dL_law_300 : decode code 300 = .ok (.invokevirtual 40, 3) := by decide +kernel
theorem dL_law_303 : decode code 303 = .ok (.aload_n 2, 1) := by decide +kernel
theorem dL_law_304 : decode code 304 = .ok (.aload_n 0, 1) := by decide +kernel
theorem dL_law_305 : decode code 305 = .ok (.iload_n 3, 1) := by decide +kernel
theorem dL_law_306 : decode code 306 = .ok (.iconst 1, 1) := by decide +kernel
theorem dL_law_307 : decode code 307 = .ok (.iadd, 1) := by decide +kernel
theorem dL_law_308 : decode code 308 = .ok (.iaload, 1) := by decide +kernel
theorem dL_law_309 : decode code 309 = .ok (.invokevirtual 43, 3) := by decide +kernel
theorem dL_law_312 : decode code 312 = .ok (.if_icmp .eq 630, 3) := by decide +kernel
theorem dL_law_315 : decode code 315 = .ok (.iconst 0, 1) := by decide +kernel
theorem dL_law_316 : decode code 316 = .ok (.ireturn, 1) := by decide +kernel
theorem dL_law_317 : decode code 317 = .ok (.aload_n 1, 1) := by decide +kernel
theorem dL_law_318 : decode code 318 = .ok (.aload_n 0, 1) := by decide +kernel
theorem dL_law_319 : decode code 319 = .ok (.iload_n 3, 1) := by decide +kernel
theorem dL_law_320 : decode code 320 = .ok (.iconst 1, 1) := by decide +kernel
theorem dL_law_321 : decode code 321 = .ok (.iadd, 1) := by decide +kernel
theorem dL_law_322 : decode code 322 = .ok (.iaload, 1) := by decide +kernel
theorem dL_law_323 : decode code 323 = .ok (.aload_n 0, 1) := by decide +kernel
theorem dL_law_324 : decode code 324 = .ok (.iload_n 3, 1) := by decide +kernel
theorem dL_law_325 : decode code 325 = .ok (.iconst 2, 1) := by decide +kernel
theorem dL_law_326 : decode code 326 = .ok (.iadd, 1) := by decide +kernel
theorem dL_law_327 : decode code 327 = .ok (.iaload, 1) := by decide +kernel
theorem dL_law_328 : decode code 328 = .ok (.invokevirtual 44, 3) := by decide +kernel
theorem dL_law_331 : decode code 331 = .ok (.aload_n 2, 1) := by decide +kernel
theorem dL_law_332 : decode code 332 = .ok (.aload_n 0, 1) := by decide +kernel
theorem dL_law_333 : decode code 333 = .ok (.iload_n 3, 1) := by decide +kernel
theorem dL_law_334 : decode code 334 = .ok (.iconst 1, 1) := by decide +kernel
theorem dL_law_335 : decode code 335 = .ok (.iadd, 1) := by decide +kernel
theorem dL_law_336 : decode code 336 = .ok (.iaload, 1) := by decide +kernel
theorem dL_law_337 : decode code 337 = .ok (.aload_n 0, 1) := by decide +kernel
theorem dL_law_338 : decode code 338 = .ok (.iload_n 3, 1) := by decide +kernel
theorem dL_law_339 : decode code 339 = .ok (.iconst 2, 1) := by decide +kernel
theorem dL_law_340 : decode code 340 = .ok (.iadd, 1) := by decide +kernel
theorem dL_law_341 : decode code 341 = .ok (.iaload, 1) := by decide +kernel
theorem dL_law_342 : decode code 342 = .ok (.invokevirtual 47, 3) := by decide +kernel
theorem dL_law_345 : decode code 345 = .ok (.if_icmp .eq 597, 3) := by decide +kernel
theorem dL_law_348 : decode code 348 = .ok (.iconst 0, 1) := by decide +kernel
theorem dL_law_349 : decode code 349 = .ok (.ireturn, 1) := by decide +kernel
theorem dL_law_350 : decode code 350 = .ok (.aload_n 1, 1) := by decide +kernel
theorem dL_law_351 : decode code 351 = .ok (.aload_n 0, 1) := by decide +kernel
theorem dL_law_352 : decode code 352 = .ok (.iload_n 3, 1) := by decide +kernel
theorem dL_law_353 : decode code 353 = .ok (.iconst 1, 1) := by decide +kernel
theorem dL_law_354 : decode code 354 = .ok (.iadd, 1) := by decide +kernel
theorem dL_law_355 : decode code 355 = .ok (.iaload, 1) := by decide +kernel
theorem dL_law_356 : decode code 356 = .ok (.aload_n 0, 1) := by decide +kernel
theorem dL_law_357 : decode code 357 = .ok (.iload_n 3, 1) := by decide +kernel
theorem dL_law_358 : decode code 358 = .ok (.iconst 2, 1) := by decide +kernel
theorem dL_law_359 : decode code 359 = .ok (.iadd, 1) := by decide +kernel
theorem dL_law_360 : decode code 360 = .ok (.iaload, 1) := by decide +kernel
theorem dL_law_361 : decode code 361 = .ok (.invokevirtual 48, 3) := by decide +kernel
theorem dL_law_364 : decode code 364 = .ok (.aload_n 2, 1) := by decide +kernel
theorem dL_law_365 : decode code 365 = .ok (.aload_n 0, 1) := by decide +kernel
theorem dL_law_366 : decode code 366 = .ok (.iload_n 3, 1) := by decide +kernel
theorem dL_law_367 : decode code 367 = .ok (.iconst 1, 1) := by decide +kernel
theorem dL_law_368 : decode code 368 = .ok (.iadd, 1) := by decide +kernel
theorem dL_law_369 : decode code 369 = .ok (.iaload, 1) := by decide +kernel
theorem dL_law_370 : decode code 370 = .ok (.aload_n 0, 1) := by decide +kernel
theorem dL_law_371 : decode code 371 = .ok (.iload_n 3, 1) := by decide +kernel
theorem dL_law_372 : decode code 372 = .ok (.iconst 2, 1) := by decide +kernel
theorem dL_law_373 : decode code 373 = .ok (.iadd, 1) := by decide +kernel
theorem dL_law_374 : decode code 374 = .ok (.iaload, 1) := by decide +kernel
theorem dL_law_375 : decode code 375 = .ok (.invokevirtual 51, 3) := by decide +kernel
theorem dL_law_378 : decode code 378 = .ok (.if_icmp .eq 564, 3) := by decide +kernel
theorem dL_law_381 : decode code 381 = .ok (.iconst 0, 1) := by decide +kernel
theorem dL_law_382 : decode code 382 = .ok (.ireturn, 1) := by decide +kernel
theorem dL_law_383 : decode code 383 = .ok (.aload_n 1, 1) := by decide +kernel
theorem dL_law_384 : decode code 384 = .ok (.aload_n 0, 1) := by decide +kernel
theorem dL_law_385 : decode code 385 = .ok (.iload_n 3, 1) := by decide +kernel
theorem dL_law_386 : decode code 386 = .ok (.iconst 1, 1) := by decide +kernel
theorem dL_law_387 : decode code 387 = .ok (.iadd, 1) := by decide +kernel
theorem dL_law_388 : decode code 388 = .ok (.iaload, 1) := by decide +kernel
theorem dL_law_389 : decode code 389 = .ok (.invokevirtual 52, 3) := by decide +kernel
theorem dL_law_392 : decode code 392 = .ok (.aload_n 2, 1) := by decide +kernel
theorem dL_law_393 : decode code 393 = .ok (.aload_n 0, 1) := by decide +kernel
theorem dL_law_394 : decode code 394 = .ok (.iload_n 3, 1) := by decide +kernel
theorem dL_law_395 : decode code 395 = .ok (.iconst 1, 1) := by decide +kernel
theorem dL_law_396 : decode code 396 = .ok (.iadd, 1) := by decide +kernel
theorem dL_law_397 : decode code 397 = .ok (.iaload, 1) := by decide +kernel
theorem dL_law_398 : decode code 398 = .ok (.invokevirtual 55, 3) := by decide +kernel
theorem dL_law_401 : decode code 401 = .ok (.if_icmp .eq 541, 3) := by decide +kernel
theorem dL_law_404 : decode code 404 = .ok (.iconst 0, 1) := by decide +kernel
theorem dL_law_405 : decode code 405 = .ok (.ireturn, 1) := by decide +kernel
theorem dL_law_406 : decode code 406 = .ok (.aload_n 1, 1) := by decide +kernel
theorem dL_law_407 : decode code 407 = .ok (.invokevirtual 56, 3) := by decide +kernel
theorem dL_law_410 : decode code 410 = .ok (.aload_n 2, 1) := by decide +kernel
theorem dL_law_411 : decode code 411 = .ok (.invokevirtual 59, 3) := by decide +kernel
theorem dL_law_414 : decode code 414 = .ok (.if_icmp .eq 528, 3) := by decide +kernel
theorem dL_law_417 : decode code 417 = .ok (.iconst 0, 1) := by decide +kernel
theorem dL_law_418 : decode code 418 = .ok (.ireturn, 1) := by decide +kernel
theorem dL_law_419 : decode code 419 = .ok (.aload_n 1, 1) := by decide +kernel
theorem dL_law_420 : decode code 420 = .ok (.aload_n 0, 1) := by decide +kernel
theorem dL_law_421 : decode code 421 = .ok (.iload_n 3, 1) := by decide +kernel
theorem dL_law_422 : decode code 422 = .ok (.iconst 1, 1) := by decide +kernel
theorem dL_law_423 : decode code 423 = .ok (.iadd, 1) := by decide +kernel
theorem dL_law_424 : decode code 424 = .ok (.iaload, 1) := by decide +kernel
theorem dL_law_425 : decode code 425 = .ok (.aload_n 0, 1) := by decide +kernel
theorem dL_law_426 : decode code 426 = .ok (.iload_n 3, 1) := by decide +kernel
theorem dL_law_427 : decode code 427 = .ok (.iconst 2, 1) := by decide +kernel
theorem dL_law_428 : decode code 428 = .ok (.iadd, 1) := by decide +kernel
theorem dL_law_429 : decode code 429 = .ok (.iaload, 1) := by decide +kernel
theorem dL_law_430 : decode code 430 = .ok (.invokevirtual 60, 3) := by decide +kernel
theorem dL_law_433 : decode code 433 = .ok (.aload_n 2, 1) := by decide +kernel
theorem dL_law_434 : decode code 434 = .ok (.aload_n 0, 1) := by decide +kernel
theorem dL_law_435 : decode code 435 = .ok (.iload_n 3, 1) := by decide +kernel
theorem dL_law_436 : decode code 436 = .ok (.iconst 1, 1) := by decide +kernel
theorem dL_law_437 : decode code 437 = .ok (.iadd, 1) := by decide +kernel
theorem dL_law_438 : decode code 438 = .ok (.iaload, 1) := by decide +kernel
theorem dL_law_439 : decode code 439 = .ok (.aload_n 0, 1) := by decide +kernel
theorem dL_law_440 : decode code 440 = .ok (.iload_n 3, 1) := by decide +kernel
theorem dL_law_441 : decode code 441 = .ok (.iconst 2, 1) := by decide +kernel
theorem dL_law_442 : decode code 442 = .ok (.iadd, 1) := by decide +kernel
theorem dL_law_443 : decode code 443 = .ok (.iaload, 1) := by decide +kernel
theorem dL_law_444 : decode code 444 = .ok (.invokevirtual 63, 3) := by decide +kernel
theorem dL_law_447 : decode code 447 = .ok (.if_icmp .eq 495, 3) := by decide +kernel
theorem dL_law_450 : decode code 450 = .ok (.iconst 0, 1) := by decide +kernel
theorem dL_law_451 : decode code 451 = .ok (.ireturn, 1) := by decide +kernel
theorem dL_law_452 : decode code 452 = .ok (.aload_n 1, 1) := by decide +kernel
theorem dL_law_453 : decode code 453 = .ok (.aload_n 0, 1) := by decide +kernel
theorem dL_law_454 : decode code 454 = .ok (.iload_n 3, 1) := by decide +kernel
theorem dL_law_455 : decode code 455 = .ok (.iconst 1, 1) := by decide +kernel
theorem dL_law_456 : decode code 456 = .ok (.iadd, 1) := by decide +kernel
theorem dL_law_457 : decode code 457 = .ok (.iaload, 1) := by decide +kernel
theorem dL_law_458 : decode code 458 = .ok (.invokevirtual 64, 3) := by decide +kernel
theorem dL_law_461 : decode code 461 = .ok (.aload_n 2, 1) := by decide +kernel
theorem dL_law_462 : decode code 462 = .ok (.aload_n 0, 1) := by decide +kernel
theorem dL_law_463 : decode code 463 = .ok (.iload_n 3, 1) := by decide +kernel
theorem dL_law_464 : decode code 464 = .ok (.iconst 1, 1) := by decide +kernel
theorem dL_law_465 : decode code 465 = .ok (.iadd, 1) := by decide +kernel
theorem dL_law_466 : decode code 466 = .ok (.iaload, 1) := by decide +kernel
theorem dL_law_467 : decode code 467 = .ok (.invokevirtual 67, 3) := by decide +kernel
theorem dL_law_470 : decode code 470 = .ok (.if_icmp .eq 472, 3) := by decide +kernel
theorem dL_law_473 : decode code 473 = .ok (.iconst 0, 1) := by decide +kernel
theorem dL_law_474 : decode code 474 = .ok (.ireturn, 1) := by decide +kernel
theorem dL_law_475 : decode code 475 = .ok (.aload_n 1, 1) := by decide +kernel
theorem dL_law_476 : decode code 476 = .ok (.invokevirtual 68, 3) := by decide +kernel
theorem dL_law_479 : decode code 479 = .ok (.aload_n 2, 1) := by decide +kernel
theorem dL_law_480 : decode code 480 = .ok (.invokevirtual 71, 3) := by decide +kernel
theorem dL_law_483 : decode code 483 = .ok (.if_icmp .eq 459, 3) := by decide +kernel
theorem dL_law_486 : decode code 486 = .ok (.iconst 0, 1) := by decide +kernel
theorem dL_law_487 : decode code 487 = .ok (.ireturn, 1) := by decide +kernel
theorem dL_law_488 : decode code 488 = .ok (.aload_n 1, 1) := by decide +kernel
theorem dL_law_489 : decode code 489 = .ok (.aload_n 0, 1) := by decide +kernel
theorem dL_law_490 : decode code 490 = .ok (.iload_n 3, 1) := by decide +kernel
theorem dL_law_491 : decode code 491 = .ok (.iconst 1, 1) := by decide +kernel
theorem dL_law_492 : decode code 492 = .ok (.iadd, 1) := by decide +kernel
theorem dL_law_493 : decode code 493 = .ok (.iaload, 1) := by decide +kernel
theorem dL_law_494 : decode code 494 = .ok (.invokevirtual 72, 3) := by decide +kernel
theorem dL_law_497 : decode code 497 = .ok (.aload_n 2, 1) := by decide +kernel
theorem dL_law_498 : decode code 498 = .ok (.aload_n 0, 1) := by decide +kernel
theorem dL_law_499 : decode code 499 = .ok (.iload_n 3, 1) := by decide +kernel
theorem dL_law_500 : decode code 500 = .ok (.iconst 1, 1) := by decide +kernel
theorem dL_law_501 : decode code 501 = .ok (.iadd, 1) := by decide +kernel
theorem dL_law_502 : decode code 502 = .ok (.iaload, 1) := by decide +kernel
theorem dL_law_503 : decode code 503 = .ok (.invokevirtual 75, 3) := by decide +kernel
theorem dL_law_506 : decode code 506 = .ok (.if_icmp .eq 436, 3) := by decide +kernel
theorem dL_law_509 : decode code 509 = .ok (.iconst 0, 1) := by decide +kernel
theorem dL_law_510 : decode code 510 = .ok (.ireturn, 1) := by decide +kernel
theorem dL_law_511 : decode code 511 = .ok (.aload_n 1, 1) := by decide +kernel
theorem dL_law_512 : decode code 512 = .ok (.aload_n 0, 1) := by decide +kernel
theorem dL_law_513 : decode code 513 = .ok (.iload_n 3, 1) := by decide +kernel
theorem dL_law_514 : decode code 514 = .ok (.iconst 1, 1) := by decide +kernel
theorem dL_law_515 : decode code 515 = .ok (.iadd, 1) := by decide +kernel
theorem dL_law_516 : decode code 516 = .ok (.iaload, 1) := by decide +kernel
theorem dL_law_517 : decode code 517 = .ok (.invokevirtual 76, 3) := by decide +kernel
theorem dL_law_520 : decode code 520 = .ok (.aload_n 2, 1) := by decide +kernel
theorem dL_law_521 : decode code 521 = .ok (.aload_n 0, 1) := by decide +kernel
theorem dL_law_522 : decode code 522 = .ok (.iload_n 3, 1) := by decide +kernel
theorem dL_law_523 : decode code 523 = .ok (.iconst 1, 1) := by decide +kernel
theorem dL_law_524 : decode code 524 = .ok (.iadd, 1) := by decide +kernel
theorem dL_law_525 : decode code 525 = .ok (.iaload, 1) := by decide +kernel
theorem dL_law_526 : decode code 526 = .ok (.invokevirtual 79, 3) := by decide +kernel
theorem dL_law_529 : decode code 529 = .ok (.if_icmp .eq 413, 3) := by decide +kernel
theorem dL_law_532 : decode code 532 = .ok (.iconst 0, 1) := by decide +kernel
theorem dL_law_533 : decode code 533 = .ok (.ireturn, 1) := by decide +kernel
theorem dL_law_534 : decode code 534 = .ok (.aload_n 1, 1) := by decide +kernel
theorem dL_law_535 : decode code 535 = .ok (.aload_n 0, 1) := by decide +kernel
theorem dL_law_536 : decode code 536 = .ok (.iload_n 3, 1) := by decide +kernel
theorem dL_law_537 : decode code 537 = .ok (.iconst 1, 1) := by decide +kernel
theorem dL_law_538 : decode code 538 = .ok (.iadd, 1) := by decide +kernel
theorem dL_law_539 : decode code 539 = .ok (.iaload, 1) := by decide +kernel
theorem dL_law_540 : decode code 540 = .ok (.invokevirtual 80, 3) := by decide +kernel
theorem dL_law_543 : decode code 543 = .ok (.aload_n 2, 1) := by decide +kernel
theorem dL_law_544 : decode code 544 = .ok (.aload_n 0, 1) := by decide +kernel
theorem dL_law_545 : decode code 545 = .ok (.iload_n 3, 1) := by decide +kernel
theorem dL_law_546 : decode code 546 = .ok (.iconst 1, 1) := by decide +kernel
theorem dL_law_547 : decode code 547 = .ok (.iadd, 1) := by decide +kernel
theorem dL_law_548 : decode code 548 = .ok (.iaload, 1) := by decide +kernel
theorem dL_law_549 : decode code 549 = .ok (.invokevirtual 83, 3) := by decide +kernel
theorem dL_law_552 : decode code 552 = .ok (.if_icmp .eq 390, 3) := by decide +kernel
theorem dL_law_555 : decode code 555 = .ok (.iconst 0, 1) := by decide +kernel
theorem dL_law_556 : decode code 556 = .ok (.ireturn, 1) := by decide +kernel
theorem dL_law_557 : decode code 557 = .ok (.aload_n 1, 1) := by decide +kernel
theorem dL_law_558 : decode code 558 = .ok (.invokevirtual 84, 3) := by decide +kernel
theorem dL_law_561 : decode code 561 = .ok (.aload_n 2, 1) := by decide +kernel
theorem dL_law_562 : decode code 562 = .ok (.invokevirtual 87, 3) := by decide +kernel
theorem dL_law_565 : decode code 565 = .ok (.if_icmp .eq 377, 3) := by decide +kernel
theorem dL_law_568 : decode code 568 = .ok (.iconst 0, 1) := by decide +kernel
theorem dL_law_569 : decode code 569 = .ok (.ireturn, 1) := by decide +kernel
theorem dL_law_570 : decode code 570 = .ok (.aload_n 1, 1) := by decide +kernel
theorem dL_law_571 : decode code 571 = .ok (.aload_n 0, 1) := by decide +kernel
theorem dL_law_572 : decode code 572 = .ok (.iload_n 3, 1) := by decide +kernel
theorem dL_law_573 : decode code 573 = .ok (.iconst 1, 1) := by decide +kernel
theorem dL_law_574 : decode code 574 = .ok (.iadd, 1) := by decide +kernel
theorem dL_law_575 : decode code 575 = .ok (.iaload, 1) := by decide +kernel
theorem dL_law_576 : decode code 576 = .ok (.invokevirtual 88, 3) := by decide +kernel
theorem dL_law_579 : decode code 579 = .ok (.aload_n 2, 1) := by decide +kernel
theorem dL_law_580 : decode code 580 = .ok (.aload_n 0, 1) := by decide +kernel
theorem dL_law_581 : decode code 581 = .ok (.iload_n 3, 1) := by decide +kernel
theorem dL_law_582 : decode code 582 = .ok (.iconst 1, 1) := by decide +kernel
theorem dL_law_583 : decode code 583 = .ok (.iadd, 1) := by decide +kernel
theorem dL_law_584 : decode code 584 = .ok (.iaload, 1) := by decide +kernel
theorem dL_law_585 : decode code 585 = .ok (.invokevirtual 91, 3) := by decide +kernel
theorem dL_law_588 : decode code 588 = .ok (.if_icmp .eq 354, 3) := by decide +kernel
theorem dL_law_591 : decode code 591 = .ok (.iconst 0, 1) := by decide +kernel
theorem dL_law_592 : decode code 592 = .ok (.ireturn, 1) := by decide +kernel
theorem dL_law_593 : decode code 593 = .ok (.aload_n 1, 1) := by decide +kernel
theorem dL_law_594 : decode code 594 = .ok (.aload_n 0, 1) := by decide +kernel
theorem dL_law_595 : decode code 595 = .ok (.iload_n 3, 1) := by decide +kernel
theorem dL_law_596 : decode code 596 = .ok (.iconst 1, 1) := by decide +kernel
theorem dL_law_597 : decode code 597 = .ok (.iadd, 1) := by decide +kernel
theorem dL_law_598 : decode code 598 = .ok (.iaload, 1) := by decide +kernel
theorem dL_law_599 : decode code 599 = .ok (.aload_n 0, 1) := by decide +kernel
theorem dL_law_600 : decode code 600 = .ok (.iload_n 3, 1) := by decide +kernel
theorem dL_law_601 : decode code 601 = .ok (.iconst 2, 1) := by decide +kernel
theorem dL_law_602 : decode code 602 = .ok (.iadd, 1) := by decide +kernel
theorem dL_law_603 : decode code 603 = .ok (.iaload, 1) := by decide +kernel
theorem dL_law_604 : decode code 604 = .ok (.invokevirtual 92, 3) := by decide +kernel
theorem dL_law_607 : decode code 607 = .ok (.aload_n 2, 1) := by decide +kernel
theorem dL_law_608 : decode code 608 = .ok (.aload_n 0, 1) := by decide +kernel
theorem dL_law_609 : decode code 609 = .ok (.iload_n 3, 1) := by decide +kernel
theorem dL_law_610 : decode code 610 = .ok (.iconst 1, 1) := by decide +kernel
theorem dL_law_611 : decode code 611 = .ok (.iadd, 1) := by decide +kernel
theorem dL_law_612 : decode code 612 = .ok (.iaload, 1) := by decide +kernel
theorem dL_law_613 : decode code 613 = .ok (.aload_n 0, 1) := by decide +kernel
theorem dL_law_614 : decode code 614 = .ok (.iload_n 3, 1) := by decide +kernel
theorem dL_law_615 : decode code 615 = .ok (.iconst 2, 1) := by decide +kernel
theorem dL_law_616 : decode code 616 = .ok (.iadd, 1) := by decide +kernel
theorem dL_law_617 : decode code 617 = .ok (.iaload, 1) := by decide +kernel
theorem dL_law_618 : decode code 618 = .ok (.invokevirtual 95, 3) := by decide +kernel
theorem dL_law_621 : decode code 621 = .ok (.if_icmp .eq 321, 3) := by decide +kernel
theorem dL_law_624 : decode code 624 = .ok (.iconst 0, 1) := by decide +kernel
theorem dL_law_625 : decode code 625 = .ok (.ireturn, 1) := by decide +kernel
theorem dL_law_626 : decode code 626 = .ok (.aload_n 1, 1) := by decide +kernel
theorem dL_law_627 : decode code 627 = .ok (.aload_n 0, 1) := by decide +kernel
theorem dL_law_628 : decode code 628 = .ok (.iload_n 3, 1) := by decide +kernel
theorem dL_law_629 : decode code 629 = .ok (.iconst 1, 1) := by decide +kernel
theorem dL_law_630 : decode code 630 = .ok (.iadd, 1) := by decide +kernel
theorem dL_law_631 : decode code 631 = .ok (.iaload, 1) := by decide +kernel
theorem dL_law_632 : decode code 632 = .ok (.aload_n 0, 1) := by decide +kernel
theorem dL_law_633 : decode code 633 = .ok (.iload_n 3, 1) := by decide +kernel
theorem dL_law_634 : decode code 634 = .ok (.iconst 2, 1) := by decide +kernel
theorem dL_law_635 : decode code 635 = .ok (.iadd, 1) := by decide +kernel
theorem dL_law_636 : decode code 636 = .ok (.iaload, 1) := by decide +kernel
theorem dL_law_637 : decode code 637 = .ok (.aload_n 0, 1) := by decide +kernel
theorem dL_law_638 : decode code 638 = .ok (.iload_n 3, 1) := by decide +kernel
theorem dL_law_639 : decode code 639 = .ok (.iconst 3, 1) := by decide +kernel
theorem dL_law_640 : decode code 640 = .ok (.iadd, 1) := by decide +kernel
theorem dL_law_641 : decode code 641 = .ok (.iaload, 1) := by decide +kernel
theorem dL_law_642 : decode code 642 = .ok (.invokevirtual 96, 3) := by decide +kernel
theorem dL_law_645 : decode code 645 = .ok (.aload_n 2, 1) := by decide +kernel
theorem dL_law_646 : decode code 646 = .ok (.aload_n 0, 1) := by decide +kernel
theorem dL_law_647 : decode code 647 = .ok (.iload_n 3, 1) := by decide +kernel
theorem dL_law_648 : decode code 648 = .ok (.iconst 1, 1) := by decide +kernel
theorem dL_law_649 : decode code 649 = .ok (.iadd, 1) := by decide +kernel
theorem dL_law_650 : decode code 650 = .ok (.iaload, 1) := by decide +kernel
theorem dL_law_651 : decode code 651 = .ok (.aload_n 0, 1) := by decide +kernel
theorem dL_law_652 : decode code 652 = .ok (.iload_n 3, 1) := by decide +kernel
theorem dL_law_653 : decode code 653 = .ok (.iconst 2, 1) := by decide +kernel
theorem dL_law_654 : decode code 654 = .ok (.iadd, 1) := by decide +kernel
theorem dL_law_655 : decode code 655 = .ok (.iaload, 1) := by decide +kernel
theorem dL_law_656 : decode code 656 = .ok (.aload_n 0, 1) := by decide +kernel
theorem dL_law_657 : decode code 657 = .ok (.iload_n 3, 1) := by decide +kernel
theorem dL_law_658 : decode code 658 = .ok (.iconst 3, 1) := by decide +kernel
theorem dL_law_659 : decode code 659 = .ok (.iadd, 1) := by decide +kernel
theorem dL_law_660 : decode code 660 = .ok (.iaload, 1) := by decide +kernel
theorem dL_law_661 : decode code 661 = .ok (.invokevirtual 100, 3) := by decide +kernel
theorem dL_law_664 : decode code 664 = .ok (.if_icmp .eq 278, 3) := by decide +kernel
theorem dL_law_667 : decode code 667 = .ok (.iconst 0, 1) := by decide +kernel
theorem dL_law_668 : decode code 668 = .ok (.ireturn, 1) := by decide +kernel
theorem dL_law_669 : decode code 669 = .ok (.aload_n 1, 1) := by decide +kernel
theorem dL_law_670 : decode code 670 = .ok (.invokevirtual 101, 3) := by decide +kernel
theorem dL_law_673 : decode code 673 = .ok (.aload_n 2, 1) := by decide +kernel
theorem dL_law_674 : decode code 674 = .ok (.invokevirtual 104, 3) := by decide +kernel
theorem dL_law_677 : decode code 677 = .ok (.if_icmp .eq 265, 3) := by decide +kernel
theorem dL_law_680 : decode code 680 = .ok (.iconst 0, 1) := by decide +kernel
theorem dL_law_681 : decode code 681 = .ok (.ireturn, 1) := by decide +kernel
theorem dL_law_682 : decode code 682 = .ok (.aload_n 1, 1) := by decide +kernel
theorem dL_law_683 : decode code 683 = .ok (.aload_n 0, 1) := by decide +kernel
theorem dL_law_684 : decode code 684 = .ok (.iload_n 3, 1) := by decide +kernel
theorem dL_law_685 : decode code 685 = .ok (.iconst 1, 1) := by decide +kernel
theorem dL_law_686 : decode code 686 = .ok (.iadd, 1) := by decide +kernel
theorem dL_law_687 : decode code 687 = .ok (.iaload, 1) := by decide +kernel
theorem dL_law_688 : decode code 688 = .ok (.aload_n 0, 1) := by decide +kernel
theorem dL_law_689 : decode code 689 = .ok (.iload_n 3, 1) := by decide +kernel
theorem dL_law_690 : decode code 690 = .ok (.iconst 2, 1) := by decide +kernel
theorem dL_law_691 : decode code 691 = .ok (.iadd, 1) := by decide +kernel
theorem dL_law_692 : decode code 692 = .ok (.iaload, 1) := by decide +kernel
theorem dL_law_693 : decode code 693 = .ok (.invokevirtual 105, 3) := by decide +kernel
theorem dL_law_696 : decode code 696 = .ok (.aload_n 2, 1) := by decide +kernel
theorem dL_law_697 : decode code 697 = .ok (.aload_n 0, 1) := by decide +kernel
theorem dL_law_698 : decode code 698 = .ok (.iload_n 3, 1) := by decide +kernel
theorem dL_law_699 : decode code 699 = .ok (.iconst 1, 1) := by decide +kernel
theorem dL_law_700 : decode code 700 = .ok (.iadd, 1) := by decide +kernel
theorem dL_law_701 : decode code 701 = .ok (.iaload, 1) := by decide +kernel
theorem dL_law_702 : decode code 702 = .ok (.aload_n 0, 1) := by decide +kernel
theorem dL_law_703 : decode code 703 = .ok (.iload_n 3, 1) := by decide +kernel
theorem dL_law_704 : decode code 704 = .ok (.iconst 2, 1) := by decide +kernel
theorem dL_law_705 : decode code 705 = .ok (.iadd, 1) := by decide +kernel
theorem dL_law_706 : decode code 706 = .ok (.iaload, 1) := by decide +kernel
theorem dL_law_707 : decode code 707 = .ok (.invokevirtual 108, 3) := by decide +kernel
theorem dL_law_710 : decode code 710 = .ok (.if_icmp .eq 232, 3) := by decide +kernel
theorem dL_law_713 : decode code 713 = .ok (.iconst 0, 1) := by decide +kernel
theorem dL_law_714 : decode code 714 = .ok (.ireturn, 1) := by decide +kernel
theorem dL_law_715 : decode code 715 = .ok (.aload_n 1, 1) := by decide +kernel
theorem dL_law_716 : decode code 716 = .ok (.invokevirtual 109, 3) := by decide +kernel
theorem dL_law_719 : decode code 719 = .ok (.aload_n 2, 1) := by decide +kernel
theorem dL_law_720 : decode code 720 = .ok (.invokevirtual 112, 3) := by decide +kernel
theorem dL_law_723 : decode code 723 = .ok (.if_icmp .eq 219, 3) := by decide +kernel
theorem dL_law_726 : decode code 726 = .ok (.iconst 0, 1) := by decide +kernel
theorem dL_law_727 : decode code 727 = .ok (.ireturn, 1) := by decide +kernel
theorem dL_law_728 : decode code 728 = .ok (.aload_n 1, 1) := by decide +kernel
theorem dL_law_729 : decode code 729 = .ok (.aload_n 0, 1) := by decide +kernel
theorem dL_law_730 : decode code 730 = .ok (.iload_n 3, 1) := by decide +kernel
theorem dL_law_731 : decode code 731 = .ok (.iconst 1, 1) := by decide +kernel
theorem dL_law_732 : decode code 732 = .ok (.iadd, 1) := by decide +kernel
theorem dL_law_733 : decode code 733 = .ok (.iaload, 1) := by decide +kernel
theorem dL_law_734 : decode code 734 = .ok (.invokevirtual 113, 3) := by decide +kernel
theorem dL_law_737 : decode code 737 = .ok (.aload_n 2, 1) := by decide +kernel
theorem dL_law_738 : decode code 738 = .ok (.aload_n 0, 1) := by decide +kernel
theorem dL_law_739 : decode code 739 = .ok (.iload_n 3, 1) := by decide +kernel
theorem dL_law_740 : decode code 740 = .ok (.iconst 1, 1) := by decide +kernel
theorem dL_law_741 : decode code 741 = .ok (.iadd, 1) := by decide +kernel
theorem dL_law_742 : decode code 742 = .ok (.iaload, 1) := by decide +kernel
theorem dL_law_743 : decode code 743 = .ok (.invokevirtual 116, 3) := by decide +kernel
theorem dL_law_746 : decode code 746 = .ok (.if_icmp .eq 196, 3) := by decide +kernel
theorem dL_law_749 : decode code 749 = .ok (.iconst 0, 1) := by decide +kernel
theorem dL_law_750 : decode code 750 = .ok (.ireturn, 1) := by decide +kernel
theorem dL_law_751 : decode code 751 = .ok (.aload_n 1, 1) := by decide +kernel
theorem dL_law_752 : decode code 752 = .ok (.aload_n 0, 1) := by decide +kernel
theorem dL_law_753 : decode code 753 = .ok (.iload_n 3, 1) := by decide +kernel
theorem dL_law_754 : decode code 754 = .ok (.iconst 1, 1) := by decide +kernel
theorem dL_law_755 : decode code 755 = .ok (.iadd, 1) := by decide +kernel
theorem dL_law_756 : decode code 756 = .ok (.iaload, 1) := by decide +kernel
theorem dL_law_757 : decode code 757 = .ok (.aload_n 0, 1) := by decide +kernel
theorem dL_law_758 : decode code 758 = .ok (.iload_n 3, 1) := by decide +kernel
theorem dL_law_759 : decode code 759 = .ok (.iconst 2, 1) := by decide +kernel
theorem dL_law_760 : decode code 760 = .ok (.iadd, 1) := by decide +kernel
theorem dL_law_761 : decode code 761 = .ok (.iaload, 1) := by decide +kernel
theorem dL_law_762 : decode code 762 = .ok (.invokevirtual 117, 3) := by decide +kernel
theorem dL_law_765 : decode code 765 = .ok (.aload_n 2, 1) := by decide +kernel
theorem dL_law_766 : decode code 766 = .ok (.aload_n 0, 1) := by decide +kernel
theorem dL_law_767 : decode code 767 = .ok (.iload_n 3, 1) := by decide +kernel
theorem dL_law_768 : decode code 768 = .ok (.iconst 1, 1) := by decide +kernel
theorem dL_law_769 : decode code 769 = .ok (.iadd, 1) := by decide +kernel
theorem dL_law_770 : decode code 770 = .ok (.iaload, 1) := by decide +kernel
theorem dL_law_771 : decode code 771 = .ok (.aload_n 0, 1) := by decide +kernel
theorem dL_law_772 : decode code 772 = .ok (.iload_n 3, 1) := by decide +kernel
theorem dL_law_773 : decode code 773 = .ok (.iconst 2, 1) := by decide +kernel
theorem dL_law_774 : decode code 774 = .ok (.iadd, 1) := by decide +kernel
theorem dL_law_775 : decode code 775 = .ok (.iaload, 1) := by decide +kernel
theorem dL_law_776 : decode code 776 = .ok (.invokevirtual 120, 3) := by decide +kernel
theorem dL_law_779 : decode code 779 = .ok (.if_icmp .eq 163, 3) := by decide +kernel
theorem dL_law_782 : decode code 782 = .ok (.iconst 0, 1) := by decide +kernel
theorem dL_law_783 : decode code 783 = .ok (.ireturn, 1) := by decide +kernel
theorem dL_law_784 : decode code 784 = .ok (.aload_n 1, 1) := by decide +kernel
theorem dL_law_785 : decode code 785 = .ok (.aload_n 0, 1) := by decide +kernel
theorem dL_law_786 : decode code 786 = .ok (.iload_n 3, 1) := by decide +kernel
theorem dL_law_787 : decode code 787 = .ok (.iconst 1, 1) := by decide +kernel
theorem dL_law_788 : decode code 788 = .ok (.iadd, 1) := by decide +kernel
theorem dL_law_789 : decode code 789 = .ok (.iaload, 1) := by decide +kernel
theorem dL_law_790 : decode code 790 = .ok (.invokevirtual 121, 3) := by decide +kernel
theorem dL_law_793 : decode code 793 = .ok (.aload_n 2, 1) := by decide +kernel
theorem dL_law_794 : decode code 794 = .ok (.aload_n 0, 1) := by decide +kernel
theorem dL_law_795 : decode code 795 = .ok (.iload_n 3, 1) := by decide +kernel
theorem dL_law_796 : decode code 796 = .ok (.iconst 1, 1) := by decide +kernel
theorem dL_law_797 : decode code 797 = .ok (.iadd, 1) := by decide +kernel
theorem dL_law_798 : decode code 798 = .ok (.iaload, 1) := by decide +kernel
theorem dL_law_799 : decode code 799 = .ok (.invokevirtual 124, 3) := by decide +kernel
theorem dL_law_802 : decode code 802 = .ok (.if_icmp .eq 140, 3) := by decide +kernel
theorem dL_law_805 : decode code 805 = .ok (.iconst 0, 1) := by decide +kernel
theorem dL_law_806 : decode code 806 = .ok (.ireturn, 1) := by decide +kernel
theorem dL_law_807 : decode code 807 = .ok (.aload_n 1, 1) := by decide +kernel
theorem dL_law_808 : decode code 808 = .ok (.aload_n 0, 1) := by decide +kernel
theorem dL_law_809 : decode code 809 = .ok (.iload_n 3, 1) := by decide +kernel
theorem dL_law_810 : decode code 810 = .ok (.iconst 1, 1) := by decide +kernel
theorem dL_law_811 : decode code 811 = .ok (.iadd, 1) := by decide +kernel
theorem dL_law_812 : decode code 812 = .ok (.iaload, 1) := by decide +kernel
theorem dL_law_813 : decode code 813 = .ok (.aload_n 0, 1) := by decide +kernel
theorem dL_law_814 : decode code 814 = .ok (.iload_n 3, 1) := by decide +kernel
theorem dL_law_815 : decode code 815 = .ok (.iconst 2, 1) := by decide +kernel
theorem dL_law_816 : decode code 816 = .ok (.iadd, 1) := by decide +kernel
theorem dL_law_817 : decode code 817 = .ok (.iaload, 1) := by decide +kernel
theorem dL_law_818 : decode code 818 = .ok (.aload_n 0, 1) := by decide +kernel
theorem dL_law_819 : decode code 819 = .ok (.iload_n 3, 1) := by decide +kernel
theorem dL_law_820 : decode code 820 = .ok (.iconst 3, 1) := by decide +kernel
theorem dL_law_821 : decode code 821 = .ok (.iadd, 1) := by decide +kernel
theorem dL_law_822 : decode code 822 = .ok (.iaload, 1) := by decide +kernel
theorem dL_law_823 : decode code 823 = .ok (.invokevirtual 125, 3) := by decide +kernel
theorem dL_law_826 : decode code 826 = .ok (.aload_n 2, 1) := by decide +kernel
theorem dL_law_827 : decode code 827 = .ok (.aload_n 0, 1) := by decide +kernel
theorem dL_law_828 : decode code 828 = .ok (.iload_n 3, 1) := by decide +kernel
theorem dL_law_829 : decode code 829 = .ok (.iconst 1, 1) := by decide +kernel
theorem dL_law_830 : decode code 830 = .ok (.iadd, 1) := by decide +kernel
theorem dL_law_831 : decode code 831 = .ok (.iaload, 1) := by decide +kernel
theorem dL_law_832 : decode code 832 = .ok (.aload_n 0, 1) := by decide +kernel
theorem dL_law_833 : decode code 833 = .ok (.iload_n 3, 1) := by decide +kernel
theorem dL_law_834 : decode code 834 = .ok (.iconst 2, 1) := by decide +kernel
theorem dL_law_835 : decode code 835 = .ok (.iadd, 1) := by decide +kernel
theorem dL_law_836 : decode code 836 = .ok (.iaload, 1) := by decide +kernel
theorem dL_law_837 : decode code 837 = .ok (.aload_n 0, 1) := by decide +kernel
theorem dL_law_838 : decode code 838 = .ok (.iload_n 3, 1) := by decide +kernel
theorem dL_law_839 : decode code 839 = .ok (.iconst 3, 1) := by decide +kernel
theorem dL_law_840 : decode code 840 = .ok (.iadd, 1) := by decide +kernel
theorem dL_law_841 : decode code 841 = .ok (.iaload, 1) := by decide +kernel
theorem dL_law_842 : decode code 842 = .ok (.invokevirtual 128, 3) := by decide +kernel
theorem dL_law_845 : decode code 845 = .ok (.if_icmp .eq 97, 3) := by decide +kernel
theorem dL_law_848 : decode code 848 = .ok (.iconst 0, 1) := by decide +kernel
theorem dL_law_849 : decode code 849 = .ok (.ireturn, 1) := by decide +kernel
theorem dL_law_850 : decode code 850 = .ok (.aload_n 1, 1) := by decide +kernel
theorem dL_law_851 : decode code 851 = .ok (.aload_n 0, 1) := by decide +kernel
theorem dL_law_852 : decode code 852 = .ok (.iload_n 3, 1) := by decide +kernel
theorem dL_law_853 : decode code 853 = .ok (.iconst 1, 1) := by decide +kernel
theorem dL_law_854 : decode code 854 = .ok (.iadd, 1) := by decide +kernel
theorem dL_law_855 : decode code 855 = .ok (.iaload, 1) := by decide +kernel
theorem dL_law_856 : decode code 856 = .ok (.aload_n 0, 1) := by decide +kernel
theorem dL_law_857 : decode code 857 = .ok (.iload_n 3, 1) := by decide +kernel
theorem dL_law_858 : decode code 858 = .ok (.iconst 2, 1) := by decide +kernel
theorem dL_law_859 : decode code 859 = .ok (.iadd, 1) := by decide +kernel
theorem dL_law_860 : decode code 860 = .ok (.iaload, 1) := by decide +kernel
theorem dL_law_861 : decode code 861 = .ok (.aload_n 0, 1) := by decide +kernel
theorem dL_law_862 : decode code 862 = .ok (.iload_n 3, 1) := by decide +kernel
theorem dL_law_863 : decode code 863 = .ok (.iconst 3, 1) := by decide +kernel
theorem dL_law_864 : decode code 864 = .ok (.iadd, 1) := by decide +kernel
theorem dL_law_865 : decode code 865 = .ok (.iaload, 1) := by decide +kernel
theorem dL_law_866 : decode code 866 = .ok (.invokevirtual 129, 3) := by decide +kernel
theorem dL_law_869 : decode code 869 = .ok (.aload_n 2, 1) := by decide +kernel
theorem dL_law_870 : decode code 870 = .ok (.aload_n 0, 1) := by decide +kernel
theorem dL_law_871 : decode code 871 = .ok (.iload_n 3, 1) := by decide +kernel
theorem dL_law_872 : decode code 872 = .ok (.iconst 1, 1) := by decide +kernel
theorem dL_law_873 : decode code 873 = .ok (.iadd, 1) := by decide +kernel
theorem dL_law_874 : decode code 874 = .ok (.iaload, 1) := by decide +kernel
theorem dL_law_875 : decode code 875 = .ok (.aload_n 0, 1) := by decide +kernel
theorem dL_law_876 : decode code 876 = .ok (.iload_n 3, 1) := by decide +kernel
theorem dL_law_877 : decode code 877 = .ok (.iconst 2, 1) := by decide +kernel
theorem dL_law_878 : decode code 878 = .ok (.iadd, 1) := by decide +kernel
theorem dL_law_879 : decode code 879 = .ok (.iaload, 1) := by decide +kernel
theorem dL_law_880 : decode code 880 = .ok (.aload_n 0, 1) := by decide +kernel
theorem dL_law_881 : decode code 881 = .ok (.iload_n 3, 1) := by decide +kernel
theorem dL_law_882 : decode code 882 = .ok (.iconst 3, 1) := by decide +kernel
theorem dL_law_883 : decode code 883 = .ok (.iadd, 1) := by decide +kernel
theorem dL_law_884 : decode code 884 = .ok (.iaload, 1) := by decide +kernel
theorem dL_law_885 : decode code 885 = .ok (.invokevirtual 132, 3) := by decide +kernel
theorem dL_law_888 : decode code 888 = .ok (.if_icmp .eq 54, 3) := by decide +kernel
theorem dL_law_891 : decode code 891 = .ok (.iconst 0, 1) := by decide +kernel
theorem dL_law_892 : decode code 892 = .ok (.ireturn, 1) := by decide +kernel
theorem dL_law_893 : decode code 893 = .ok (.aload_n 1, 1) := by decide +kernel
theorem dL_law_894 : decode code 894 = .ok (.invokevirtual 133, 3) := by decide +kernel
theorem dL_law_897 : decode code 897 = .ok (.aload_n 2, 1) := by decide +kernel
theorem dL_law_898 : decode code 898 = .ok (.invokevirtual 136, 3) := by decide +kernel
theorem dL_law_901 : decode code 901 = .ok (.if_icmp .eq 41, 3) := by decide +kernel
theorem dL_law_904 : decode code 904 = .ok (.iconst 0, 1) := by decide +kernel
theorem dL_law_905 : decode code 905 = .ok (.ireturn, 1) := by decide +kernel
theorem dL_law_906 : decode code 906 = .ok (.aload_n 1, 1) := by decide +kernel
theorem dL_law_907 : decode code 907 = .ok (.invokevirtual 137, 3) := by decide +kernel
theorem dL_law_910 : decode code 910 = .ok (.aload_n 2, 1) := by decide +kernel
theorem dL_law_911 : decode code 911 = .ok (.invokevirtual 140, 3) := by decide +kernel
theorem dL_law_914 : decode code 914 = .ok (.if_icmp .eq 28, 3) := by decide +kernel
theorem dL_law_917 : decode code 917 = .ok (.iconst 0, 1) := by decide +kernel
theorem dL_law_918 : decode code 918 = .ok (.ireturn, 1) := by decide +kernel
theorem dL_law_919 : decode code 919 = .ok (.aload_n 1, 1) := by decide +kernel
theorem dL_law_920 : decode code 920 = .ok (.aload_n 0, 1) := by decide +kernel
theorem dL_law_921 : decode code 921 = .ok (.iload_n 3, 1) := by decide +kernel
theorem dL_law_922 : decode code 922 = .ok (.iconst 1, 1) := by decide +kernel
theorem dL_law_923 : decode code 923 = .ok (.iadd, 1) := by decide +kernel
theorem dL_law_924 : decode code 924 = .ok (.iaload, 1) := by decide +kernel
theorem dL_law_925 : decode code 925 = .ok (.invokevirtual 141, 3) := by decide +kernel
theorem dL_law_928 : decode code 928 = .ok (.aload_n 2, 1) := by decide +kernel
theorem dL_law_929 : decode code 929 = .ok (.aload_n 0, 1) := by decide +kernel
theorem dL_law_930 : decode code 930 = .ok (.iload_n 3, 1) := by decide +kernel
theorem dL_law_931 : decode code 931 = .ok (.iconst 1, 1) := by decide +kernel
theorem dL_law_932 : decode code 932 = .ok (.iadd, 1) := by decide +kernel
theorem dL_law_933 : decode code 933 = .ok (.iaload, 1) := by decide +kernel
theorem dL_law_934 : decode code 934 = .ok (.invokevirtual 144, 3) := by decide +kernel
theorem dL_law_937 : decode code 937 = .ok (.if_icmp .eq 5, 3) := by decide +kernel
theorem dL_law_940 : decode code 940 = .ok (.iconst 0, 1) := by decide +kernel
theorem dL_law_941 : decode code 941 = .ok (.ireturn, 1) := by decide +kernel
theorem dL_law_942 : decode code 942 = .ok (.iinc 3 4, 3) := by decide +kernel
theorem dL_law_945 : decode code 945 = .ok (.goto (-927), 3) := by decide +kernel
theorem dL_law_948 : decode code 948 = .ok (.iconst 1, 1) := by decide +kernel
theorem dL_law_949 : decode code 949 = .ok (.ireturn, 1) := by decide +kernel
abbrev KTL_law : Type := (XW → Nat → Nat → Int32 → Option (Int32 × XW))
def bL_law_942 (sn : Nat) (sx : Nat → Int32) (k : KTL_law) (w : XW) (l1 : Nat) (l2 : Nat) (l3 : Int32) : Option (Int32 × XW) :=
  k w l1 l2 (l3 + (4 : Int32))
theorem BL_law_942 {K : CX} {l : Launch} {n0 k0 : Nat} {k : KTL_law} (hk0 : ∀ (w : XW) (l1 : Nat) (l2 : Nat) (l3 : Int32) (q : Int32 × XW), k w l1 l2 l3 = some q → WP K l mL_law 14 341 n0 k0 (some (.int q.1)) q.2 18 [some (.float 0), some (.ref l1), some (.ref l2), some (.int l3)] [] w) {w : XW} {l1 : Nat} {l2 : Nat} {l3 : Int32} {q : Int32 × XW} (h0 : bL_law_942 (K.2.2.1 0).1 (K.2.2.1 0).2 k w l1 l2 l3 = some q) : WP K l mL_law 14 341 n0 k0 (some (.int q.1)) q.2 942 [some (.float 0), some (.ref l1), some (.ref l2), some (.int l3)] [] w := by
  unfold bL_law_942 at h0
  refine wp_iinc (v := (l3 + (4 : Int32))) (L1 := [some (.float 0), some (.ref l1), some (.ref l2), some (.int (l3 + (4 : Int32)))]) dL_law_942 (Nat.le_of_ble_eq_true rfl) rfl (congrArg (fun z => l3 + z) (by decide)) rfl ?_
  refine wp_goto (tgt := 18) dL_law_945 (by decide) ?_
  exact WP.wk (hk0 _ _ _ _ _ h0) (And.intro rfl (And.intro rfl (And.intro rfl (And.intro rfl trivial))))
def hL_law_18 (sn : Nat) (sx : Nat → Int32) (k : KTL_law) (w : XW) (l1 : Nat) (l2 : Nat) (l3 : Int32) : Option (Int32 × XW) :=
  if ((Int32.ofNat sn) - (4 : Int32)) < l3 then
  some ((1 : Int32), w)
  else
  (eI sn sx l3).bind fun x2 =>
  if (x2 &&& (31 : Int32)).toInt < 0 ∨ 31 < (x2 &&& (31 : Int32)).toInt then
  bL_law_942 sn sx k w l1 l2 l3
  else if (x2 &&& (31 : Int32)) = (0 : Int32) then
  (eI sn sx (l3 + (1 : Int32))).bind fun x7 =>
  (fX7_write w l1 x7).bind fun q10 =>
  (eI sn sx (l3 + (1 : Int32))).bind fun x13 =>
  (fX8_write q10.2 l2 x13).bind fun q16 =>
  if q10.1 = q16.1 then
  bL_law_942 sn sx k q16.2 l1 l2 l3
  else
  some ((0 : Int32), q16.2)
  else if (x2 &&& (31 : Int32)) = (1 : Int32) then
  (fX7_wipe w l1).bind fun q21 =>
  (fX8_wipe q21.2 l2).bind fun q24 =>
  if q21.1 = q24.1 then
  bL_law_942 sn sx k q24.2 l1 l2 l3
  else
  some ((0 : Int32), q24.2)
  else if (x2 &&& (31 : Int32)) = (2 : Int32) then
  (fX7_fault w l1).bind fun q29 =>
  (fX8_fault q29.2 l2).bind fun q32 =>
  if q29.1 = q32.1 then
  bL_law_942 sn sx k q32.2 l1 l2 l3
  else
  some ((0 : Int32), q32.2)
  else if (x2 &&& (31 : Int32)) = (3 : Int32) then
  (fX7_lay w l1).bind fun q37 =>
  (fX8_lay q37.2 l2).bind fun q40 =>
  if q37.1 = q40.1 then
  bL_law_942 sn sx k q40.2 l1 l2 l3
  else
  some ((0 : Int32), q40.2)
  else if (x2 &&& (31 : Int32)) = (4 : Int32) then
  (eI sn sx (l3 + (1 : Int32))).bind fun x45 =>
  (eI sn sx (l3 + (2 : Int32))).bind fun x48 =>
  (fX7_fraction w l1 x45 x48).bind fun q51 =>
  (eI sn sx (l3 + (1 : Int32))).bind fun x54 =>
  (eI sn sx (l3 + (2 : Int32))).bind fun x57 =>
  (fX8_fraction_ q51.2 l2 x54 x57).bind fun q60 =>
  if q51.1 = q60.1 then
  bL_law_942 sn sx k q60.2 l1 l2 l3
  else
  some ((0 : Int32), q60.2)
  else if (x2 &&& (31 : Int32)) = (5 : Int32) then
  (eI sn sx (l3 + (1 : Int32))).bind fun x65 =>
  (fX7_number w l1 x65).bind fun q68 =>
  (eI sn sx (l3 + (1 : Int32))).bind fun x71 =>
  (fX8_number_ q68.2 l2 x71).bind fun q74 =>
  if q68.1 = q74.1 then
  bL_law_942 sn sx k q74.2 l1 l2 l3
  else
  some ((0 : Int32), q74.2)
  else if (x2 &&& (31 : Int32)) = (6 : Int32) then
  (eI sn sx (l3 + (1 : Int32))).bind fun x79 =>
  (fX7_steps w l1 x79).bind fun q82 =>
  (eI sn sx (l3 + (1 : Int32))).bind fun x85 =>
  (fX8_steps q82.2 l2 x85).bind fun q88 =>
  if q82.1 = q88.1 then
  bL_law_942 sn sx k q88.2 l1 l2 l3
  else
  some ((0 : Int32), q88.2)
  else if (x2 &&& (31 : Int32)) = (7 : Int32) then
  (eI sn sx (l3 + (1 : Int32))).bind fun x93 =>
  (eI sn sx (l3 + (2 : Int32))).bind fun x96 =>
  (fX7_multiply w l1 x93 x96).bind fun q99 =>
  (eI sn sx (l3 + (1 : Int32))).bind fun x102 =>
  (eI sn sx (l3 + (2 : Int32))).bind fun x105 =>
  (fX8_multiply q99.2 l2 x102 x105).bind fun q108 =>
  if q99.1 = q108.1 then
  bL_law_942 sn sx k q108.2 l1 l2 l3
  else
  some ((0 : Int32), q108.2)
  else if (x2 &&& (31 : Int32)) = (8 : Int32) then
  (eI sn sx (l3 + (1 : Int32))).bind fun x113 =>
  (eI sn sx (l3 + (2 : Int32))).bind fun x116 =>
  (fX7_move w l1 x113 x116).bind fun q119 =>
  (eI sn sx (l3 + (1 : Int32))).bind fun x122 =>
  (eI sn sx (l3 + (2 : Int32))).bind fun x125 =>
  (fX8_move q119.2 l2 x122 x125).bind fun q128 =>
  if q119.1 = q128.1 then
  bL_law_942 sn sx k q128.2 l1 l2 l3
  else
  some ((0 : Int32), q128.2)
  else if (x2 &&& (31 : Int32)) = (9 : Int32) then
  (eI sn sx (l3 + (1 : Int32))).bind fun x133 =>
  (fX7_drop w l1 x133).bind fun q136 =>
  (eI sn sx (l3 + (1 : Int32))).bind fun x139 =>
  (fX8_drop q136.2 l2 x139).bind fun q142 =>
  if q136.1 = q142.1 then
  bL_law_942 sn sx k q142.2 l1 l2 l3
  else
  some ((0 : Int32), q142.2)
  else if (x2 &&& (31 : Int32)) = (10 : Int32) then
  (fX7_undo w l1).bind fun q147 =>
  (fX8_undo q147.2 l2).bind fun q150 =>
  if q147.1 = q150.1 then
  bL_law_942 sn sx k q150.2 l1 l2 l3
  else
  some ((0 : Int32), q150.2)
  else if (x2 &&& (31 : Int32)) = (11 : Int32) then
  (eI sn sx (l3 + (1 : Int32))).bind fun x155 =>
  (eI sn sx (l3 + (2 : Int32))).bind fun x158 =>
  (fX7_power w l1 x155 x158).bind fun q161 =>
  (eI sn sx (l3 + (1 : Int32))).bind fun x164 =>
  (eI sn sx (l3 + (2 : Int32))).bind fun x167 =>
  (fX8_power q161.2 l2 x164 x167).bind fun q170 =>
  if q161.1 = q170.1 then
  bL_law_942 sn sx k q170.2 l1 l2 l3
  else
  some ((0 : Int32), q170.2)
  else if (x2 &&& (31 : Int32)) = (12 : Int32) then
  (eI sn sx (l3 + (1 : Int32))).bind fun x175 =>
  (fX7_used w l1 x175).bind fun q178 =>
  (eI sn sx (l3 + (1 : Int32))).bind fun x181 =>
  (fX8_used q178.2 l2 x181).bind fun q184 =>
  if q178.1 = q184.1 then
  bL_law_942 sn sx k q184.2 l1 l2 l3
  else
  some ((0 : Int32), q184.2)
  else if (x2 &&& (31 : Int32)) = (13 : Int32) then
  (fX7_rests w l1).bind fun q189 =>
  (fX8_rests q189.2 l2).bind fun q192 =>
  if q189.1 = q192.1 then
  bL_law_942 sn sx k q192.2 l1 l2 l3
  else
  some ((0 : Int32), q192.2)
  else if (x2 &&& (31 : Int32)) = (14 : Int32) then
  (eI sn sx (l3 + (1 : Int32))).bind fun x197 =>
  (fX7_round w l1 x197).bind fun q200 =>
  (eI sn sx (l3 + (1 : Int32))).bind fun x203 =>
  (fX8_round q200.2 l2 x203).bind fun q206 =>
  if q200.1 = q206.1 then
  bL_law_942 sn sx k q206.2 l1 l2 l3
  else
  some ((0 : Int32), q206.2)
  else if (x2 &&& (31 : Int32)) = (15 : Int32) then
  (eI sn sx (l3 + (1 : Int32))).bind fun x211 =>
  (fX7_greatest w l1 x211).bind fun q214 =>
  (eI sn sx (l3 + (1 : Int32))).bind fun x217 =>
  (fX8_greatest q214.2 l2 x217).bind fun q220 =>
  if q214.1 = q220.1 then
  bL_law_942 sn sx k q220.2 l1 l2 l3
  else
  some ((0 : Int32), q220.2)
  else if (x2 &&& (31 : Int32)) = (16 : Int32) then
  (eI sn sx (l3 + (1 : Int32))).bind fun x225 =>
  (fX7_often w l1 x225).bind fun q228 =>
  (eI sn sx (l3 + (1 : Int32))).bind fun x231 =>
  (fX8_often q228.2 l2 x231).bind fun q234 =>
  if q228.1 = q234.1 then
  bL_law_942 sn sx k q234.2 l1 l2 l3
  else
  some ((0 : Int32), q234.2)
  else if (x2 &&& (31 : Int32)) = (17 : Int32) then
  (fX7_needed w l1).bind fun q239 =>
  (fX8_needed q239.2 l2).bind fun q242 =>
  if q239.1 = q242.1 then
  bL_law_942 sn sx k q242.2 l1 l2 l3
  else
  some ((0 : Int32), q242.2)
  else if (x2 &&& (31 : Int32)) = (18 : Int32) then
  (eI sn sx (l3 + (1 : Int32))).bind fun x247 =>
  (fX7_order w l1 x247).bind fun q250 =>
  (eI sn sx (l3 + (1 : Int32))).bind fun x253 =>
  (fX8_order q250.2 l2 x253).bind fun q256 =>
  if q250.1 = q256.1 then
  bL_law_942 sn sx k q256.2 l1 l2 l3
  else
  some ((0 : Int32), q256.2)
  else if (x2 &&& (31 : Int32)) = (19 : Int32) then
  (eI sn sx (l3 + (1 : Int32))).bind fun x261 =>
  (eI sn sx (l3 + (2 : Int32))).bind fun x264 =>
  (fX7_map w l1 x261 x264).bind fun q267 =>
  (eI sn sx (l3 + (1 : Int32))).bind fun x270 =>
  (eI sn sx (l3 + (2 : Int32))).bind fun x273 =>
  (fX8_map q267.2 l2 x270 x273).bind fun q276 =>
  if q267.1 = q276.1 then
  bL_law_942 sn sx k q276.2 l1 l2 l3
  else
  some ((0 : Int32), q276.2)
  else if (x2 &&& (31 : Int32)) = (20 : Int32) then
  (eI sn sx (l3 + (1 : Int32))).bind fun x281 =>
  (eI sn sx (l3 + (2 : Int32))).bind fun x284 =>
  (eI sn sx (l3 + (3 : Int32))).bind fun x287 =>
  (fX7_sources w l1 x281 x284 x287).bind fun q290 =>
  (eI sn sx (l3 + (1 : Int32))).bind fun x293 =>
  (eI sn sx (l3 + (2 : Int32))).bind fun x296 =>
  (eI sn sx (l3 + (3 : Int32))).bind fun x299 =>
  (fX8_sources q290.2 l2 x293 x296 x299).bind fun q302 =>
  if q290.1 = q302.1 then
  bL_law_942 sn sx k q302.2 l1 l2 l3
  else
  some ((0 : Int32), q302.2)
  else if (x2 &&& (31 : Int32)) = (21 : Int32) then
  (fX7_whence w l1).bind fun q307 =>
  (fX8_whence q307.2 l2).bind fun q310 =>
  if q307.1 = q310.1 then
  bL_law_942 sn sx k q310.2 l1 l2 l3
  else
  some ((0 : Int32), q310.2)
  else if (x2 &&& (31 : Int32)) = (22 : Int32) then
  (eI sn sx (l3 + (1 : Int32))).bind fun x315 =>
  (eI sn sx (l3 + (2 : Int32))).bind fun x318 =>
  (fX7_see w l1 x315 x318).bind fun q321 =>
  (eI sn sx (l3 + (1 : Int32))).bind fun x324 =>
  (eI sn sx (l3 + (2 : Int32))).bind fun x327 =>
  (fX8_see q321.2 l2 x324 x327).bind fun q330 =>
  if q321.1 = q330.1 then
  bL_law_942 sn sx k q330.2 l1 l2 l3
  else
  some ((0 : Int32), q330.2)
  else if (x2 &&& (31 : Int32)) = (23 : Int32) then
  (fX7_forget w l1).bind fun q335 =>
  (fX8_forget q335.2 l2).bind fun q338 =>
  if q335.1 = q338.1 then
  bL_law_942 sn sx k q338.2 l1 l2 l3
  else
  some ((0 : Int32), q338.2)
  else if (x2 &&& (31 : Int32)) = (24 : Int32) then
  (eI sn sx (l3 + (1 : Int32))).bind fun x343 =>
  (fX7_kinds w l1 x343).bind fun q346 =>
  (eI sn sx (l3 + (1 : Int32))).bind fun x349 =>
  (fX8_kinds q346.2 l2 x349).bind fun q352 =>
  if q346.1 = q352.1 then
  bL_law_942 sn sx k q352.2 l1 l2 l3
  else
  some ((0 : Int32), q352.2)
  else if (x2 &&& (31 : Int32)) = (25 : Int32) then
  (eI sn sx (l3 + (1 : Int32))).bind fun x357 =>
  (eI sn sx (l3 + (2 : Int32))).bind fun x360 =>
  (fX7_look w l1 x357 x360).bind fun q363 =>
  (eI sn sx (l3 + (1 : Int32))).bind fun x366 =>
  (eI sn sx (l3 + (2 : Int32))).bind fun x369 =>
  (fX8_look q363.2 l2 x366 x369).bind fun q372 =>
  if q363.1 = q372.1 then
  bL_law_942 sn sx k q372.2 l1 l2 l3
  else
  some ((0 : Int32), q372.2)
  else if (x2 &&& (31 : Int32)) = (26 : Int32) then
  (eI sn sx (l3 + (1 : Int32))).bind fun x377 =>
  (fX7_duel w l1 x377).bind fun q380 =>
  (eI sn sx (l3 + (1 : Int32))).bind fun x383 =>
  (fX8_duel q380.2 l2 x383).bind fun q386 =>
  if q380.1 = q386.1 then
  bL_law_942 sn sx k q386.2 l1 l2 l3
  else
  some ((0 : Int32), q386.2)
  else if (x2 &&& (31 : Int32)) = (27 : Int32) then
  (eI sn sx (l3 + (1 : Int32))).bind fun x391 =>
  (eI sn sx (l3 + (2 : Int32))).bind fun x394 =>
  (eI sn sx (l3 + (3 : Int32))).bind fun x397 =>
  (fX7_odds w l1 x391 x394 x397).bind fun q400 =>
  (eI sn sx (l3 + (1 : Int32))).bind fun x403 =>
  (eI sn sx (l3 + (2 : Int32))).bind fun x406 =>
  (eI sn sx (l3 + (3 : Int32))).bind fun x409 =>
  (fX8_odds q400.2 l2 x403 x406 x409).bind fun q412 =>
  if q400.1 = q412.1 then
  bL_law_942 sn sx k q412.2 l1 l2 l3
  else
  some ((0 : Int32), q412.2)
  else if (x2 &&& (31 : Int32)) = (28 : Int32) then
  (eI sn sx (l3 + (1 : Int32))).bind fun x417 =>
  (eI sn sx (l3 + (2 : Int32))).bind fun x420 =>
  (eI sn sx (l3 + (3 : Int32))).bind fun x423 =>
  (fX7_day w l1 x417 x420 x423).bind fun q426 =>
  (eI sn sx (l3 + (1 : Int32))).bind fun x429 =>
  (eI sn sx (l3 + (2 : Int32))).bind fun x432 =>
  (eI sn sx (l3 + (3 : Int32))).bind fun x435 =>
  (fX8_day q426.2 l2 x429 x432 x435).bind fun q438 =>
  if q426.1 = q438.1 then
  bL_law_942 sn sx k q438.2 l1 l2 l3
  else
  some ((0 : Int32), q438.2)
  else if (x2 &&& (31 : Int32)) = (29 : Int32) then
  (fX7_keep w l1).bind fun q443 =>
  (fX8_keep q443.2 l2).bind fun q446 =>
  if q443.1 = q446.1 then
  bL_law_942 sn sx k q446.2 l1 l2 l3
  else
  some ((0 : Int32), q446.2)
  else if (x2 &&& (31 : Int32)) = (30 : Int32) then
  (fX7_back w l1).bind fun q451 =>
  (fX8_back q451.2 l2).bind fun q454 =>
  if q451.1 = q454.1 then
  bL_law_942 sn sx k q454.2 l1 l2 l3
  else
  some ((0 : Int32), q454.2)
  else if (x2 &&& (31 : Int32)) = (31 : Int32) then
  (eI sn sx (l3 + (1 : Int32))).bind fun x459 =>
  (fX7_count w l1 x459).bind fun q462 =>
  (eI sn sx (l3 + (1 : Int32))).bind fun x465 =>
  (fX8_count q462.2 l2 x465).bind fun q468 =>
  if q462.1 = q468.1 then
  bL_law_942 sn sx k q468.2 l1 l2 l3
  else
  some ((0 : Int32), q468.2)
  else none
theorem HL_law_18 {K : CX} {l : Launch} {n0 k0 : Nat} {k : KTL_law} (hk0 : ∀ (w : XW) (l1 : Nat) (l2 : Nat) (l3 : Int32) (q : Int32 × XW), k w l1 l2 l3 = some q → WP K l mL_law 14 341 n0 k0 (some (.int q.1)) q.2 18 [some (.float 0), some (.ref l1), some (.ref l2), some (.int l3)] [] w) {w : XW} {l1 : Nat} {l2 : Nat} {l3 : Int32} {q : Int32 × XW} (h0 : hL_law_18 (K.2.2.1 0).1 (K.2.2.1 0).2 k w l1 l2 l3 = some q) : WP K l mL_law 14 341 n0 k0 (some (.int q.1)) q.2 18 [some (.float 0), some (.ref l1), some (.ref l2), some (.int l3)] [] w := by
  unfold hL_law_18 at h0
  refine wp_iload_n dL_law_18 rfl ?_
  refine wp_xload_n dL_law_19 rfl ?_
  refine wp_elen rfl dL_law_20 ?_
  refine wp_iconst (v := (4 : Int32)) dL_law_21 (by decide) ?_
  refine wp_isub dL_law_22 ?_
  refine wp_icmp_gt (tgt := 948) dL_law_23 (by decide) (fun c1 => ?_) (fun c1 => ?_)
  · rw [if_pos c1] at h0
    refine wp_iconst (v := (1 : Int32)) dL_law_948 (by decide) ?_
    cases h0
    exact wp_zret (x := (1 : Int32)) rfl narrow_b1 dL_law_949
  · rw [if_neg c1] at h0
    refine wp_xload_n dL_law_26 rfl ?_
    refine wp_iload_n dL_law_27 rfl ?_
    obtain ⟨x2, e4, h3⟩ := Option.bind_eq_some_iff.mp h0
    clear h0
    refine wp_eald dL_law_28 e4 ?_
    refine wp_bipush (v := (31 : Int32)) dL_law_29 (by decide) ?_
    refine wp_iand dL_law_31 ?_
    by_cases c5 : (x2 &&& (31 : Int32)).toInt < 0 ∨ 31 < (x2 &&& (31 : Int32)).toInt
    · rw [if_pos c5] at h3
      refine wp_tabOut (tgt := 942) dL_law_32 c5 (by decide) ?_
      exact WP.wk (BL_law_942 hk0 h3) (And.intro rfl (And.intro rfl (And.intro rfl (And.intro rfl trivial))))
    rw [if_neg c5] at h3
    by_cases c6 : (x2 &&& (31 : Int32)) = (0 : Int32)
    · rw [if_pos c6] at h3
      refine wp_tabIn (off := 144) (tgt := 176) dL_law_32 (by rw [c6]; decide) (by rw [c6]; decide) (by rw [c6]; decide) (by decide) ?_
      refine wp_aload_n dL_law_176 rfl ?_
      refine wp_xload_n dL_law_177 rfl ?_
      refine wp_iload_n dL_law_178 rfl ?_
      refine wp_iconst (v := (1 : Int32)) dL_law_179 (by decide) ?_
      refine wp_iadd dL_law_180 ?_
      obtain ⟨x7, e9, h8⟩ := Option.bind_eq_some_iff.mp h3
      clear h3
      refine wp_eald dL_law_181 e9 ?_
      obtain ⟨q10, e12, h11⟩ := Option.bind_eq_some_iff.mp h8
      clear h8
      refine wp_Vi (As := [.int x7]) (S := []) okM_X7_write tw346 tw347 tw345 (OX7_write e12) rfl rfl rfl ⟨(Nat.le_of_ble_eq_true rfl), (Nat.le_of_ble_eq_true rfl)⟩ (Nat.le_of_ble_eq_true rfl) rfl dL_law_182 (MX7_write e12) ?_
      refine wp_aload_n dL_law_185 rfl ?_
      refine wp_xload_n dL_law_186 rfl ?_
      refine wp_iload_n dL_law_187 rfl ?_
      refine wp_iconst (v := (1 : Int32)) dL_law_188 (by decide) ?_
      refine wp_iadd dL_law_189 ?_
      obtain ⟨x13, e15, h14⟩ := Option.bind_eq_some_iff.mp h11
      clear h11
      refine wp_eald dL_law_190 e15 ?_
      obtain ⟨q16, e18, h17⟩ := Option.bind_eq_some_iff.mp h14
      clear h14
      refine wp_Vi (As := [.int x13]) (S := [.int q10.1]) okM_X8_write tw779 tw780 tw778 (OX8_write e18) rfl rfl rfl ⟨(Nat.le_of_ble_eq_true rfl), (Nat.le_of_ble_eq_true rfl)⟩ (Nat.le_of_ble_eq_true rfl) rfl dL_law_191 (MX8_write e18) ?_
      refine wp_icmp_eq (tgt := 942) dL_law_194 (by decide) (fun c19 => ?_) (fun c19 => ?_)
      · rw [if_pos c19] at h17
        exact WP.wk (BL_law_942 hk0 h17) (And.intro rfl (And.intro rfl (And.intro rfl (And.intro rfl trivial))))
      · rw [if_neg c19] at h17
        refine wp_iconst (v := (0 : Int32)) dL_law_197 (by decide) ?_
        cases h17
        exact wp_zret (x := (0 : Int32)) rfl narrow_b0 dL_law_198
    rw [if_neg c6] at h3
    by_cases c20 : (x2 &&& (31 : Int32)) = (1 : Int32)
    · rw [if_pos c20] at h3
      refine wp_tabIn (off := 167) (tgt := 199) dL_law_32 (by rw [c20]; decide) (by rw [c20]; decide) (by rw [c20]; decide) (by decide) ?_
      refine wp_aload_n dL_law_199 rfl ?_
      obtain ⟨q21, e23, h22⟩ := Option.bind_eq_some_iff.mp h3
      clear h3
      refine wp_Vi (As := []) (S := []) okM_X7_wipe tw350 tw351 tw349 (OX7_wipe e23) rfl rfl rfl ⟨(Nat.le_of_ble_eq_true rfl), (Nat.le_of_ble_eq_true rfl)⟩ (Nat.le_of_ble_eq_true rfl) rfl dL_law_200 (MX7_wipe e23) ?_
      refine wp_aload_n dL_law_203 rfl ?_
      obtain ⟨q24, e26, h25⟩ := Option.bind_eq_some_iff.mp h22
      clear h22
      refine wp_Vi (As := []) (S := [.int q21.1]) okM_X8_wipe tw788 tw789 tw787 (OX8_wipe e26) rfl rfl rfl ⟨(Nat.le_of_ble_eq_true rfl), (Nat.le_of_ble_eq_true rfl)⟩ (Nat.le_of_ble_eq_true rfl) rfl dL_law_204 (MX8_wipe e26) ?_
      refine wp_icmp_eq (tgt := 942) dL_law_207 (by decide) (fun c27 => ?_) (fun c27 => ?_)
      · rw [if_pos c27] at h25
        exact WP.wk (BL_law_942 hk0 h25) (And.intro rfl (And.intro rfl (And.intro rfl (And.intro rfl trivial))))
      · rw [if_neg c27] at h25
        refine wp_iconst (v := (0 : Int32)) dL_law_210 (by decide) ?_
        cases h25
        exact wp_zret (x := (0 : Int32)) rfl narrow_b0 dL_law_211
    rw [if_neg c20] at h3
    by_cases c28 : (x2 &&& (31 : Int32)) = (2 : Int32)
    · rw [if_pos c28] at h3
      refine wp_tabIn (off := 180) (tgt := 212) dL_law_32 (by rw [c28]; decide) (by rw [c28]; decide) (by rw [c28]; decide) (by decide) ?_
      refine wp_aload_n dL_law_212 rfl ?_
      obtain ⟨q29, e31, h30⟩ := Option.bind_eq_some_iff.mp h3
      clear h3
      refine wp_Vi (As := []) (S := []) okM_X7_fault tw354 tw355 tw353 (OX7_fault e31) rfl rfl rfl ⟨(Nat.le_of_ble_eq_true rfl), (Nat.le_of_ble_eq_true rfl)⟩ (Nat.le_of_ble_eq_true rfl) rfl dL_law_213 (MX7_fault e31) ?_
      refine wp_aload_n dL_law_216 rfl ?_
      obtain ⟨q32, e34, h33⟩ := Option.bind_eq_some_iff.mp h30
      clear h30
      refine wp_Vi (As := []) (S := [.int q29.1]) okM_X8_fault tw792 tw793 tw791 (OX8_fault e34) rfl rfl rfl ⟨(Nat.le_of_ble_eq_true rfl), (Nat.le_of_ble_eq_true rfl)⟩ (Nat.le_of_ble_eq_true rfl) rfl dL_law_217 (MX8_fault e34) ?_
      refine wp_icmp_eq (tgt := 942) dL_law_220 (by decide) (fun c35 => ?_) (fun c35 => ?_)
      · rw [if_pos c35] at h33
        exact WP.wk (BL_law_942 hk0 h33) (And.intro rfl (And.intro rfl (And.intro rfl (And.intro rfl trivial))))
      · rw [if_neg c35] at h33
        refine wp_iconst (v := (0 : Int32)) dL_law_223 (by decide) ?_
        cases h33
        exact wp_zret (x := (0 : Int32)) rfl narrow_b0 dL_law_224
    rw [if_neg c28] at h3
    by_cases c36 : (x2 &&& (31 : Int32)) = (3 : Int32)
    · rw [if_pos c36] at h3
      refine wp_tabIn (off := 193) (tgt := 225) dL_law_32 (by rw [c36]; decide) (by rw [c36]; decide) (by rw [c36]; decide) (by decide) ?_
      refine wp_aload_n dL_law_225 rfl ?_
      obtain ⟨q37, e39, h38⟩ := Option.bind_eq_some_iff.mp h3
      clear h3
      refine wp_Vi (As := []) (S := []) okM_X7_lay tw358 tw359 tw357 (OX7_lay e39) rfl rfl rfl ⟨(Nat.le_of_ble_eq_true rfl), (Nat.le_of_ble_eq_true rfl)⟩ (Nat.le_of_ble_eq_true rfl) rfl dL_law_226 (MX7_lay e39) ?_
      refine wp_aload_n dL_law_229 rfl ?_
      obtain ⟨q40, e42, h41⟩ := Option.bind_eq_some_iff.mp h38
      clear h38
      refine wp_Vi (As := []) (S := [.int q37.1]) okM_X8_lay tw826 tw827 tw825 (OX8_lay e42) rfl rfl rfl ⟨(Nat.le_of_ble_eq_true rfl), (Nat.le_of_ble_eq_true rfl)⟩ (Nat.le_of_ble_eq_true rfl) rfl dL_law_230 (MX8_lay e42) ?_
      refine wp_icmp_eq (tgt := 942) dL_law_233 (by decide) (fun c43 => ?_) (fun c43 => ?_)
      · rw [if_pos c43] at h41
        exact WP.wk (BL_law_942 hk0 h41) (And.intro rfl (And.intro rfl (And.intro rfl (And.intro rfl trivial))))
      · rw [if_neg c43] at h41
        refine wp_iconst (v := (0 : Int32)) dL_law_236 (by decide) ?_
        cases h41
        exact wp_zret (x := (0 : Int32)) rfl narrow_b0 dL_law_237
    rw [if_neg c36] at h3
    by_cases c44 : (x2 &&& (31 : Int32)) = (4 : Int32)
    · rw [if_pos c44] at h3
      refine wp_tabIn (off := 206) (tgt := 238) dL_law_32 (by rw [c44]; decide) (by rw [c44]; decide) (by rw [c44]; decide) (by decide) ?_
      refine wp_aload_n dL_law_238 rfl ?_
      refine wp_xload_n dL_law_239 rfl ?_
      refine wp_iload_n dL_law_240 rfl ?_
      refine wp_iconst (v := (1 : Int32)) dL_law_241 (by decide) ?_
      refine wp_iadd dL_law_242 ?_
      obtain ⟨x45, e47, h46⟩ := Option.bind_eq_some_iff.mp h3
      clear h3
      refine wp_eald dL_law_243 e47 ?_
      refine wp_xload_n dL_law_244 rfl ?_
      refine wp_iload_n dL_law_245 rfl ?_
      refine wp_iconst (v := (2 : Int32)) dL_law_246 (by decide) ?_
      refine wp_iadd dL_law_247 ?_
      obtain ⟨x48, e50, h49⟩ := Option.bind_eq_some_iff.mp h46
      clear h46
      refine wp_eald dL_law_248 e50 ?_
      obtain ⟨q51, e53, h52⟩ := Option.bind_eq_some_iff.mp h49
      clear h49
      refine wp_Vi (As := [.int x45, .int x48]) (S := []) okM_X7_fraction tw375 tw376 tw374 (OX7_fraction e53) rfl rfl rfl ⟨(Nat.le_of_ble_eq_true rfl), (Nat.le_of_ble_eq_true rfl)⟩ (Nat.le_of_ble_eq_true rfl) rfl dL_law_249 (MX7_fraction e53) ?_
      refine wp_aload_n dL_law_252 rfl ?_
      refine wp_xload_n dL_law_253 rfl ?_
      refine wp_iload_n dL_law_254 rfl ?_
      refine wp_iconst (v := (1 : Int32)) dL_law_255 (by decide) ?_
      refine wp_iadd dL_law_256 ?_
      obtain ⟨x54, e56, h55⟩ := Option.bind_eq_some_iff.mp h52
      clear h52
      refine wp_eald dL_law_257 e56 ?_
      refine wp_xload_n dL_law_258 rfl ?_
      refine wp_iload_n dL_law_259 rfl ?_
      refine wp_iconst (v := (2 : Int32)) dL_law_260 (by decide) ?_
      refine wp_iadd dL_law_261 ?_
      obtain ⟨x57, e59, h58⟩ := Option.bind_eq_some_iff.mp h55
      clear h55
      refine wp_eald dL_law_262 e59 ?_
      obtain ⟨q60, e62, h61⟩ := Option.bind_eq_some_iff.mp h58
      clear h58
      refine wp_Vi (As := [.int x54, .int x57]) (S := [.int q51.1]) okM_X8_fraction_ tw830 tw831 tw829 (OX8_fraction_ e62) rfl rfl rfl ⟨(Nat.le_of_ble_eq_true rfl), (Nat.le_of_ble_eq_true rfl)⟩ (Nat.le_of_ble_eq_true rfl) rfl dL_law_263 (MX8_fraction_ e62) ?_
      refine wp_icmp_eq (tgt := 942) dL_law_266 (by decide) (fun c63 => ?_) (fun c63 => ?_)
      · rw [if_pos c63] at h61
        exact WP.wk (BL_law_942 hk0 h61) (And.intro rfl (And.intro rfl (And.intro rfl (And.intro rfl trivial))))
      · rw [if_neg c63] at h61
        refine wp_iconst (v := (0 : Int32)) dL_law_269 (by decide) ?_
        cases h61
        exact wp_zret (x := (0 : Int32)) rfl narrow_b0 dL_law_270
    rw [if_neg c44] at h3
    by_cases c64 : (x2 &&& (31 : Int32)) = (5 : Int32)
    · rw [if_pos c64] at h3
      refine wp_tabIn (off := 239) (tgt := 271) dL_law_32 (by rw [c64]; decide) (by rw [c64]; decide) (by rw [c64]; decide) (by decide) ?_
      refine wp_aload_n dL_law_271 rfl ?_
      refine wp_xload_n dL_law_272 rfl ?_
      refine wp_iload_n dL_law_273 rfl ?_
      refine wp_iconst (v := (1 : Int32)) dL_law_274 (by decide) ?_
      refine wp_iadd dL_law_275 ?_
      obtain ⟨x65, e67, h66⟩ := Option.bind_eq_some_iff.mp h3
      clear h3
      refine wp_eald dL_law_276 e67 ?_
      obtain ⟨q68, e70, h69⟩ := Option.bind_eq_some_iff.mp h66
      clear h66
      refine wp_Vi (As := [.int x65]) (S := []) okM_X7_number tw395 tw396 tw394 (OX7_number e70) rfl rfl rfl ⟨(Nat.le_of_ble_eq_true rfl), (Nat.le_of_ble_eq_true rfl)⟩ (Nat.le_of_ble_eq_true rfl) rfl dL_law_277 (MX7_number e70) ?_
      refine wp_aload_n dL_law_280 rfl ?_
      refine wp_xload_n dL_law_281 rfl ?_
      refine wp_iload_n dL_law_282 rfl ?_
      refine wp_iconst (v := (1 : Int32)) dL_law_283 (by decide) ?_
      refine wp_iadd dL_law_284 ?_
      obtain ⟨x71, e73, h72⟩ := Option.bind_eq_some_iff.mp h69
      clear h69
      refine wp_eald dL_law_285 e73 ?_
      obtain ⟨q74, e76, h75⟩ := Option.bind_eq_some_iff.mp h72
      clear h72
      refine wp_Vi (As := [.int x71]) (S := [.int q68.1]) okM_X8_number_ tw859 tw860 tw858 (OX8_number_ e76) rfl rfl rfl ⟨(Nat.le_of_ble_eq_true rfl), (Nat.le_of_ble_eq_true rfl)⟩ (Nat.le_of_ble_eq_true rfl) rfl dL_law_286 (MX8_number_ e76) ?_
      refine wp_icmp_eq (tgt := 942) dL_law_289 (by decide) (fun c77 => ?_) (fun c77 => ?_)
      · rw [if_pos c77] at h75
        exact WP.wk (BL_law_942 hk0 h75) (And.intro rfl (And.intro rfl (And.intro rfl (And.intro rfl trivial))))
      · rw [if_neg c77] at h75
        refine wp_iconst (v := (0 : Int32)) dL_law_292 (by decide) ?_
        cases h75
        exact wp_zret (x := (0 : Int32)) rfl narrow_b0 dL_law_293
    rw [if_neg c64] at h3
    by_cases c78 : (x2 &&& (31 : Int32)) = (6 : Int32)
    · rw [if_pos c78] at h3
      refine wp_tabIn (off := 262) (tgt := 294) dL_law_32 (by rw [c78]; decide) (by rw [c78]; decide) (by rw [c78]; decide) (by decide) ?_
      refine wp_aload_n dL_law_294 rfl ?_
      refine wp_xload_n dL_law_295 rfl ?_
      refine wp_iload_n dL_law_296 rfl ?_
      refine wp_iconst (v := (1 : Int32)) dL_law_297 (by decide) ?_
      refine wp_iadd dL_law_298 ?_
      obtain ⟨x79, e81, h80⟩ := Option.bind_eq_some_iff.mp h3
      clear h3
      refine wp_eald dL_law_299 e81 ?_
      obtain ⟨q82, e84, h83⟩ := Option.bind_eq_some_iff.mp h80
      clear h80
      refine wp_Vi (As := [.int x79]) (S := []) okM_X7_steps tw402 tw403 tw401 (OX7_steps e84) rfl rfl rfl ⟨(Nat.le_of_ble_eq_true rfl), (Nat.le_of_ble_eq_true rfl)⟩ (Nat.le_of_ble_eq_true rfl) rfl dL_law_300 (MX7_steps e84) ?_
      refine wp_aload_n dL_law_303 rfl ?_
      refine wp_xload_n dL_law_304 rfl ?_
      refine wp_iload_n dL_law_305 rfl ?_
      refine wp_iconst (v := (1 : Int32)) dL_law_306 (by decide) ?_
      refine wp_iadd dL_law_307 ?_
      obtain ⟨x85, e87, h86⟩ := Option.bind_eq_some_iff.mp h83
      clear h83
      refine wp_eald dL_law_308 e87 ?_
      obtain ⟨q88, e90, h89⟩ := Option.bind_eq_some_iff.mp h86
      clear h86
      refine wp_Vi (As := [.int x85]) (S := [.int q82.1]) okM_X8_steps tw863 tw864 tw862 (OX8_steps e90) rfl rfl rfl ⟨(Nat.le_of_ble_eq_true rfl), (Nat.le_of_ble_eq_true rfl)⟩ (Nat.le_of_ble_eq_true rfl) rfl dL_law_309 (MX8_steps e90) ?_
      refine wp_icmp_eq (tgt := 942) dL_law_312 (by decide) (fun c91 => ?_) (fun c91 => ?_)
      · rw [if_pos c91] at h89
        exact WP.wk (BL_law_942 hk0 h89) (And.intro rfl (And.intro rfl (And.intro rfl (And.intro rfl trivial))))
      · rw [if_neg c91] at h89
        refine wp_iconst (v := (0 : Int32)) dL_law_315 (by decide) ?_
        cases h89
        exact wp_zret (x := (0 : Int32)) rfl narrow_b0 dL_law_316
    rw [if_neg c78] at h3
    by_cases c92 : (x2 &&& (31 : Int32)) = (7 : Int32)
    · rw [if_pos c92] at h3
      refine wp_tabIn (off := 285) (tgt := 317) dL_law_32 (by rw [c92]; decide) (by rw [c92]; decide) (by rw [c92]; decide) (by decide) ?_
      refine wp_aload_n dL_law_317 rfl ?_
      refine wp_xload_n dL_law_318 rfl ?_
      refine wp_iload_n dL_law_319 rfl ?_
      refine wp_iconst (v := (1 : Int32)) dL_law_320 (by decide) ?_
      refine wp_iadd dL_law_321 ?_
      obtain ⟨x93, e95, h94⟩ := Option.bind_eq_some_iff.mp h3
      clear h3
      refine wp_eald dL_law_322 e95 ?_
      refine wp_xload_n dL_law_323 rfl ?_
      refine wp_iload_n dL_law_324 rfl ?_
      refine wp_iconst (v := (2 : Int32)) dL_law_325 (by decide) ?_
      refine wp_iadd dL_law_326 ?_
      obtain ⟨x96, e98, h97⟩ := Option.bind_eq_some_iff.mp h94
      clear h94
      refine wp_eald dL_law_327 e98 ?_
      obtain ⟨q99, e101, h100⟩ := Option.bind_eq_some_iff.mp h97
      clear h97
      refine wp_Vi (As := [.int x93, .int x96]) (S := []) okM_X7_multiply tw439 tw440 tw438 (OX7_multiply e101) rfl rfl rfl ⟨(Nat.le_of_ble_eq_true rfl), (Nat.le_of_ble_eq_true rfl)⟩ (Nat.le_of_ble_eq_true rfl) rfl dL_law_328 (MX7_multiply e101) ?_
      refine wp_aload_n dL_law_331 rfl ?_
      refine wp_xload_n dL_law_332 rfl ?_
      refine wp_iload_n dL_law_333 rfl ?_
      refine wp_iconst (v := (1 : Int32)) dL_law_334 (by decide) ?_
      refine wp_iadd dL_law_335 ?_
      obtain ⟨x102, e104, h103⟩ := Option.bind_eq_some_iff.mp h100
      clear h100
      refine wp_eald dL_law_336 e104 ?_
      refine wp_xload_n dL_law_337 rfl ?_
      refine wp_iload_n dL_law_338 rfl ?_
      refine wp_iconst (v := (2 : Int32)) dL_law_339 (by decide) ?_
      refine wp_iadd dL_law_340 ?_
      obtain ⟨x105, e107, h106⟩ := Option.bind_eq_some_iff.mp h103
      clear h103
      refine wp_eald dL_law_341 e107 ?_
      obtain ⟨q108, e110, h109⟩ := Option.bind_eq_some_iff.mp h106
      clear h106
      refine wp_Vi (As := [.int x102, .int x105]) (S := [.int q99.1]) okM_X8_multiply tw888 tw889 tw887 (OX8_multiply e110) rfl rfl rfl ⟨(Nat.le_of_ble_eq_true rfl), (Nat.le_of_ble_eq_true rfl)⟩ (Nat.le_of_ble_eq_true rfl) rfl dL_law_342 (MX8_multiply e110) ?_
      refine wp_icmp_eq (tgt := 942) dL_law_345 (by decide) (fun c111 => ?_) (fun c111 => ?_)
      · rw [if_pos c111] at h109
        exact WP.wk (BL_law_942 hk0 h109) (And.intro rfl (And.intro rfl (And.intro rfl (And.intro rfl trivial))))
      · rw [if_neg c111] at h109
        refine wp_iconst (v := (0 : Int32)) dL_law_348 (by decide) ?_
        cases h109
        exact wp_zret (x := (0 : Int32)) rfl narrow_b0 dL_law_349
    rw [if_neg c92] at h3
    by_cases c112 : (x2 &&& (31 : Int32)) = (8 : Int32)
    · rw [if_pos c112] at h3
      refine wp_tabIn (off := 318) (tgt := 350) dL_law_32 (by rw [c112]; decide) (by rw [c112]; decide) (by rw [c112]; decide) (by decide) ?_
      refine wp_aload_n dL_law_350 rfl ?_
      refine wp_xload_n dL_law_351 rfl ?_
      refine wp_iload_n dL_law_352 rfl ?_
      refine wp_iconst (v := (1 : Int32)) dL_law_353 (by decide) ?_
      refine wp_iadd dL_law_354 ?_
      obtain ⟨x113, e115, h114⟩ := Option.bind_eq_some_iff.mp h3
      clear h3
      refine wp_eald dL_law_355 e115 ?_
      refine wp_xload_n dL_law_356 rfl ?_
      refine wp_iload_n dL_law_357 rfl ?_
      refine wp_iconst (v := (2 : Int32)) dL_law_358 (by decide) ?_
      refine wp_iadd dL_law_359 ?_
      obtain ⟨x116, e118, h117⟩ := Option.bind_eq_some_iff.mp h114
      clear h114
      refine wp_eald dL_law_360 e118 ?_
      obtain ⟨q119, e121, h120⟩ := Option.bind_eq_some_iff.mp h117
      clear h117
      refine wp_Vi (As := [.int x113, .int x116]) (S := []) okM_X7_move tw447 tw448 tw446 (OX7_move e121) rfl rfl rfl ⟨(Nat.le_of_ble_eq_true rfl), (Nat.le_of_ble_eq_true rfl)⟩ (Nat.le_of_ble_eq_true rfl) rfl dL_law_361 (MX7_move e121) ?_
      refine wp_aload_n dL_law_364 rfl ?_
      refine wp_xload_n dL_law_365 rfl ?_
      refine wp_iload_n dL_law_366 rfl ?_
      refine wp_iconst (v := (1 : Int32)) dL_law_367 (by decide) ?_
      refine wp_iadd dL_law_368 ?_
      obtain ⟨x122, e124, h123⟩ := Option.bind_eq_some_iff.mp h120
      clear h120
      refine wp_eald dL_law_369 e124 ?_
      refine wp_xload_n dL_law_370 rfl ?_
      refine wp_iload_n dL_law_371 rfl ?_
      refine wp_iconst (v := (2 : Int32)) dL_law_372 (by decide) ?_
      refine wp_iadd dL_law_373 ?_
      obtain ⟨x125, e127, h126⟩ := Option.bind_eq_some_iff.mp h123
      clear h123
      refine wp_eald dL_law_374 e127 ?_
      obtain ⟨q128, e130, h129⟩ := Option.bind_eq_some_iff.mp h126
      clear h126
      refine wp_Vi (As := [.int x122, .int x125]) (S := [.int q119.1]) okM_X8_move tw894 tw895 tw893 (OX8_move e130) rfl rfl rfl ⟨(Nat.le_of_ble_eq_true rfl), (Nat.le_of_ble_eq_true rfl)⟩ (Nat.le_of_ble_eq_true rfl) rfl dL_law_375 (MX8_move e130) ?_
      refine wp_icmp_eq (tgt := 942) dL_law_378 (by decide) (fun c131 => ?_) (fun c131 => ?_)
      · rw [if_pos c131] at h129
        exact WP.wk (BL_law_942 hk0 h129) (And.intro rfl (And.intro rfl (And.intro rfl (And.intro rfl trivial))))
      · rw [if_neg c131] at h129
        refine wp_iconst (v := (0 : Int32)) dL_law_381 (by decide) ?_
        cases h129
        exact wp_zret (x := (0 : Int32)) rfl narrow_b0 dL_law_382
    rw [if_neg c112] at h3
    by_cases c132 : (x2 &&& (31 : Int32)) = (9 : Int32)
    · rw [if_pos c132] at h3
      refine wp_tabIn (off := 351) (tgt := 383) dL_law_32 (by rw [c132]; decide) (by rw [c132]; decide) (by rw [c132]; decide) (by decide) ?_
      refine wp_aload_n dL_law_383 rfl ?_
      refine wp_xload_n dL_law_384 rfl ?_
      refine wp_iload_n dL_law_385 rfl ?_
      refine wp_iconst (v := (1 : Int32)) dL_law_386 (by decide) ?_
      refine wp_iadd dL_law_387 ?_
      obtain ⟨x133, e135, h134⟩ := Option.bind_eq_some_iff.mp h3
      clear h3
      refine wp_eald dL_law_388 e135 ?_
      obtain ⟨q136, e138, h137⟩ := Option.bind_eq_some_iff.mp h134
      clear h134
      refine wp_Vi (As := [.int x133]) (S := []) okM_X7_drop tw455 tw456 tw454 (OX7_drop e138) rfl rfl rfl ⟨(Nat.le_of_ble_eq_true rfl), (Nat.le_of_ble_eq_true rfl)⟩ (Nat.le_of_ble_eq_true rfl) rfl dL_law_389 (MX7_drop e138) ?_
      refine wp_aload_n dL_law_392 rfl ?_
      refine wp_xload_n dL_law_393 rfl ?_
      refine wp_iload_n dL_law_394 rfl ?_
      refine wp_iconst (v := (1 : Int32)) dL_law_395 (by decide) ?_
      refine wp_iadd dL_law_396 ?_
      obtain ⟨x139, e141, h140⟩ := Option.bind_eq_some_iff.mp h137
      clear h137
      refine wp_eald dL_law_397 e141 ?_
      obtain ⟨q142, e144, h143⟩ := Option.bind_eq_some_iff.mp h140
      clear h140
      refine wp_Vi (As := [.int x139]) (S := [.int q136.1]) okM_X8_drop tw902 tw903 tw901 (OX8_drop e144) rfl rfl rfl ⟨(Nat.le_of_ble_eq_true rfl), (Nat.le_of_ble_eq_true rfl)⟩ (Nat.le_of_ble_eq_true rfl) rfl dL_law_398 (MX8_drop e144) ?_
      refine wp_icmp_eq (tgt := 942) dL_law_401 (by decide) (fun c145 => ?_) (fun c145 => ?_)
      · rw [if_pos c145] at h143
        exact WP.wk (BL_law_942 hk0 h143) (And.intro rfl (And.intro rfl (And.intro rfl (And.intro rfl trivial))))
      · rw [if_neg c145] at h143
        refine wp_iconst (v := (0 : Int32)) dL_law_404 (by decide) ?_
        cases h143
        exact wp_zret (x := (0 : Int32)) rfl narrow_b0 dL_law_405
    rw [if_neg c132] at h3
    by_cases c146 : (x2 &&& (31 : Int32)) = (10 : Int32)
    · rw [if_pos c146] at h3
      refine wp_tabIn (off := 374) (tgt := 406) dL_law_32 (by rw [c146]; decide) (by rw [c146]; decide) (by rw [c146]; decide) (by decide) ?_
      refine wp_aload_n dL_law_406 rfl ?_
      obtain ⟨q147, e149, h148⟩ := Option.bind_eq_some_iff.mp h3
      clear h3
      refine wp_Vi (As := []) (S := []) okM_X7_undo tw463 tw464 tw462 (OX7_undo e149) rfl rfl rfl ⟨(Nat.le_of_ble_eq_true rfl), (Nat.le_of_ble_eq_true rfl)⟩ (Nat.le_of_ble_eq_true rfl) rfl dL_law_407 (MX7_undo e149) ?_
      refine wp_aload_n dL_law_410 rfl ?_
      obtain ⟨q150, e152, h151⟩ := Option.bind_eq_some_iff.mp h148
      clear h148
      refine wp_Vi (As := []) (S := [.int q147.1]) okM_X8_undo tw910 tw911 tw909 (OX8_undo e152) rfl rfl rfl ⟨(Nat.le_of_ble_eq_true rfl), (Nat.le_of_ble_eq_true rfl)⟩ (Nat.le_of_ble_eq_true rfl) rfl dL_law_411 (MX8_undo e152) ?_
      refine wp_icmp_eq (tgt := 942) dL_law_414 (by decide) (fun c153 => ?_) (fun c153 => ?_)
      · rw [if_pos c153] at h151
        exact WP.wk (BL_law_942 hk0 h151) (And.intro rfl (And.intro rfl (And.intro rfl (And.intro rfl trivial))))
      · rw [if_neg c153] at h151
        refine wp_iconst (v := (0 : Int32)) dL_law_417 (by decide) ?_
        cases h151
        exact wp_zret (x := (0 : Int32)) rfl narrow_b0 dL_law_418
    rw [if_neg c146] at h3
    by_cases c154 : (x2 &&& (31 : Int32)) = (11 : Int32)
    · rw [if_pos c154] at h3
      refine wp_tabIn (off := 387) (tgt := 419) dL_law_32 (by rw [c154]; decide) (by rw [c154]; decide) (by rw [c154]; decide) (by decide) ?_
      refine wp_aload_n dL_law_419 rfl ?_
      refine wp_xload_n dL_law_420 rfl ?_
      refine wp_iload_n dL_law_421 rfl ?_
      refine wp_iconst (v := (1 : Int32)) dL_law_422 (by decide) ?_
      refine wp_iadd dL_law_423 ?_
      obtain ⟨x155, e157, h156⟩ := Option.bind_eq_some_iff.mp h3
      clear h3
      refine wp_eald dL_law_424 e157 ?_
      refine wp_xload_n dL_law_425 rfl ?_
      refine wp_iload_n dL_law_426 rfl ?_
      refine wp_iconst (v := (2 : Int32)) dL_law_427 (by decide) ?_
      refine wp_iadd dL_law_428 ?_
      obtain ⟨x158, e160, h159⟩ := Option.bind_eq_some_iff.mp h156
      clear h156
      refine wp_eald dL_law_429 e160 ?_
      obtain ⟨q161, e163, h162⟩ := Option.bind_eq_some_iff.mp h159
      clear h159
      refine wp_Vi (As := [.int x155, .int x158]) (S := []) okM_X7_power tw471 tw472 tw470 (OX7_power e163) rfl rfl rfl ⟨(Nat.le_of_ble_eq_true rfl), (Nat.le_of_ble_eq_true rfl)⟩ (Nat.le_of_ble_eq_true rfl) rfl dL_law_430 (MX7_power e163) ?_
      refine wp_aload_n dL_law_433 rfl ?_
      refine wp_xload_n dL_law_434 rfl ?_
      refine wp_iload_n dL_law_435 rfl ?_
      refine wp_iconst (v := (1 : Int32)) dL_law_436 (by decide) ?_
      refine wp_iadd dL_law_437 ?_
      obtain ⟨x164, e166, h165⟩ := Option.bind_eq_some_iff.mp h162
      clear h162
      refine wp_eald dL_law_438 e166 ?_
      refine wp_xload_n dL_law_439 rfl ?_
      refine wp_iload_n dL_law_440 rfl ?_
      refine wp_iconst (v := (2 : Int32)) dL_law_441 (by decide) ?_
      refine wp_iadd dL_law_442 ?_
      obtain ⟨x167, e169, h168⟩ := Option.bind_eq_some_iff.mp h165
      clear h165
      refine wp_eald dL_law_443 e169 ?_
      obtain ⟨q170, e172, h171⟩ := Option.bind_eq_some_iff.mp h168
      clear h168
      refine wp_Vi (As := [.int x164, .int x167]) (S := [.int q161.1]) okM_X8_power tw914 tw915 tw913 (OX8_power e172) rfl rfl rfl ⟨(Nat.le_of_ble_eq_true rfl), (Nat.le_of_ble_eq_true rfl)⟩ (Nat.le_of_ble_eq_true rfl) rfl dL_law_444 (MX8_power e172) ?_
      refine wp_icmp_eq (tgt := 942) dL_law_447 (by decide) (fun c173 => ?_) (fun c173 => ?_)
      · rw [if_pos c173] at h171
        exact WP.wk (BL_law_942 hk0 h171) (And.intro rfl (And.intro rfl (And.intro rfl (And.intro rfl trivial))))
      · rw [if_neg c173] at h171
        refine wp_iconst (v := (0 : Int32)) dL_law_450 (by decide) ?_
        cases h171
        exact wp_zret (x := (0 : Int32)) rfl narrow_b0 dL_law_451
    rw [if_neg c154] at h3
    by_cases c174 : (x2 &&& (31 : Int32)) = (12 : Int32)
    · rw [if_pos c174] at h3
      refine wp_tabIn (off := 420) (tgt := 452) dL_law_32 (by rw [c174]; decide) (by rw [c174]; decide) (by rw [c174]; decide) (by decide) ?_
      refine wp_aload_n dL_law_452 rfl ?_
      refine wp_xload_n dL_law_453 rfl ?_
      refine wp_iload_n dL_law_454 rfl ?_
      refine wp_iconst (v := (1 : Int32)) dL_law_455 (by decide) ?_
      refine wp_iadd dL_law_456 ?_
      obtain ⟨x175, e177, h176⟩ := Option.bind_eq_some_iff.mp h3
      clear h3
      refine wp_eald dL_law_457 e177 ?_
      obtain ⟨q178, e180, h179⟩ := Option.bind_eq_some_iff.mp h176
      clear h176
      refine wp_Vi (As := [.int x175]) (S := []) okM_X7_used tw476 tw477 tw475 (OX7_used e180) rfl rfl rfl ⟨(Nat.le_of_ble_eq_true rfl), (Nat.le_of_ble_eq_true rfl)⟩ (Nat.le_of_ble_eq_true rfl) rfl dL_law_458 (MX7_used e180) ?_
      refine wp_aload_n dL_law_461 rfl ?_
      refine wp_xload_n dL_law_462 rfl ?_
      refine wp_iload_n dL_law_463 rfl ?_
      refine wp_iconst (v := (1 : Int32)) dL_law_464 (by decide) ?_
      refine wp_iadd dL_law_465 ?_
      obtain ⟨x181, e183, h182⟩ := Option.bind_eq_some_iff.mp h179
      clear h179
      refine wp_eald dL_law_466 e183 ?_
      obtain ⟨q184, e186, h185⟩ := Option.bind_eq_some_iff.mp h182
      clear h182
      refine wp_Vi (As := [.int x181]) (S := [.int q178.1]) okM_X8_used tw923 tw924 tw922 (OX8_used e186) rfl rfl rfl ⟨(Nat.le_of_ble_eq_true rfl), (Nat.le_of_ble_eq_true rfl)⟩ (Nat.le_of_ble_eq_true rfl) rfl dL_law_467 (MX8_used e186) ?_
      refine wp_icmp_eq (tgt := 942) dL_law_470 (by decide) (fun c187 => ?_) (fun c187 => ?_)
      · rw [if_pos c187] at h185
        exact WP.wk (BL_law_942 hk0 h185) (And.intro rfl (And.intro rfl (And.intro rfl (And.intro rfl trivial))))
      · rw [if_neg c187] at h185
        refine wp_iconst (v := (0 : Int32)) dL_law_473 (by decide) ?_
        cases h185
        exact wp_zret (x := (0 : Int32)) rfl narrow_b0 dL_law_474
    rw [if_neg c174] at h3
    by_cases c188 : (x2 &&& (31 : Int32)) = (13 : Int32)
    · rw [if_pos c188] at h3
      refine wp_tabIn (off := 443) (tgt := 475) dL_law_32 (by rw [c188]; decide) (by rw [c188]; decide) (by rw [c188]; decide) (by decide) ?_
      refine wp_aload_n dL_law_475 rfl ?_
      obtain ⟨q189, e191, h190⟩ := Option.bind_eq_some_iff.mp h3
      clear h3
      refine wp_Vi (As := []) (S := []) okM_X7_rests tw481 tw482 tw480 (OX7_rests e191) rfl rfl rfl ⟨(Nat.le_of_ble_eq_true rfl), (Nat.le_of_ble_eq_true rfl)⟩ (Nat.le_of_ble_eq_true rfl) rfl dL_law_476 (MX7_rests e191) ?_
      refine wp_aload_n dL_law_479 rfl ?_
      obtain ⟨q192, e194, h193⟩ := Option.bind_eq_some_iff.mp h190
      clear h190
      refine wp_Vi (As := []) (S := [.int q189.1]) okM_X8_rests tw927 tw928 tw926 (OX8_rests e194) rfl rfl rfl ⟨(Nat.le_of_ble_eq_true rfl), (Nat.le_of_ble_eq_true rfl)⟩ (Nat.le_of_ble_eq_true rfl) rfl dL_law_480 (MX8_rests e194) ?_
      refine wp_icmp_eq (tgt := 942) dL_law_483 (by decide) (fun c195 => ?_) (fun c195 => ?_)
      · rw [if_pos c195] at h193
        exact WP.wk (BL_law_942 hk0 h193) (And.intro rfl (And.intro rfl (And.intro rfl (And.intro rfl trivial))))
      · rw [if_neg c195] at h193
        refine wp_iconst (v := (0 : Int32)) dL_law_486 (by decide) ?_
        cases h193
        exact wp_zret (x := (0 : Int32)) rfl narrow_b0 dL_law_487
    rw [if_neg c188] at h3
    by_cases c196 : (x2 &&& (31 : Int32)) = (14 : Int32)
    · rw [if_pos c196] at h3
      refine wp_tabIn (off := 456) (tgt := 488) dL_law_32 (by rw [c196]; decide) (by rw [c196]; decide) (by rw [c196]; decide) (by decide) ?_
      refine wp_aload_n dL_law_488 rfl ?_
      refine wp_xload_n dL_law_489 rfl ?_
      refine wp_iload_n dL_law_490 rfl ?_
      refine wp_iconst (v := (1 : Int32)) dL_law_491 (by decide) ?_
      refine wp_iadd dL_law_492 ?_
      obtain ⟨x197, e199, h198⟩ := Option.bind_eq_some_iff.mp h3
      clear h3
      refine wp_eald dL_law_493 e199 ?_
      obtain ⟨q200, e202, h201⟩ := Option.bind_eq_some_iff.mp h198
      clear h198
      refine wp_Vi (As := [.int x197]) (S := []) okM_X7_round tw491 tw492 tw490 (OX7_round e202) rfl rfl rfl ⟨(Nat.le_of_ble_eq_true rfl), (Nat.le_of_ble_eq_true rfl)⟩ (Nat.le_of_ble_eq_true rfl) rfl dL_law_494 (MX7_round e202) ?_
      refine wp_aload_n dL_law_497 rfl ?_
      refine wp_xload_n dL_law_498 rfl ?_
      refine wp_iload_n dL_law_499 rfl ?_
      refine wp_iconst (v := (1 : Int32)) dL_law_500 (by decide) ?_
      refine wp_iadd dL_law_501 ?_
      obtain ⟨x203, e205, h204⟩ := Option.bind_eq_some_iff.mp h201
      clear h201
      refine wp_eald dL_law_502 e205 ?_
      obtain ⟨q206, e208, h207⟩ := Option.bind_eq_some_iff.mp h204
      clear h204
      refine wp_Vi (As := [.int x203]) (S := [.int q200.1]) okM_X8_round tw935 tw936 tw934 (OX8_round e208) rfl rfl rfl ⟨(Nat.le_of_ble_eq_true rfl), (Nat.le_of_ble_eq_true rfl)⟩ (Nat.le_of_ble_eq_true rfl) rfl dL_law_503 (MX8_round e208) ?_
      refine wp_icmp_eq (tgt := 942) dL_law_506 (by decide) (fun c209 => ?_) (fun c209 => ?_)
      · rw [if_pos c209] at h207
        exact WP.wk (BL_law_942 hk0 h207) (And.intro rfl (And.intro rfl (And.intro rfl (And.intro rfl trivial))))
      · rw [if_neg c209] at h207
        refine wp_iconst (v := (0 : Int32)) dL_law_509 (by decide) ?_
        cases h207
        exact wp_zret (x := (0 : Int32)) rfl narrow_b0 dL_law_510
    rw [if_neg c196] at h3
    by_cases c210 : (x2 &&& (31 : Int32)) = (15 : Int32)
    · rw [if_pos c210] at h3
      refine wp_tabIn (off := 479) (tgt := 511) dL_law_32 (by rw [c210]; decide) (by rw [c210]; decide) (by rw [c210]; decide) (by decide) ?_
      refine wp_aload_n dL_law_511 rfl ?_
      refine wp_xload_n dL_law_512 rfl ?_
      refine wp_iload_n dL_law_513 rfl ?_
      refine wp_iconst (v := (1 : Int32)) dL_law_514 (by decide) ?_
      refine wp_iadd dL_law_515 ?_
      obtain ⟨x211, e213, h212⟩ := Option.bind_eq_some_iff.mp h3
      clear h3
      refine wp_eald dL_law_516 e213 ?_
      obtain ⟨q214, e216, h215⟩ := Option.bind_eq_some_iff.mp h212
      clear h212
      refine wp_Vi (As := [.int x211]) (S := []) okM_X7_greatest tw517 tw518 tw516 (OX7_greatest e216) rfl rfl rfl ⟨(Nat.le_of_ble_eq_true rfl), (Nat.le_of_ble_eq_true rfl)⟩ (Nat.le_of_ble_eq_true rfl) rfl dL_law_517 (MX7_greatest e216) ?_
      refine wp_aload_n dL_law_520 rfl ?_
      refine wp_xload_n dL_law_521 rfl ?_
      refine wp_iload_n dL_law_522 rfl ?_
      refine wp_iconst (v := (1 : Int32)) dL_law_523 (by decide) ?_
      refine wp_iadd dL_law_524 ?_
      obtain ⟨x217, e219, h218⟩ := Option.bind_eq_some_iff.mp h215
      clear h215
      refine wp_eald dL_law_525 e219 ?_
      obtain ⟨q220, e222, h221⟩ := Option.bind_eq_some_iff.mp h218
      clear h218
      refine wp_Vi (As := [.int x217]) (S := [.int q214.1]) okM_X8_greatest tw944 tw945 tw943 (OX8_greatest e222) rfl rfl rfl ⟨(Nat.le_of_ble_eq_true rfl), (Nat.le_of_ble_eq_true rfl)⟩ (Nat.le_of_ble_eq_true rfl) rfl dL_law_526 (MX8_greatest e222) ?_
      refine wp_icmp_eq (tgt := 942) dL_law_529 (by decide) (fun c223 => ?_) (fun c223 => ?_)
      · rw [if_pos c223] at h221
        exact WP.wk (BL_law_942 hk0 h221) (And.intro rfl (And.intro rfl (And.intro rfl (And.intro rfl trivial))))
      · rw [if_neg c223] at h221
        refine wp_iconst (v := (0 : Int32)) dL_law_532 (by decide) ?_
        cases h221
        exact wp_zret (x := (0 : Int32)) rfl narrow_b0 dL_law_533
    rw [if_neg c210] at h3
    by_cases c224 : (x2 &&& (31 : Int32)) = (16 : Int32)
    · rw [if_pos c224] at h3
      refine wp_tabIn (off := 502) (tgt := 534) dL_law_32 (by rw [c224]; decide) (by rw [c224]; decide) (by rw [c224]; decide) (by decide) ?_
      refine wp_aload_n dL_law_534 rfl ?_
      refine wp_xload_n dL_law_535 rfl ?_
      refine wp_iload_n dL_law_536 rfl ?_
      refine wp_iconst (v := (1 : Int32)) dL_law_537 (by decide) ?_
      refine wp_iadd dL_law_538 ?_
      obtain ⟨x225, e227, h226⟩ := Option.bind_eq_some_iff.mp h3
      clear h3
      refine wp_eald dL_law_539 e227 ?_
      obtain ⟨q228, e230, h229⟩ := Option.bind_eq_some_iff.mp h226
      clear h226
      refine wp_Vi (As := [.int x225]) (S := []) okM_X7_often tw522 tw523 tw521 (OX7_often e230) rfl rfl rfl ⟨(Nat.le_of_ble_eq_true rfl), (Nat.le_of_ble_eq_true rfl)⟩ (Nat.le_of_ble_eq_true rfl) rfl dL_law_540 (MX7_often e230) ?_
      refine wp_aload_n dL_law_543 rfl ?_
      refine wp_xload_n dL_law_544 rfl ?_
      refine wp_iload_n dL_law_545 rfl ?_
      refine wp_iconst (v := (1 : Int32)) dL_law_546 (by decide) ?_
      refine wp_iadd dL_law_547 ?_
      obtain ⟨x231, e233, h232⟩ := Option.bind_eq_some_iff.mp h229
      clear h229
      refine wp_eald dL_law_548 e233 ?_
      obtain ⟨q234, e236, h235⟩ := Option.bind_eq_some_iff.mp h232
      clear h232
      refine wp_Vi (As := [.int x231]) (S := [.int q228.1]) okM_X8_often tw951 tw952 tw950 (OX8_often e236) rfl rfl rfl ⟨(Nat.le_of_ble_eq_true rfl), (Nat.le_of_ble_eq_true rfl)⟩ (Nat.le_of_ble_eq_true rfl) rfl dL_law_549 (MX8_often e236) ?_
      refine wp_icmp_eq (tgt := 942) dL_law_552 (by decide) (fun c237 => ?_) (fun c237 => ?_)
      · rw [if_pos c237] at h235
        exact WP.wk (BL_law_942 hk0 h235) (And.intro rfl (And.intro rfl (And.intro rfl (And.intro rfl trivial))))
      · rw [if_neg c237] at h235
        refine wp_iconst (v := (0 : Int32)) dL_law_555 (by decide) ?_
        cases h235
        exact wp_zret (x := (0 : Int32)) rfl narrow_b0 dL_law_556
    rw [if_neg c224] at h3
    by_cases c238 : (x2 &&& (31 : Int32)) = (17 : Int32)
    · rw [if_pos c238] at h3
      refine wp_tabIn (off := 525) (tgt := 557) dL_law_32 (by rw [c238]; decide) (by rw [c238]; decide) (by rw [c238]; decide) (by decide) ?_
      refine wp_aload_n dL_law_557 rfl ?_
      obtain ⟨q239, e241, h240⟩ := Option.bind_eq_some_iff.mp h3
      clear h3
      refine wp_Vi (As := []) (S := []) okM_X7_needed tw526 tw527 tw525 (OX7_needed e241) rfl rfl rfl ⟨(Nat.le_of_ble_eq_true rfl), (Nat.le_of_ble_eq_true rfl)⟩ (Nat.le_of_ble_eq_true rfl) rfl dL_law_558 (MX7_needed e241) ?_
      refine wp_aload_n dL_law_561 rfl ?_
      obtain ⟨q242, e244, h243⟩ := Option.bind_eq_some_iff.mp h240
      clear h240
      refine wp_Vi (As := []) (S := [.int q239.1]) okM_X8_needed tw955 tw956 tw954 (OX8_needed e244) rfl rfl rfl ⟨(Nat.le_of_ble_eq_true rfl), (Nat.le_of_ble_eq_true rfl)⟩ (Nat.le_of_ble_eq_true rfl) rfl dL_law_562 (MX8_needed e244) ?_
      refine wp_icmp_eq (tgt := 942) dL_law_565 (by decide) (fun c245 => ?_) (fun c245 => ?_)
      · rw [if_pos c245] at h243
        exact WP.wk (BL_law_942 hk0 h243) (And.intro rfl (And.intro rfl (And.intro rfl (And.intro rfl trivial))))
      · rw [if_neg c245] at h243
        refine wp_iconst (v := (0 : Int32)) dL_law_568 (by decide) ?_
        cases h243
        exact wp_zret (x := (0 : Int32)) rfl narrow_b0 dL_law_569
    rw [if_neg c238] at h3
    by_cases c246 : (x2 &&& (31 : Int32)) = (18 : Int32)
    · rw [if_pos c246] at h3
      refine wp_tabIn (off := 538) (tgt := 570) dL_law_32 (by rw [c246]; decide) (by rw [c246]; decide) (by rw [c246]; decide) (by decide) ?_
      refine wp_aload_n dL_law_570 rfl ?_
      refine wp_xload_n dL_law_571 rfl ?_
      refine wp_iload_n dL_law_572 rfl ?_
      refine wp_iconst (v := (1 : Int32)) dL_law_573 (by decide) ?_
      refine wp_iadd dL_law_574 ?_
      obtain ⟨x247, e249, h248⟩ := Option.bind_eq_some_iff.mp h3
      clear h3
      refine wp_eald dL_law_575 e249 ?_
      obtain ⟨q250, e252, h251⟩ := Option.bind_eq_some_iff.mp h248
      clear h248
      refine wp_Vi (As := [.int x247]) (S := []) okM_X7_order tw534 tw535 tw533 (OX7_order e252) rfl rfl rfl ⟨(Nat.le_of_ble_eq_true rfl), (Nat.le_of_ble_eq_true rfl)⟩ (Nat.le_of_ble_eq_true rfl) rfl dL_law_576 (MX7_order e252) ?_
      refine wp_aload_n dL_law_579 rfl ?_
      refine wp_xload_n dL_law_580 rfl ?_
      refine wp_iload_n dL_law_581 rfl ?_
      refine wp_iconst (v := (1 : Int32)) dL_law_582 (by decide) ?_
      refine wp_iadd dL_law_583 ?_
      obtain ⟨x253, e255, h254⟩ := Option.bind_eq_some_iff.mp h251
      clear h251
      refine wp_eald dL_law_584 e255 ?_
      obtain ⟨q256, e258, h257⟩ := Option.bind_eq_some_iff.mp h254
      clear h254
      refine wp_Vi (As := [.int x253]) (S := [.int q250.1]) okM_X8_order tw959 tw960 tw958 (OX8_order e258) rfl rfl rfl ⟨(Nat.le_of_ble_eq_true rfl), (Nat.le_of_ble_eq_true rfl)⟩ (Nat.le_of_ble_eq_true rfl) rfl dL_law_585 (MX8_order e258) ?_
      refine wp_icmp_eq (tgt := 942) dL_law_588 (by decide) (fun c259 => ?_) (fun c259 => ?_)
      · rw [if_pos c259] at h257
        exact WP.wk (BL_law_942 hk0 h257) (And.intro rfl (And.intro rfl (And.intro rfl (And.intro rfl trivial))))
      · rw [if_neg c259] at h257
        refine wp_iconst (v := (0 : Int32)) dL_law_591 (by decide) ?_
        cases h257
        exact wp_zret (x := (0 : Int32)) rfl narrow_b0 dL_law_592
    rw [if_neg c246] at h3
    by_cases c260 : (x2 &&& (31 : Int32)) = (19 : Int32)
    · rw [if_pos c260] at h3
      refine wp_tabIn (off := 561) (tgt := 593) dL_law_32 (by rw [c260]; decide) (by rw [c260]; decide) (by rw [c260]; decide) (by decide) ?_
      refine wp_aload_n dL_law_593 rfl ?_
      refine wp_xload_n dL_law_594 rfl ?_
      refine wp_iload_n dL_law_595 rfl ?_
      refine wp_iconst (v := (1 : Int32)) dL_law_596 (by decide) ?_
      refine wp_iadd dL_law_597 ?_
      obtain ⟨x261, e263, h262⟩ := Option.bind_eq_some_iff.mp h3
      clear h3
      refine wp_eald dL_law_598 e263 ?_
      refine wp_xload_n dL_law_599 rfl ?_
      refine wp_iload_n dL_law_600 rfl ?_
      refine wp_iconst (v := (2 : Int32)) dL_law_601 (by decide) ?_
      refine wp_iadd dL_law_602 ?_
      obtain ⟨x264, e266, h265⟩ := Option.bind_eq_some_iff.mp h262
      clear h262
      refine wp_eald dL_law_603 e266 ?_
      obtain ⟨q267, e269, h268⟩ := Option.bind_eq_some_iff.mp h265
      clear h265
      refine wp_Vi (As := [.int x261, .int x264]) (S := []) okM_X7_map tw555 tw556 tw554 (OX7_map e269) rfl rfl rfl ⟨(Nat.le_of_ble_eq_true rfl), (Nat.le_of_ble_eq_true rfl)⟩ (Nat.le_of_ble_eq_true rfl) rfl dL_law_604 (MX7_map e269) ?_
      refine wp_aload_n dL_law_607 rfl ?_
      refine wp_xload_n dL_law_608 rfl ?_
      refine wp_iload_n dL_law_609 rfl ?_
      refine wp_iconst (v := (1 : Int32)) dL_law_610 (by decide) ?_
      refine wp_iadd dL_law_611 ?_
      obtain ⟨x270, e272, h271⟩ := Option.bind_eq_some_iff.mp h268
      clear h268
      refine wp_eald dL_law_612 e272 ?_
      refine wp_xload_n dL_law_613 rfl ?_
      refine wp_iload_n dL_law_614 rfl ?_
      refine wp_iconst (v := (2 : Int32)) dL_law_615 (by decide) ?_
      refine wp_iadd dL_law_616 ?_
      obtain ⟨x273, e275, h274⟩ := Option.bind_eq_some_iff.mp h271
      clear h271
      refine wp_eald dL_law_617 e275 ?_
      obtain ⟨q276, e278, h277⟩ := Option.bind_eq_some_iff.mp h274
      clear h274
      refine wp_Vi (As := [.int x270, .int x273]) (S := [.int q267.1]) okM_X8_map tw969 tw970 tw968 (OX8_map e278) rfl rfl rfl ⟨(Nat.le_of_ble_eq_true rfl), (Nat.le_of_ble_eq_true rfl)⟩ (Nat.le_of_ble_eq_true rfl) rfl dL_law_618 (MX8_map e278) ?_
      refine wp_icmp_eq (tgt := 942) dL_law_621 (by decide) (fun c279 => ?_) (fun c279 => ?_)
      · rw [if_pos c279] at h277
        exact WP.wk (BL_law_942 hk0 h277) (And.intro rfl (And.intro rfl (And.intro rfl (And.intro rfl trivial))))
      · rw [if_neg c279] at h277
        refine wp_iconst (v := (0 : Int32)) dL_law_624 (by decide) ?_
        cases h277
        exact wp_zret (x := (0 : Int32)) rfl narrow_b0 dL_law_625
    rw [if_neg c260] at h3
    by_cases c280 : (x2 &&& (31 : Int32)) = (20 : Int32)
    · rw [if_pos c280] at h3
      refine wp_tabIn (off := 594) (tgt := 626) dL_law_32 (by rw [c280]; decide) (by rw [c280]; decide) (by rw [c280]; decide) (by decide) ?_
      refine wp_aload_n dL_law_626 rfl ?_
      refine wp_xload_n dL_law_627 rfl ?_
      refine wp_iload_n dL_law_628 rfl ?_
      refine wp_iconst (v := (1 : Int32)) dL_law_629 (by decide) ?_
      refine wp_iadd dL_law_630 ?_
      obtain ⟨x281, e283, h282⟩ := Option.bind_eq_some_iff.mp h3
      clear h3
      refine wp_eald dL_law_631 e283 ?_
      refine wp_xload_n dL_law_632 rfl ?_
      refine wp_iload_n dL_law_633 rfl ?_
      refine wp_iconst (v := (2 : Int32)) dL_law_634 (by decide) ?_
      refine wp_iadd dL_law_635 ?_
      obtain ⟨x284, e286, h285⟩ := Option.bind_eq_some_iff.mp h282
      clear h282
      refine wp_eald dL_law_636 e286 ?_
      refine wp_xload_n dL_law_637 rfl ?_
      refine wp_iload_n dL_law_638 rfl ?_
      refine wp_iconst (v := (3 : Int32)) dL_law_639 (by decide) ?_
      refine wp_iadd dL_law_640 ?_
      obtain ⟨x287, e289, h288⟩ := Option.bind_eq_some_iff.mp h285
      clear h285
      refine wp_eald dL_law_641 e289 ?_
      obtain ⟨q290, e292, h291⟩ := Option.bind_eq_some_iff.mp h288
      clear h288
      refine wp_Vi (As := [.int x281, .int x284, .int x287]) (S := []) okM_X7_sources tw567 tw568 tw566 (OX7_sources e292) rfl rfl rfl ⟨(Nat.le_of_ble_eq_true rfl), (Nat.le_of_ble_eq_true rfl)⟩ (Nat.le_of_ble_eq_true rfl) rfl dL_law_642 (MX7_sources e292) ?_
      refine wp_aload_n dL_law_645 rfl ?_
      refine wp_xload_n dL_law_646 rfl ?_
      refine wp_iload_n dL_law_647 rfl ?_
      refine wp_iconst (v := (1 : Int32)) dL_law_648 (by decide) ?_
      refine wp_iadd dL_law_649 ?_
      obtain ⟨x293, e295, h294⟩ := Option.bind_eq_some_iff.mp h291
      clear h291
      refine wp_eald dL_law_650 e295 ?_
      refine wp_xload_n dL_law_651 rfl ?_
      refine wp_iload_n dL_law_652 rfl ?_
      refine wp_iconst (v := (2 : Int32)) dL_law_653 (by decide) ?_
      refine wp_iadd dL_law_654 ?_
      obtain ⟨x296, e298, h297⟩ := Option.bind_eq_some_iff.mp h294
      clear h294
      refine wp_eald dL_law_655 e298 ?_
      refine wp_xload_n dL_law_656 rfl ?_
      refine wp_iload_n dL_law_657 rfl ?_
      refine wp_iconst (v := (3 : Int32)) dL_law_658 (by decide) ?_
      refine wp_iadd dL_law_659 ?_
      obtain ⟨x299, e301, h300⟩ := Option.bind_eq_some_iff.mp h297
      clear h297
      refine wp_eald dL_law_660 e301 ?_
      obtain ⟨q302, e304, h303⟩ := Option.bind_eq_some_iff.mp h300
      clear h300
      refine wp_Vi (As := [.int x293, .int x296, .int x299]) (S := [.int q290.1]) okM_X8_sources tw978 tw979 tw977 (OX8_sources e304) rfl rfl rfl ⟨(Nat.le_of_ble_eq_true rfl), (Nat.le_of_ble_eq_true rfl)⟩ (Nat.le_of_ble_eq_true rfl) rfl dL_law_661 (MX8_sources e304) ?_
      refine wp_icmp_eq (tgt := 942) dL_law_664 (by decide) (fun c305 => ?_) (fun c305 => ?_)
      · rw [if_pos c305] at h303
        exact WP.wk (BL_law_942 hk0 h303) (And.intro rfl (And.intro rfl (And.intro rfl (And.intro rfl trivial))))
      · rw [if_neg c305] at h303
        refine wp_iconst (v := (0 : Int32)) dL_law_667 (by decide) ?_
        cases h303
        exact wp_zret (x := (0 : Int32)) rfl narrow_b0 dL_law_668
    rw [if_neg c280] at h3
    by_cases c306 : (x2 &&& (31 : Int32)) = (21 : Int32)
    · rw [if_pos c306] at h3
      refine wp_tabIn (off := 637) (tgt := 669) dL_law_32 (by rw [c306]; decide) (by rw [c306]; decide) (by rw [c306]; decide) (by decide) ?_
      refine wp_aload_n dL_law_669 rfl ?_
      obtain ⟨q307, e309, h308⟩ := Option.bind_eq_some_iff.mp h3
      clear h3
      refine wp_Vi (As := []) (S := []) okM_X7_whence tw571 tw572 tw570 (OX7_whence e309) rfl rfl rfl ⟨(Nat.le_of_ble_eq_true rfl), (Nat.le_of_ble_eq_true rfl)⟩ (Nat.le_of_ble_eq_true rfl) rfl dL_law_670 (MX7_whence e309) ?_
      refine wp_aload_n dL_law_673 rfl ?_
      obtain ⟨q310, e312, h311⟩ := Option.bind_eq_some_iff.mp h308
      clear h308
      refine wp_Vi (As := []) (S := [.int q307.1]) okM_X8_whence tw982 tw983 tw981 (OX8_whence e312) rfl rfl rfl ⟨(Nat.le_of_ble_eq_true rfl), (Nat.le_of_ble_eq_true rfl)⟩ (Nat.le_of_ble_eq_true rfl) rfl dL_law_674 (MX8_whence e312) ?_
      refine wp_icmp_eq (tgt := 942) dL_law_677 (by decide) (fun c313 => ?_) (fun c313 => ?_)
      · rw [if_pos c313] at h311
        exact WP.wk (BL_law_942 hk0 h311) (And.intro rfl (And.intro rfl (And.intro rfl (And.intro rfl trivial))))
      · rw [if_neg c313] at h311
        refine wp_iconst (v := (0 : Int32)) dL_law_680 (by decide) ?_
        cases h311
        exact wp_zret (x := (0 : Int32)) rfl narrow_b0 dL_law_681
    rw [if_neg c306] at h3
    by_cases c314 : (x2 &&& (31 : Int32)) = (22 : Int32)
    · rw [if_pos c314] at h3
      refine wp_tabIn (off := 650) (tgt := 682) dL_law_32 (by rw [c314]; decide) (by rw [c314]; decide) (by rw [c314]; decide) (by decide) ?_
      refine wp_aload_n dL_law_682 rfl ?_
      refine wp_xload_n dL_law_683 rfl ?_
      refine wp_iload_n dL_law_684 rfl ?_
      refine wp_iconst (v := (1 : Int32)) dL_law_685 (by decide) ?_
      refine wp_iadd dL_law_686 ?_
      obtain ⟨x315, e317, h316⟩ := Option.bind_eq_some_iff.mp h3
      clear h3
      refine wp_eald dL_law_687 e317 ?_
      refine wp_xload_n dL_law_688 rfl ?_
      refine wp_iload_n dL_law_689 rfl ?_
      refine wp_iconst (v := (2 : Int32)) dL_law_690 (by decide) ?_
      refine wp_iadd dL_law_691 ?_
      obtain ⟨x318, e320, h319⟩ := Option.bind_eq_some_iff.mp h316
      clear h316
      refine wp_eald dL_law_692 e320 ?_
      obtain ⟨q321, e323, h322⟩ := Option.bind_eq_some_iff.mp h319
      clear h319
      refine wp_Vi (As := [.int x315, .int x318]) (S := []) okM_X7_see tw583 tw584 tw582 (OX7_see e323) rfl rfl rfl ⟨(Nat.le_of_ble_eq_true rfl), (Nat.le_of_ble_eq_true rfl)⟩ (Nat.le_of_ble_eq_true rfl) rfl dL_law_693 (MX7_see e323) ?_
      refine wp_aload_n dL_law_696 rfl ?_
      refine wp_xload_n dL_law_697 rfl ?_
      refine wp_iload_n dL_law_698 rfl ?_
      refine wp_iconst (v := (1 : Int32)) dL_law_699 (by decide) ?_
      refine wp_iadd dL_law_700 ?_
      obtain ⟨x324, e326, h325⟩ := Option.bind_eq_some_iff.mp h322
      clear h322
      refine wp_eald dL_law_701 e326 ?_
      refine wp_xload_n dL_law_702 rfl ?_
      refine wp_iload_n dL_law_703 rfl ?_
      refine wp_iconst (v := (2 : Int32)) dL_law_704 (by decide) ?_
      refine wp_iadd dL_law_705 ?_
      obtain ⟨x327, e329, h328⟩ := Option.bind_eq_some_iff.mp h325
      clear h325
      refine wp_eald dL_law_706 e329 ?_
      obtain ⟨q330, e332, h331⟩ := Option.bind_eq_some_iff.mp h328
      clear h328
      refine wp_Vi (As := [.int x324, .int x327]) (S := [.int q321.1]) okM_X8_see tw990 tw991 tw989 (OX8_see e332) rfl rfl rfl ⟨(Nat.le_of_ble_eq_true rfl), (Nat.le_of_ble_eq_true rfl)⟩ (Nat.le_of_ble_eq_true rfl) rfl dL_law_707 (MX8_see e332) ?_
      refine wp_icmp_eq (tgt := 942) dL_law_710 (by decide) (fun c333 => ?_) (fun c333 => ?_)
      · rw [if_pos c333] at h331
        exact WP.wk (BL_law_942 hk0 h331) (And.intro rfl (And.intro rfl (And.intro rfl (And.intro rfl trivial))))
      · rw [if_neg c333] at h331
        refine wp_iconst (v := (0 : Int32)) dL_law_713 (by decide) ?_
        cases h331
        exact wp_zret (x := (0 : Int32)) rfl narrow_b0 dL_law_714
    rw [if_neg c314] at h3
    by_cases c334 : (x2 &&& (31 : Int32)) = (23 : Int32)
    · rw [if_pos c334] at h3
      refine wp_tabIn (off := 683) (tgt := 715) dL_law_32 (by rw [c334]; decide) (by rw [c334]; decide) (by rw [c334]; decide) (by decide) ?_
      refine wp_aload_n dL_law_715 rfl ?_
      obtain ⟨q335, e337, h336⟩ := Option.bind_eq_some_iff.mp h3
      clear h3
      refine wp_Vi (As := []) (S := []) okM_X7_forget tw587 tw588 tw586 (OX7_forget e337) rfl rfl rfl ⟨(Nat.le_of_ble_eq_true rfl), (Nat.le_of_ble_eq_true rfl)⟩ (Nat.le_of_ble_eq_true rfl) rfl dL_law_716 (MX7_forget e337) ?_
      refine wp_aload_n dL_law_719 rfl ?_
      obtain ⟨q338, e340, h339⟩ := Option.bind_eq_some_iff.mp h336
      clear h336
      refine wp_Vi (As := []) (S := [.int q335.1]) okM_X8_forget tw999 tw1000 tw998 (OX8_forget e340) rfl rfl rfl ⟨(Nat.le_of_ble_eq_true rfl), (Nat.le_of_ble_eq_true rfl)⟩ (Nat.le_of_ble_eq_true rfl) rfl dL_law_720 (MX8_forget e340) ?_
      refine wp_icmp_eq (tgt := 942) dL_law_723 (by decide) (fun c341 => ?_) (fun c341 => ?_)
      · rw [if_pos c341] at h339
        exact WP.wk (BL_law_942 hk0 h339) (And.intro rfl (And.intro rfl (And.intro rfl (And.intro rfl trivial))))
      · rw [if_neg c341] at h339
        refine wp_iconst (v := (0 : Int32)) dL_law_726 (by decide) ?_
        cases h339
        exact wp_zret (x := (0 : Int32)) rfl narrow_b0 dL_law_727
    rw [if_neg c334] at h3
    by_cases c342 : (x2 &&& (31 : Int32)) = (24 : Int32)
    · rw [if_pos c342] at h3
      refine wp_tabIn (off := 696) (tgt := 728) dL_law_32 (by rw [c342]; decide) (by rw [c342]; decide) (by rw [c342]; decide) (by decide) ?_
      refine wp_aload_n dL_law_728 rfl ?_
      refine wp_xload_n dL_law_729 rfl ?_
      refine wp_iload_n dL_law_730 rfl ?_
      refine wp_iconst (v := (1 : Int32)) dL_law_731 (by decide) ?_
      refine wp_iadd dL_law_732 ?_
      obtain ⟨x343, e345, h344⟩ := Option.bind_eq_some_iff.mp h3
      clear h3
      refine wp_eald dL_law_733 e345 ?_
      obtain ⟨q346, e348, h347⟩ := Option.bind_eq_some_iff.mp h344
      clear h344
      refine wp_Vi (As := [.int x343]) (S := []) okM_X7_kinds tw591 tw592 tw590 (OX7_kinds e348) rfl rfl rfl ⟨(Nat.le_of_ble_eq_true rfl), (Nat.le_of_ble_eq_true rfl)⟩ (Nat.le_of_ble_eq_true rfl) rfl dL_law_734 (MX7_kinds e348) ?_
      refine wp_aload_n dL_law_737 rfl ?_
      refine wp_xload_n dL_law_738 rfl ?_
      refine wp_iload_n dL_law_739 rfl ?_
      refine wp_iconst (v := (1 : Int32)) dL_law_740 (by decide) ?_
      refine wp_iadd dL_law_741 ?_
      obtain ⟨x349, e351, h350⟩ := Option.bind_eq_some_iff.mp h347
      clear h347
      refine wp_eald dL_law_742 e351 ?_
      obtain ⟨q352, e354, h353⟩ := Option.bind_eq_some_iff.mp h350
      clear h350
      refine wp_Vi (As := [.int x349]) (S := [.int q346.1]) okM_X8_kinds tw1003 tw1004 tw1002 (OX8_kinds e354) rfl rfl rfl ⟨(Nat.le_of_ble_eq_true rfl), (Nat.le_of_ble_eq_true rfl)⟩ (Nat.le_of_ble_eq_true rfl) rfl dL_law_743 (MX8_kinds e354) ?_
      refine wp_icmp_eq (tgt := 942) dL_law_746 (by decide) (fun c355 => ?_) (fun c355 => ?_)
      · rw [if_pos c355] at h353
        exact WP.wk (BL_law_942 hk0 h353) (And.intro rfl (And.intro rfl (And.intro rfl (And.intro rfl trivial))))
      · rw [if_neg c355] at h353
        refine wp_iconst (v := (0 : Int32)) dL_law_749 (by decide) ?_
        cases h353
        exact wp_zret (x := (0 : Int32)) rfl narrow_b0 dL_law_750
    rw [if_neg c342] at h3
    by_cases c356 : (x2 &&& (31 : Int32)) = (25 : Int32)
    · rw [if_pos c356] at h3
      refine wp_tabIn (off := 719) (tgt := 751) dL_law_32 (by rw [c356]; decide) (by rw [c356]; decide) (by rw [c356]; decide) (by decide) ?_
      refine wp_aload_n dL_law_751 rfl ?_
      refine wp_xload_n dL_law_752 rfl ?_
      refine wp_iload_n dL_law_753 rfl ?_
      refine wp_iconst (v := (1 : Int32)) dL_law_754 (by decide) ?_
      refine wp_iadd dL_law_755 ?_
      obtain ⟨x357, e359, h358⟩ := Option.bind_eq_some_iff.mp h3
      clear h3
      refine wp_eald dL_law_756 e359 ?_
      refine wp_xload_n dL_law_757 rfl ?_
      refine wp_iload_n dL_law_758 rfl ?_
      refine wp_iconst (v := (2 : Int32)) dL_law_759 (by decide) ?_
      refine wp_iadd dL_law_760 ?_
      obtain ⟨x360, e362, h361⟩ := Option.bind_eq_some_iff.mp h358
      clear h358
      refine wp_eald dL_law_761 e362 ?_
      obtain ⟨q363, e365, h364⟩ := Option.bind_eq_some_iff.mp h361
      clear h361
      refine wp_Vi (As := [.int x357, .int x360]) (S := []) okM_X7_look tw606 tw607 tw605 (OX7_look e365) rfl rfl rfl ⟨(Nat.le_of_ble_eq_true rfl), (Nat.le_of_ble_eq_true rfl)⟩ (Nat.le_of_ble_eq_true rfl) rfl dL_law_762 (MX7_look e365) ?_
      refine wp_aload_n dL_law_765 rfl ?_
      refine wp_xload_n dL_law_766 rfl ?_
      refine wp_iload_n dL_law_767 rfl ?_
      refine wp_iconst (v := (1 : Int32)) dL_law_768 (by decide) ?_
      refine wp_iadd dL_law_769 ?_
      obtain ⟨x366, e368, h367⟩ := Option.bind_eq_some_iff.mp h364
      clear h364
      refine wp_eald dL_law_770 e368 ?_
      refine wp_xload_n dL_law_771 rfl ?_
      refine wp_iload_n dL_law_772 rfl ?_
      refine wp_iconst (v := (2 : Int32)) dL_law_773 (by decide) ?_
      refine wp_iadd dL_law_774 ?_
      obtain ⟨x369, e371, h370⟩ := Option.bind_eq_some_iff.mp h367
      clear h367
      refine wp_eald dL_law_775 e371 ?_
      obtain ⟨q372, e374, h373⟩ := Option.bind_eq_some_iff.mp h370
      clear h370
      refine wp_Vi (As := [.int x366, .int x369]) (S := [.int q363.1]) okM_X8_look tw1015 tw1016 tw1014 (OX8_look e374) rfl rfl rfl ⟨(Nat.le_of_ble_eq_true rfl), (Nat.le_of_ble_eq_true rfl)⟩ (Nat.le_of_ble_eq_true rfl) rfl dL_law_776 (MX8_look e374) ?_
      refine wp_icmp_eq (tgt := 942) dL_law_779 (by decide) (fun c375 => ?_) (fun c375 => ?_)
      · rw [if_pos c375] at h373
        exact WP.wk (BL_law_942 hk0 h373) (And.intro rfl (And.intro rfl (And.intro rfl (And.intro rfl trivial))))
      · rw [if_neg c375] at h373
        refine wp_iconst (v := (0 : Int32)) dL_law_782 (by decide) ?_
        cases h373
        exact wp_zret (x := (0 : Int32)) rfl narrow_b0 dL_law_783
    rw [if_neg c356] at h3
    by_cases c376 : (x2 &&& (31 : Int32)) = (26 : Int32)
    · rw [if_pos c376] at h3
      refine wp_tabIn (off := 752) (tgt := 784) dL_law_32 (by rw [c376]; decide) (by rw [c376]; decide) (by rw [c376]; decide) (by decide) ?_
      refine wp_aload_n dL_law_784 rfl ?_
      refine wp_xload_n dL_law_785 rfl ?_
      refine wp_iload_n dL_law_786 rfl ?_
      refine wp_iconst (v := (1 : Int32)) dL_law_787 (by decide) ?_
      refine wp_iadd dL_law_788 ?_
      obtain ⟨x377, e379, h378⟩ := Option.bind_eq_some_iff.mp h3
      clear h3
      refine wp_eald dL_law_789 e379 ?_
      obtain ⟨q380, e382, h381⟩ := Option.bind_eq_some_iff.mp h378
      clear h378
      refine wp_Vi (As := [.int x377]) (S := []) okM_X7_duel tw620 tw621 tw619 (OX7_duel e382) rfl rfl rfl ⟨(Nat.le_of_ble_eq_true rfl), (Nat.le_of_ble_eq_true rfl)⟩ (Nat.le_of_ble_eq_true rfl) rfl dL_law_790 (MX7_duel e382) ?_
      refine wp_aload_n dL_law_793 rfl ?_
      refine wp_xload_n dL_law_794 rfl ?_
      refine wp_iload_n dL_law_795 rfl ?_
      refine wp_iconst (v := (1 : Int32)) dL_law_796 (by decide) ?_
      refine wp_iadd dL_law_797 ?_
      obtain ⟨x383, e385, h384⟩ := Option.bind_eq_some_iff.mp h381
      clear h381
      refine wp_eald dL_law_798 e385 ?_
      obtain ⟨q386, e388, h387⟩ := Option.bind_eq_some_iff.mp h384
      clear h384
      refine wp_Vi (As := [.int x383]) (S := [.int q380.1]) okM_X8_duel tw1019 tw1020 tw1018 (OX8_duel e388) rfl rfl rfl ⟨(Nat.le_of_ble_eq_true rfl), (Nat.le_of_ble_eq_true rfl)⟩ (Nat.le_of_ble_eq_true rfl) rfl dL_law_799 (MX8_duel e388) ?_
      refine wp_icmp_eq (tgt := 942) dL_law_802 (by decide) (fun c389 => ?_) (fun c389 => ?_)
      · rw [if_pos c389] at h387
        exact WP.wk (BL_law_942 hk0 h387) (And.intro rfl (And.intro rfl (And.intro rfl (And.intro rfl trivial))))
      · rw [if_neg c389] at h387
        refine wp_iconst (v := (0 : Int32)) dL_law_805 (by decide) ?_
        cases h387
        exact wp_zret (x := (0 : Int32)) rfl narrow_b0 dL_law_806
    rw [if_neg c376] at h3
    by_cases c390 : (x2 &&& (31 : Int32)) = (27 : Int32)
    · rw [if_pos c390] at h3
      refine wp_tabIn (off := 775) (tgt := 807) dL_law_32 (by rw [c390]; decide) (by rw [c390]; decide) (by rw [c390]; decide) (by decide) ?_
      refine wp_aload_n dL_law_807 rfl ?_
      refine wp_xload_n dL_law_808 rfl ?_
      refine wp_iload_n dL_law_809 rfl ?_
      refine wp_iconst (v := (1 : Int32)) dL_law_810 (by decide) ?_
      refine wp_iadd dL_law_811 ?_
      obtain ⟨x391, e393, h392⟩ := Option.bind_eq_some_iff.mp h3
      clear h3
      refine wp_eald dL_law_812 e393 ?_
      refine wp_xload_n dL_law_813 rfl ?_
      refine wp_iload_n dL_law_814 rfl ?_
      refine wp_iconst (v := (2 : Int32)) dL_law_815 (by decide) ?_
      refine wp_iadd dL_law_816 ?_
      obtain ⟨x394, e396, h395⟩ := Option.bind_eq_some_iff.mp h392
      clear h392
      refine wp_eald dL_law_817 e396 ?_
      refine wp_xload_n dL_law_818 rfl ?_
      refine wp_iload_n dL_law_819 rfl ?_
      refine wp_iconst (v := (3 : Int32)) dL_law_820 (by decide) ?_
      refine wp_iadd dL_law_821 ?_
      obtain ⟨x397, e399, h398⟩ := Option.bind_eq_some_iff.mp h395
      clear h395
      refine wp_eald dL_law_822 e399 ?_
      obtain ⟨q400, e402, h401⟩ := Option.bind_eq_some_iff.mp h398
      clear h398
      refine wp_Vi (As := [.int x391, .int x394, .int x397]) (S := []) okM_X7_odds tw635 tw636 tw634 (OX7_odds e402) rfl rfl rfl ⟨(Nat.le_of_ble_eq_true rfl), (Nat.le_of_ble_eq_true rfl)⟩ (Nat.le_of_ble_eq_true rfl) rfl dL_law_823 (MX7_odds e402) ?_
      refine wp_aload_n dL_law_826 rfl ?_
      refine wp_xload_n dL_law_827 rfl ?_
      refine wp_iload_n dL_law_828 rfl ?_
      refine wp_iconst (v := (1 : Int32)) dL_law_829 (by decide) ?_
      refine wp_iadd dL_law_830 ?_
      obtain ⟨x403, e405, h404⟩ := Option.bind_eq_some_iff.mp h401
      clear h401
      refine wp_eald dL_law_831 e405 ?_
      refine wp_xload_n dL_law_832 rfl ?_
      refine wp_iload_n dL_law_833 rfl ?_
      refine wp_iconst (v := (2 : Int32)) dL_law_834 (by decide) ?_
      refine wp_iadd dL_law_835 ?_
      obtain ⟨x406, e408, h407⟩ := Option.bind_eq_some_iff.mp h404
      clear h404
      refine wp_eald dL_law_836 e408 ?_
      refine wp_xload_n dL_law_837 rfl ?_
      refine wp_iload_n dL_law_838 rfl ?_
      refine wp_iconst (v := (3 : Int32)) dL_law_839 (by decide) ?_
      refine wp_iadd dL_law_840 ?_
      obtain ⟨x409, e411, h410⟩ := Option.bind_eq_some_iff.mp h407
      clear h407
      refine wp_eald dL_law_841 e411 ?_
      obtain ⟨q412, e414, h413⟩ := Option.bind_eq_some_iff.mp h410
      clear h410
      refine wp_Vi (As := [.int x403, .int x406, .int x409]) (S := [.int q400.1]) okM_X8_odds tw1027 tw1028 tw1026 (OX8_odds e414) rfl rfl rfl ⟨(Nat.le_of_ble_eq_true rfl), (Nat.le_of_ble_eq_true rfl)⟩ (Nat.le_of_ble_eq_true rfl) rfl dL_law_842 (MX8_odds e414) ?_
      refine wp_icmp_eq (tgt := 942) dL_law_845 (by decide) (fun c415 => ?_) (fun c415 => ?_)
      · rw [if_pos c415] at h413
        exact WP.wk (BL_law_942 hk0 h413) (And.intro rfl (And.intro rfl (And.intro rfl (And.intro rfl trivial))))
      · rw [if_neg c415] at h413
        refine wp_iconst (v := (0 : Int32)) dL_law_848 (by decide) ?_
        cases h413
        exact wp_zret (x := (0 : Int32)) rfl narrow_b0 dL_law_849
    rw [if_neg c390] at h3
    by_cases c416 : (x2 &&& (31 : Int32)) = (28 : Int32)
    · rw [if_pos c416] at h3
      refine wp_tabIn (off := 818) (tgt := 850) dL_law_32 (by rw [c416]; decide) (by rw [c416]; decide) (by rw [c416]; decide) (by decide) ?_
      refine wp_aload_n dL_law_850 rfl ?_
      refine wp_xload_n dL_law_851 rfl ?_
      refine wp_iload_n dL_law_852 rfl ?_
      refine wp_iconst (v := (1 : Int32)) dL_law_853 (by decide) ?_
      refine wp_iadd dL_law_854 ?_
      obtain ⟨x417, e419, h418⟩ := Option.bind_eq_some_iff.mp h3
      clear h3
      refine wp_eald dL_law_855 e419 ?_
      refine wp_xload_n dL_law_856 rfl ?_
      refine wp_iload_n dL_law_857 rfl ?_
      refine wp_iconst (v := (2 : Int32)) dL_law_858 (by decide) ?_
      refine wp_iadd dL_law_859 ?_
      obtain ⟨x420, e422, h421⟩ := Option.bind_eq_some_iff.mp h418
      clear h418
      refine wp_eald dL_law_860 e422 ?_
      refine wp_xload_n dL_law_861 rfl ?_
      refine wp_iload_n dL_law_862 rfl ?_
      refine wp_iconst (v := (3 : Int32)) dL_law_863 (by decide) ?_
      refine wp_iadd dL_law_864 ?_
      obtain ⟨x423, e425, h424⟩ := Option.bind_eq_some_iff.mp h421
      clear h421
      refine wp_eald dL_law_865 e425 ?_
      obtain ⟨q426, e428, h427⟩ := Option.bind_eq_some_iff.mp h424
      clear h424
      refine wp_Vi (As := [.int x417, .int x420, .int x423]) (S := []) okM_X7_day tw645 tw646 tw644 (OX7_day e428) rfl rfl rfl ⟨(Nat.le_of_ble_eq_true rfl), (Nat.le_of_ble_eq_true rfl)⟩ (Nat.le_of_ble_eq_true rfl) rfl dL_law_866 (MX7_day e428) ?_
      refine wp_aload_n dL_law_869 rfl ?_
      refine wp_xload_n dL_law_870 rfl ?_
      refine wp_iload_n dL_law_871 rfl ?_
      refine wp_iconst (v := (1 : Int32)) dL_law_872 (by decide) ?_
      refine wp_iadd dL_law_873 ?_
      obtain ⟨x429, e431, h430⟩ := Option.bind_eq_some_iff.mp h427
      clear h427
      refine wp_eald dL_law_874 e431 ?_
      refine wp_xload_n dL_law_875 rfl ?_
      refine wp_iload_n dL_law_876 rfl ?_
      refine wp_iconst (v := (2 : Int32)) dL_law_877 (by decide) ?_
      refine wp_iadd dL_law_878 ?_
      obtain ⟨x432, e434, h433⟩ := Option.bind_eq_some_iff.mp h430
      clear h430
      refine wp_eald dL_law_879 e434 ?_
      refine wp_xload_n dL_law_880 rfl ?_
      refine wp_iload_n dL_law_881 rfl ?_
      refine wp_iconst (v := (3 : Int32)) dL_law_882 (by decide) ?_
      refine wp_iadd dL_law_883 ?_
      obtain ⟨x435, e437, h436⟩ := Option.bind_eq_some_iff.mp h433
      clear h433
      refine wp_eald dL_law_884 e437 ?_
      obtain ⟨q438, e440, h439⟩ := Option.bind_eq_some_iff.mp h436
      clear h436
      refine wp_Vi (As := [.int x429, .int x432, .int x435]) (S := [.int q426.1]) okM_X8_day tw1032 tw1033 tw1031 (OX8_day e440) rfl rfl rfl ⟨(Nat.le_of_ble_eq_true rfl), (Nat.le_of_ble_eq_true rfl)⟩ (Nat.le_of_ble_eq_true rfl) rfl dL_law_885 (MX8_day e440) ?_
      refine wp_icmp_eq (tgt := 942) dL_law_888 (by decide) (fun c441 => ?_) (fun c441 => ?_)
      · rw [if_pos c441] at h439
        exact WP.wk (BL_law_942 hk0 h439) (And.intro rfl (And.intro rfl (And.intro rfl (And.intro rfl trivial))))
      · rw [if_neg c441] at h439
        refine wp_iconst (v := (0 : Int32)) dL_law_891 (by decide) ?_
        cases h439
        exact wp_zret (x := (0 : Int32)) rfl narrow_b0 dL_law_892
    rw [if_neg c416] at h3
    by_cases c442 : (x2 &&& (31 : Int32)) = (29 : Int32)
    · rw [if_pos c442] at h3
      refine wp_tabIn (off := 861) (tgt := 893) dL_law_32 (by rw [c442]; decide) (by rw [c442]; decide) (by rw [c442]; decide) (by decide) ?_
      refine wp_aload_n dL_law_893 rfl ?_
      obtain ⟨q443, e445, h444⟩ := Option.bind_eq_some_iff.mp h3
      clear h3
      refine wp_Vi (As := []) (S := []) okM_X7_keep tw660 tw661 tw659 (OX7_keep e445) rfl rfl rfl ⟨(Nat.le_of_ble_eq_true rfl), (Nat.le_of_ble_eq_true rfl)⟩ (Nat.le_of_ble_eq_true rfl) rfl dL_law_894 (MX7_keep e445) ?_
      refine wp_aload_n dL_law_897 rfl ?_
      obtain ⟨q446, e448, h447⟩ := Option.bind_eq_some_iff.mp h444
      clear h444
      refine wp_Vi (As := []) (S := [.int q443.1]) okM_X8_keep tw1045 tw1046 tw1044 (OX8_keep e448) rfl rfl rfl ⟨(Nat.le_of_ble_eq_true rfl), (Nat.le_of_ble_eq_true rfl)⟩ (Nat.le_of_ble_eq_true rfl) rfl dL_law_898 (MX8_keep e448) ?_
      refine wp_icmp_eq (tgt := 942) dL_law_901 (by decide) (fun c449 => ?_) (fun c449 => ?_)
      · rw [if_pos c449] at h447
        exact WP.wk (BL_law_942 hk0 h447) (And.intro rfl (And.intro rfl (And.intro rfl (And.intro rfl trivial))))
      · rw [if_neg c449] at h447
        refine wp_iconst (v := (0 : Int32)) dL_law_904 (by decide) ?_
        cases h447
        exact wp_zret (x := (0 : Int32)) rfl narrow_b0 dL_law_905
    rw [if_neg c442] at h3
    by_cases c450 : (x2 &&& (31 : Int32)) = (30 : Int32)
    · rw [if_pos c450] at h3
      refine wp_tabIn (off := 874) (tgt := 906) dL_law_32 (by rw [c450]; decide) (by rw [c450]; decide) (by rw [c450]; decide) (by decide) ?_
      refine wp_aload_n dL_law_906 rfl ?_
      obtain ⟨q451, e453, h452⟩ := Option.bind_eq_some_iff.mp h3
      clear h3
      refine wp_Vi (As := []) (S := []) okM_X7_back tw674 tw675 tw673 (OX7_back e453) rfl rfl rfl ⟨(Nat.le_of_ble_eq_true rfl), (Nat.le_of_ble_eq_true rfl)⟩ (Nat.le_of_ble_eq_true rfl) rfl dL_law_907 (MX7_back e453) ?_
      refine wp_aload_n dL_law_910 rfl ?_
      obtain ⟨q454, e456, h455⟩ := Option.bind_eq_some_iff.mp h452
      clear h452
      refine wp_Vi (As := []) (S := [.int q451.1]) okM_X8_back tw1049 tw1050 tw1048 (OX8_back e456) rfl rfl rfl ⟨(Nat.le_of_ble_eq_true rfl), (Nat.le_of_ble_eq_true rfl)⟩ (Nat.le_of_ble_eq_true rfl) rfl dL_law_911 (MX8_back e456) ?_
      refine wp_icmp_eq (tgt := 942) dL_law_914 (by decide) (fun c457 => ?_) (fun c457 => ?_)
      · rw [if_pos c457] at h455
        exact WP.wk (BL_law_942 hk0 h455) (And.intro rfl (And.intro rfl (And.intro rfl (And.intro rfl trivial))))
      · rw [if_neg c457] at h455
        refine wp_iconst (v := (0 : Int32)) dL_law_917 (by decide) ?_
        cases h455
        exact wp_zret (x := (0 : Int32)) rfl narrow_b0 dL_law_918
    rw [if_neg c450] at h3
    by_cases c458 : (x2 &&& (31 : Int32)) = (31 : Int32)
    · rw [if_pos c458] at h3
      refine wp_tabIn (off := 887) (tgt := 919) dL_law_32 (by rw [c458]; decide) (by rw [c458]; decide) (by rw [c458]; decide) (by decide) ?_
      refine wp_aload_n dL_law_919 rfl ?_
      refine wp_xload_n dL_law_920 rfl ?_
      refine wp_iload_n dL_law_921 rfl ?_
      refine wp_iconst (v := (1 : Int32)) dL_law_922 (by decide) ?_
      refine wp_iadd dL_law_923 ?_
      obtain ⟨x459, e461, h460⟩ := Option.bind_eq_some_iff.mp h3
      clear h3
      refine wp_eald dL_law_924 e461 ?_
      obtain ⟨q462, e464, h463⟩ := Option.bind_eq_some_iff.mp h460
      clear h460
      refine wp_Vi (As := [.int x459]) (S := []) okM_X7_count tw682 tw683 tw681 (OX7_count e464) rfl rfl rfl ⟨(Nat.le_of_ble_eq_true rfl), (Nat.le_of_ble_eq_true rfl)⟩ (Nat.le_of_ble_eq_true rfl) rfl dL_law_925 (MX7_count e464) ?_
      refine wp_aload_n dL_law_928 rfl ?_
      refine wp_xload_n dL_law_929 rfl ?_
      refine wp_iload_n dL_law_930 rfl ?_
      refine wp_iconst (v := (1 : Int32)) dL_law_931 (by decide) ?_
      refine wp_iadd dL_law_932 ?_
      obtain ⟨x465, e467, h466⟩ := Option.bind_eq_some_iff.mp h463
      clear h463
      refine wp_eald dL_law_933 e467 ?_
      obtain ⟨q468, e470, h469⟩ := Option.bind_eq_some_iff.mp h466
      clear h466
      refine wp_Vi (As := [.int x465]) (S := [.int q462.1]) okM_X8_count tw1053 tw1054 tw1052 (OX8_count e470) rfl rfl rfl ⟨(Nat.le_of_ble_eq_true rfl), (Nat.le_of_ble_eq_true rfl)⟩ (Nat.le_of_ble_eq_true rfl) rfl dL_law_934 (MX8_count e470) ?_
      refine wp_icmp_eq (tgt := 942) dL_law_937 (by decide) (fun c471 => ?_) (fun c471 => ?_)
      · rw [if_pos c471] at h469
        exact WP.wk (BL_law_942 hk0 h469) (And.intro rfl (And.intro rfl (And.intro rfl (And.intro rfl trivial))))
      · rw [if_neg c471] at h469
        refine wp_iconst (v := (0 : Int32)) dL_law_940 (by decide) ?_
        cases h469
        exact wp_zret (x := (0 : Int32)) rfl narrow_b0 dL_law_941
    rw [if_neg c458] at h3
    cases h3
def eL_law (sn : Nat) (sx : Nat → Int32) (k : KTL_law) (w : XW) : Option (Int32 × XW) :=
  (some (xpush w 15 (xo 7 [.null, .null, .null, .null, .null, .null, .null, .null, .null, .null, .null, .int 0, .null, .null, .null]))).bind fun w1 =>
  (fX7_init w1 w.1).bind fun q4 =>
  (some (xpush q4 24 (xo 8 [.int 0, .null, .null, .int 0, .null, .null, .null, .null, .int 0, .int 0, .int 0, .null, .int 0, .int 0, .int 0, .int 0, .null, .null, .int 0, .null, .null, .null, .null, .null]))).bind fun w7 =>
  (fX8_init w7 q4.1).bind fun q10 =>
  k q10 w.1 q4.1 (0 : Int32)
theorem EL_law {K : CX} {l : Launch} {n0 k0 : Nat} {k : KTL_law} (hk0 : ∀ (w : XW) (l1 : Nat) (l2 : Nat) (l3 : Int32) (q : Int32 × XW), k w l1 l2 l3 = some q → WP K l mL_law 14 341 n0 k0 (some (.int q.1)) q.2 18 [some (.float 0), some (.ref l1), some (.ref l2), some (.int l3)] [] w) {w : XW} {q : Int32 × XW} (h0 : eL_law (K.2.2.1 0).1 (K.2.2.1 0).2 k w = some q) : WP K l mL_law 14 341 n0 k0 (some (.int q.1)) q.2 0 [some (.float 0), none, none, none] [] w := by
  unfold eL_law at h0
  obtain ⟨w1, e3, h2⟩ := Option.bind_eq_some_iff.mp h0
  clear h0
  refine wp_new (fs := [.null, .null, .null, .null, .null, .null, .null, .null, .null, .null, .null, .int 0, .null, .null, .null]) okX7 tw17 tw18 tw1 dL_law_0 (by decide +kernel) rfl ?_
  rw [Option.some.inj e3]
  refine wp_dup dL_law_3 rfl ?_
  obtain ⟨q4, e6, h5⟩ := Option.bind_eq_some_iff.mp h2
  clear h2
  refine wp_callI (As := []) (S := [.ref w.1]) okM_X7_init rfl tw20 rfl tw19 rfl ⟨(Nat.le_of_ble_eq_true rfl), (Nat.le_of_ble_eq_true rfl)⟩ (Nat.le_of_ble_eq_true rfl) rfl dL_law_4 (MX7_init e6) ?_
  refine wp_astore_n (L1 := [some (.float 0), some (.ref w.1), none, none]) dL_law_7 (Nat.le_of_ble_eq_true rfl) rfl ?_
  obtain ⟨w7, e9, h8⟩ := Option.bind_eq_some_iff.mp h5
  clear h5
  refine wp_new (fs := [.int 0, .null, .null, .int 0, .null, .null, .null, .null, .int 0, .int 0, .int 0, .null, .int 0, .int 0, .int 0, .int 0, .null, .null, .int 0, .null, .null, .null, .null, .null]) okX8 tw685 tw686 tw15 dL_law_8 (by decide +kernel) rfl ?_
  rw [Option.some.inj e9]
  refine wp_dup dL_law_11 rfl ?_
  obtain ⟨q10, e12, h11⟩ := Option.bind_eq_some_iff.mp h8
  clear h8
  refine wp_callI (As := []) (S := [.ref q4.1]) okM_X8_init rfl tw688 rfl tw687 rfl ⟨(Nat.le_of_ble_eq_true rfl), (Nat.le_of_ble_eq_true rfl)⟩ (Nat.le_of_ble_eq_true rfl) rfl dL_law_12 (MX8_init e12) ?_
  refine wp_astore_n (L1 := [some (.float 0), some (.ref w.1), some (.ref q4.1), none]) dL_law_15 (Nat.le_of_ble_eq_true rfl) rfl ?_
  refine wp_iconst (v := (0 : Int32)) dL_law_16 (by decide) ?_
  refine wp_istore_n (L1 := [some (.float 0), some (.ref w.1), some (.ref q4.1), some (.int (0 : Int32))]) dL_law_17 (Nat.le_of_ble_eq_true rfl) rfl ?_
  exact WP.wk (hk0 _ _ _ _ _ h11) (And.intro rfl (And.intro rfl (And.intro rfl (And.intro rfl trivial))))
def loL_law (sn : Nat) (sx : Nat → Int32) : Nat → KTL_law
  | 0 => fun _ _ _ _ => none
  | n + 1 => hL_law_18 sn sx (loL_law sn sx n)
theorem LOL_law {K : CX} {l : Launch} {n0 k0 : Nat} : ∀ n : Nat, (∀ (w : XW) (l1 : Nat) (l2 : Nat) (l3 : Int32) (q : Int32 × XW), (loL_law (K.2.2.1 0).1 (K.2.2.1 0).2 n) w l1 l2 l3 = some q → WP K l mL_law 14 341 n0 k0 (some (.int q.1)) q.2 18 [some (.float 0), some (.ref l1), some (.ref l2), some (.int l3)] [] w) := by
  intro n
  induction n with
  | zero => exact fun _ _ _ _ q h => (by cases h)
  | succ n ih => exact fun _ _ _ _ q h => HL_law_18 ih h
def fL_law (sn : Nat) (sx : Nat → Int32) (w : XW) : Option (Int32 × XW) := eL_law sn sx (loL_law sn sx FU) w
