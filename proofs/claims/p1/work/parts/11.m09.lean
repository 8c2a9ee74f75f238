/-! FractionRun$State.multiplyBy(II)V: frames 1, words 20 -/
abbrev mX5_multiplyBy : MR := (⟨"FractionRun$State", "multiplyBy", "(II)V"⟩, prog_7_method_18_code, 3, none)
theorem dX5_multiplyBy_0 : decode prog_7_method_18_code 0 = .ok (.aload_n 0, 1) := by decide +kernel
theorem dX5_multiplyBy_1 : decode prog_7_method_18_code 1 = .ok (.getfield 9, 3) := by decide +kernel
theorem dX5_multiplyBy_4 : decode prog_7_method_18_code 4 = .ok (.iload_n 1, 1) := by decide +kernel
theorem dX5_multiplyBy_5 : decode prog_7_method_18_code 5 = .ok (.dup2, 1) := by decide +kernel
theorem dX5_multiplyBy_6 : decode prog_7_method_18_code 6 = .ok (.iaload, 1) := by decide +kernel
theorem dX5_multiplyBy_7 : decode prog_7_method_18_code 7 = .ok (.iload_n 2, 1) := by decide +kernel
theorem dX5_multiplyBy_8 : decode prog_7_method_18_code 8 = .ok (.iadd, 1) := by decide +kernel
theorem dX5_multiplyBy_9 : decode prog_7_method_18_code 9 = .ok (.iastore, 1) := by decide +kernel
theorem dX5_multiplyBy_10 : decode prog_7_method_18_code 10 = .ok (.aload_n 0, 1) := by decide +kernel
theorem dX5_multiplyBy_11 : decode prog_7_method_18_code 11 = .ok (.iconst 0, 1) := by decide +kernel
theorem dX5_multiplyBy_12 : decode prog_7_method_18_code 12 = .ok (.putfield 45, 3) := by decide +kernel
theorem dX5_multiplyBy_15 : decode prog_7_method_18_code 15 = .ok (.return_, 1) := by decide +kernel
theorem okM_X5_multiplyBy : okM mX5_multiplyBy 2 := ⟨tw445, tw5, by decide, by decide, by decide +kernel⟩
def eX5_multiplyBy (w : XW) (l0 : Nat) (l1 : Int32) (l2 : Int32) : Option XW :=
  (gR w l0 5 0).bind fun x1 =>
  (aI w 0 x1 l1).bind fun x4 =>
  (sI w 0 x1 l1 (x4 + l2)).bind fun w7 =>
  (pV w7 l0 5 5 (.int (0 : Int32))).bind fun w10 =>
  some w10
theorem EX5_multiplyBy {K : CX} {l : Launch} {n0 k0 : Nat} {w : XW} {l0 : Nat} {l1 : Int32} {l2 : Int32} {q : XW} (h0 : eX5_multiplyBy w l0 l1 l2 = some q) : WP K l mX5_multiplyBy 1 20 n0 k0 none q 0 [some (.ref l0), some (.int l1), some (.int l2)] [] w := by
  unfold eX5_multiplyBy at h0
  refine wp_aload_n dX5_multiplyBy_0 rfl ?_
  obtain ⟨x1, e3, h2⟩ := Option.bind_eq_some_iff.mp h0
  clear h0
  refine wp_getR okX5 (k := 0) (by decide) tw92 dX5_multiplyBy_1 e3 ?_
  refine wp_iload_n dX5_multiplyBy_4 rfl ?_
  refine wp_dup2 dX5_multiplyBy_5 rfl rfl ?_
  obtain ⟨x4, e6, h5⟩ := Option.bind_eq_some_iff.mp h2
  clear h2
  refine wp_iald dX5_multiplyBy_6 e6 ?_
  refine wp_iload_n dX5_multiplyBy_7 rfl ?_
  refine wp_iadd dX5_multiplyBy_8 ?_
  obtain ⟨w7, e9, h8⟩ := Option.bind_eq_some_iff.mp h5
  clear h5
  refine wp_iast dX5_multiplyBy_9 e9 ?_
  refine wp_aload_n dX5_multiplyBy_10 rfl ?_
  refine wp_iconst (v := (0 : Int32)) dX5_multiplyBy_11 (by decide) ?_
  obtain ⟨w10, e12, h11⟩ := Option.bind_eq_some_iff.mp h8
  clear h8
  refine wp_putV okX5 (k := 5) (by decide) rfl tw105 dX5_multiplyBy_12 rfl rfl e12 ?_
  cases h11
  exact wp_vret rfl dX5_multiplyBy_15
def fX5_multiplyBy (w : XW) (l0 : Nat) (l1 : Int32) (l2 : Int32) : Option XW := if isO w l0 5 = true then eX5_multiplyBy w l0 l1 l2 else none
theorem OX5_multiplyBy {w : XW} {l0 : Nat} {l1 : Int32} {l2 : Int32} {q : XW} (h : fX5_multiplyBy w l0 l1 l2 = some q) : isO w l0 5 = true := Decidable.byContradiction fun z => by unfold fX5_multiplyBy at h; rw [if_neg z] at h; cases h
theorem MX5_multiplyBy {K : CX} {l : Launch} {w : XW} {l0 : Nat} {l1 : Int32} {l2 : Int32} {q : XW} (h : fX5_multiplyBy w l0 l1 l2 = some q) : MT K l mX5_multiplyBy 1 20 [.ref l0, .int l1, .int l2] w none q := by
  have z := OX5_multiplyBy h
  unfold fX5_multiplyBy at h
  rw [if_pos z] at h
  exact MT.of (by decide) (Nat.le_of_ble_eq_true rfl) rfl (EX5_multiplyBy h)
/-! FractionRun.multiply(II)I: frames 3, words 68 -/
abbrev mX7_multiply : MR := (⟨"FractionRun", "multiply", "(II)I"⟩, prog_1_method_9_code, 4, (some .int))
theorem dX7_multiply_0 : decode prog_1_method_9_code 0 = .ok (.iload_n 1, 1) := by decide +kernel
theorem dX7_multiply_1 : decode prog_1_method_9_code 1 = .ok (.invokestatic 144, 3) := by decide +kernel
theorem dX7_multiply_4 : decode prog_1_method_9_code 4 = .ok (.ifCond .eq 19, 3) := by decide +kernel
theorem dX7_multiply_7 : decode prog_1_method_9_code 7 = .ok (.iload_n 2, 1) := by decide +kernel
theorem dX7_multiply_8 : decode prog_1_method_9_code 8 = .ok (.ifCond .eq 15, 3) := by decide +kernel
theorem dX7_multiply_11 : decode prog_1_method_9_code 11 = .ok (.iload_n 2, 1) := by decide +kernel
theorem dX7_multiply_12 : decode prog_1_method_9_code 12 = .ok (.bipush (-9), 2) := by decide +kernel
theorem dX7_multiply_14 : decode prog_1_method_9_code 14 = .ok (.if_icmp .lt 9, 3) := by decide +kernel
theorem dX7_multiply_17 : decode prog_1_method_9_code 17 = .ok (.iload_n 2, 1) := by decide +kernel
theorem dX7_multiply_18 : decode prog_1_method_9_code 18 = .ok (.bipush 9, 2) := by decide +kernel
theorem dX7_multiply_20 : decode prog_1_method_9_code 20 = .ok (.if_icmp .le 5, 3) := by decide +kernel
theorem dX7_multiply_23 : decode prog_1_method_9_code 23 = .ok (.iconst (-1), 1) := by decide +kernel
theorem dX7_multiply_24 : decode prog_1_method_9_code 24 = .ok (.ireturn, 1) := by decide +kernel
theorem dX7_multiply_25 : decode prog_1_method_9_code 25 = .ok (.aload_n 0, 1) := by decide +kernel
theorem dX7_multiply_26 : decode prog_1_method_9_code 26 = .ok (.getfield 36, 3) := by decide +kernel
theorem dX7_multiply_29 : decode prog_1_method_9_code 29 = .ok (.getfield 147, 3) := by decide +kernel
theorem dX7_multiply_32 : decode prog_1_method_9_code 32 = .ok (.iload_n 1, 1) := by decide +kernel
theorem dX7_multiply_33 : decode prog_1_method_9_code 33 = .ok (.iaload, 1) := by decide +kernel
theorem dX7_multiply_34 : decode prog_1_method_9_code 34 = .ok (.iload_n 2, 1) := by decide +kernel
theorem dX7_multiply_35 : decode prog_1_method_9_code 35 = .ok (.iadd, 1) := by decide +kernel
theorem dX7_multiply_36 : decode prog_1_method_9_code 36 = .ok (.istore_n 3, 1) := by decide +kernel
theorem dX7_multiply_37 : decode prog_1_method_9_code 37 = .ok (.iload_n 3, 1) := by decide +kernel
theorem dX7_multiply_38 : decode prog_1_method_9_code 38 = .ok (.ifCond .lt 10, 3) := by decide +kernel
theorem dX7_multiply_41 : decode prog_1_method_9_code 41 = .ok (.iload_n 3, 1) := by decide +kernel
theorem dX7_multiply_42 : decode prog_1_method_9_code 42 = .ok (.sipush 999, 3) := by decide +kernel
theorem dX7_multiply_45 : decode prog_1_method_9_code 45 = .ok (.if_icmp .le 6, 3) := by decide +kernel
theorem dX7_multiply_48 : decode prog_1_method_9_code 48 = .ok (.bipush (-2), 2) := by decide +kernel
theorem dX7_multiply_50 : decode prog_1_method_9_code 50 = .ok (.ireturn, 1) := by decide +kernel
theorem dX7_multiply_51 : decode prog_1_method_9_code 51 = .ok (.aload_n 0, 1) := by decide +kernel
theorem dX7_multiply_52 : decode prog_1_method_9_code 52 = .ok (.getfield 49, 3) := by decide +kernel
theorem dX7_multiply_55 : decode prog_1_method_9_code 55 = .ok (.aload_n 0, 1) := by decide +kernel
theorem dX7_multiply_56 : decode prog_1_method_9_code 56 = .ok (.getfield 36, 3) := by decide +kernel
theorem dX7_multiply_59 : decode prog_1_method_9_code 59 = .ok (.invokevirtual 157, 3) := by decide +kernel
theorem dX7_multiply_62 : decode prog_1_method_9_code 62 = .ok (.aload_n 0, 1) := by decide +kernel
theorem dX7_multiply_63 : decode prog_1_method_9_code 63 = .ok (.getfield 36, 3) := by decide +kernel
theorem dX7_multiply_66 : decode prog_1_method_9_code 66 = .ok (.iload_n 1, 1) := by decide +kernel
theorem dX7_multiply_67 : decode prog_1_method_9_code 67 = .ok (.iload_n 2, 1) := by decide +kernel
theorem dX7_multiply_68 : decode prog_1_method_9_code 68 = .ok (.invokevirtual 171, 3) := by decide +kernel
theorem dX7_multiply_71 : decode prog_1_method_9_code 71 = .ok (.iload_n 3, 1) := by decide +kernel
theorem dX7_multiply_72 : decode prog_1_method_9_code 72 = .ok (.ireturn, 1) := by decide +kernel
theorem okM_X7_multiply : okM mX7_multiply 2 := ⟨tw441, tw1, by decide, by decide, by decide +kernel⟩
def bX7_multiply_48 (w : XW) : Option (Int32 × XW) :=
  some ((-2 : Int32), w)
theorem BX7_multiply_48 {K : CX} {l : Launch} {n0 k0 : Nat} {w : XW} {q : Int32 × XW} (h0 : bX7_multiply_48 w = some q) : WP K l mX7_multiply 3 68 n0 k0 (some (.int q.1)) q.2 48 [none, none, none, none] [] w := by
  unfold bX7_multiply_48 at h0
  refine wp_bipush (v := (-2 : Int32)) dX7_multiply_48 (by decide) ?_
  cases h0
  exact wp_iret rfl dX7_multiply_50
def bX7_multiply_23 (w : XW) : Option (Int32 × XW) :=
  some ((-1 : Int32), w)
theorem BX7_multiply_23 {K : CX} {l : Launch} {n0 k0 : Nat} {w : XW} {q : Int32 × XW} (h0 : bX7_multiply_23 w = some q) : WP K l mX7_multiply 3 68 n0 k0 (some (.int q.1)) q.2 23 [none, none, none, none] [] w := by
  unfold bX7_multiply_23 at h0
  refine wp_iconst (v := (-1 : Int32)) dX7_multiply_23 (by decide) ?_
  cases h0
  exact wp_iret rfl dX7_multiply_24
def eX7_multiply (w : XW) (l0 : Nat) (l1 : Int32) (l2 : Int32) : Option (Int32 × XW) :=
  (fX7_isPrime w l1).bind fun q1 =>
  if q1.1 = 0 then
  bX7_multiply_23 q1.2
  else
  if l2 = 0 then
  bX7_multiply_23 q1.2
  else
  if l2 < (-9 : Int32) then
  bX7_multiply_23 q1.2
  else
  if l2 ≤ (9 : Int32) then
  (gR q1.2 l0 7 4).bind fun x8 =>
  (gR q1.2 x8 5 0).bind fun x11 =>
  (aI q1.2 0 x11 l1).bind fun x14 =>
  if (x14 + l2) < 0 then
  bX7_multiply_48 q1.2
  else
  if (x14 + l2) ≤ (999 : Int32) then
  (gR q1.2 l0 7 7).bind fun x19 =>
  (gR q1.2 l0 7 4).bind fun x22 =>
  (fX3_push q1.2 x19 x22).bind fun q25 =>
  (gR q25 l0 7 4).bind fun x28 =>
  (fX5_multiplyBy q25 x28 l1 l2).bind fun q31 =>
  some ((x14 + l2), q31)
  else
  bX7_multiply_48 q1.2
  else
  bX7_multiply_23 q1.2
theorem EX7_multiply {K : CX} {l : Launch} {n0 k0 : Nat} {w : XW} {l0 : Nat} {l1 : Int32} {l2 : Int32} {q : Int32 × XW} (h0 : eX7_multiply w l0 l1 l2 = some q) : WP K l mX7_multiply 3 68 n0 k0 (some (.int q.1)) q.2 0 [some (.ref l0), some (.int l1), some (.int l2), none] [] w := by
  unfold eX7_multiply at h0
  refine wp_iload_n dX7_multiply_0 rfl ?_
  obtain ⟨q1, e3, h2⟩ := Option.bind_eq_some_iff.mp h0
  clear h0
  refine wp_Si (As := [.int l1]) (S := []) okM_X7_isPrime tw399 tw398 rfl ⟨(Nat.le_of_ble_eq_true rfl), (Nat.le_of_ble_eq_true rfl)⟩ (Nat.le_of_ble_eq_true rfl) rfl dX7_multiply_1 (MX7_isPrime e3) ?_
  refine wp_if_eq (tgt := 23) dX7_multiply_4 (by decide) (fun c4 => ?_) (fun c4 => ?_)
  · rw [if_pos c4] at h2
    exact WP.wk (BX7_multiply_23 h2) trivial
  · rw [if_neg c4] at h2
    refine wp_iload_n dX7_multiply_7 rfl ?_
    refine wp_if_eq (tgt := 23) dX7_multiply_8 (by decide) (fun c5 => ?_) (fun c5 => ?_)
    · rw [if_pos c5] at h2
      exact WP.wk (BX7_multiply_23 h2) trivial
    · rw [if_neg c5] at h2
      refine wp_iload_n dX7_multiply_11 rfl ?_
      refine wp_bipush (v := (-9 : Int32)) dX7_multiply_12 (by decide) ?_
      refine wp_icmp_lt (tgt := 23) dX7_multiply_14 (by decide) (fun c6 => ?_) (fun c6 => ?_)
      · rw [if_pos c6] at h2
        exact WP.wk (BX7_multiply_23 h2) trivial
      · rw [if_neg c6] at h2
        refine wp_iload_n dX7_multiply_17 rfl ?_
        refine wp_bipush (v := (9 : Int32)) dX7_multiply_18 (by decide) ?_
        refine wp_icmp_le (tgt := 25) dX7_multiply_20 (by decide) (fun c7 => ?_) (fun c7 => ?_)
        · rw [if_pos c7] at h2
          refine wp_aload_n dX7_multiply_25 rfl ?_
          obtain ⟨x8, e10, h9⟩ := Option.bind_eq_some_iff.mp h2
          clear h2
          refine wp_getR okX7 (k := 4) (by decide) tw302 dX7_multiply_26 e10 ?_
          obtain ⟨x11, e13, h12⟩ := Option.bind_eq_some_iff.mp h9
          clear h9
          refine wp_getR okX5 (k := 0) (by decide) tw94 dX7_multiply_29 e13 ?_
          refine wp_iload_n dX7_multiply_32 rfl ?_
          obtain ⟨x14, e16, h15⟩ := Option.bind_eq_some_iff.mp h12
          clear h12
          refine wp_iald dX7_multiply_33 e16 ?_
          refine wp_iload_n dX7_multiply_34 rfl ?_
          refine wp_iadd dX7_multiply_35 ?_
          refine wp_istore_n (L1 := [some (.ref l0), some (.int l1), some (.int l2), some (.int (x14 + l2))]) dX7_multiply_36 (Nat.le_of_ble_eq_true rfl) rfl ?_
          refine wp_iload_n dX7_multiply_37 rfl ?_
          refine wp_if_lt (tgt := 48) dX7_multiply_38 (by decide) (fun c17 => ?_) (fun c17 => ?_)
          · rw [if_pos c17] at h15
            exact WP.wk (BX7_multiply_48 h15) trivial
          · rw [if_neg c17] at h15
            refine wp_iload_n dX7_multiply_41 rfl ?_
            refine wp_sipush (v := (999 : Int32)) dX7_multiply_42 (by decide) ?_
            refine wp_icmp_le (tgt := 51) dX7_multiply_45 (by decide) (fun c18 => ?_) (fun c18 => ?_)
            · rw [if_pos c18] at h15
              refine wp_aload_n dX7_multiply_51 rfl ?_
              obtain ⟨x19, e21, h20⟩ := Option.bind_eq_some_iff.mp h15
              clear h15
              refine wp_getR okX7 (k := 7) (by decide) tw305 dX7_multiply_52 e21 ?_
              refine wp_aload_n dX7_multiply_55 rfl ?_
              obtain ⟨x22, e24, h23⟩ := Option.bind_eq_some_iff.mp h20
              clear h20
              refine wp_getR okX7 (k := 4) (by decide) tw302 dX7_multiply_56 e24 ?_
              obtain ⟨q25, e27, h26⟩ := Option.bind_eq_some_iff.mp h23
              clear h23
              refine wp_Vv (As := [.ref x22]) (S := []) okM_X3_push tw415 tw416 tw414 (OX3_push e27) rfl rfl rfl ⟨(Nat.le_of_ble_eq_true rfl), (Nat.le_of_ble_eq_true rfl)⟩ (Nat.le_of_ble_eq_true rfl) rfl dX7_multiply_59 (MX3_push e27) ?_
              refine wp_aload_n dX7_multiply_62 rfl ?_
              obtain ⟨x28, e30, h29⟩ := Option.bind_eq_some_iff.mp h26
              clear h26
              refine wp_getR okX7 (k := 4) (by decide) tw302 dX7_multiply_63 e30 ?_
              refine wp_iload_n dX7_multiply_66 rfl ?_
              refine wp_iload_n dX7_multiply_67 rfl ?_
              obtain ⟨q31, e33, h32⟩ := Option.bind_eq_some_iff.mp h29
              clear h29
              refine wp_Vv (As := [.int l1, .int l2]) (S := []) okM_X5_multiplyBy tw443 tw444 tw442 (OX5_multiplyBy e33) rfl rfl rfl ⟨(Nat.le_of_ble_eq_true rfl), (Nat.le_of_ble_eq_true rfl)⟩ (Nat.le_of_ble_eq_true rfl) rfl dX7_multiply_68 (MX5_multiplyBy e33) ?_
              refine wp_iload_n dX7_multiply_71 rfl ?_
              cases h32
              exact wp_iret rfl dX7_multiply_72
            · rw [if_neg c18] at h15
              exact WP.wk (BX7_multiply_48 h15) trivial
        · rw [if_neg c7] at h2
          exact WP.wk (BX7_multiply_23 h2) trivial
def fX7_multiply (w : XW) (l0 : Nat) (l1 : Int32) (l2 : Int32) : Option (Int32 × XW) := if isO w l0 7 = true then eX7_multiply w l0 l1 l2 else none
theorem OX7_multiply {w : XW} {l0 : Nat} {l1 : Int32} {l2 : Int32} {q : Int32 × XW} (h : fX7_multiply w l0 l1 l2 = some q) : isO w l0 7 = true := Decidable.byContradiction fun z => by unfold fX7_multiply at h; rw [if_neg z] at h; cases h
theorem MX7_multiply {K : CX} {l : Launch} {w : XW} {l0 : Nat} {l1 : Int32} {l2 : Int32} {q : Int32 × XW} (h : fX7_multiply w l0 l1 l2 = some q) : MT K l mX7_multiply 3 68 [.ref l0, .int l1, .int l2] w (some (.int q.1)) q.2 := by
  have z := OX7_multiply h
  unfold fX7_multiply at h
  rw [if_pos z] at h
  exact MT.of (by decide) (Nat.le_of_ble_eq_true rfl) rfl (EX7_multiply h)
/-! FractionRunModel.multiply(II)I: frames 3, words 64 -/
abbrev mX8_multiply : MR := (⟨"FractionRunModel", "multiply", "(II)I"⟩, prog_10_method_33_code, 3, (some .int))
theorem dX8_multiply_0 : decode prog_10_method_33_code 0 = .ok (.iload_n 1, 1) := by decide +kernel
theorem dX8_multiply_1 : decode prog_10_method_33_code 1 = .ok (.i2l, 1) := by decide +kernel
theorem dX8_multiply_2 : decode prog_10_method_33_code 2 = .ok (.lconst 0, 1) := by decide +kernel
theorem dX8_multiply_3 : decode prog_10_method_33_code 3 = .ok (.ldc2_w 161, 3) := by decide +kernel
theorem dX8_multiply_6 : decode prog_10_method_33_code 6 = .ok (.invokestatic 88, 3) := by decide +kernel
theorem dX8_multiply_9 : decode prog_10_method_33_code 9 = .ok (.ifCond .eq 21, 3) := by decide +kernel
theorem dX8_multiply_12 : decode prog_10_method_33_code 12 = .ok (.iload_n 2, 1) := by decide +kernel
theorem dX8_multiply_13 : decode prog_10_method_33_code 13 = .ok (.i2l, 1) := by decide +kernel
theorem dX8_multiply_14 : decode prog_10_method_33_code 14 = .ok (.ldc2_w 178, 3) := by decide +kernel
theorem dX8_multiply_17 : decode prog_10_method_33_code 17 = .ok (.ldc2_w 180, 3) := by decide +kernel
theorem dX8_multiply_20 : decode prog_10_method_33_code 20 = .ok (.invokestatic 88, 3) := by decide +kernel
theorem dX8_multiply_23 : decode prog_10_method_33_code 23 = .ok (.ifCond .eq 7, 3) := by decide +kernel
theorem dX8_multiply_26 : decode prog_10_method_33_code 26 = .ok (.iload_n 2, 1) := by decide +kernel
theorem dX8_multiply_27 : decode prog_10_method_33_code 27 = .ok (.ifCond .ne 5, 3) := by decide +kernel
theorem dX8_multiply_30 : decode prog_10_method_33_code 30 = .ok (.iconst (-1), 1) := by decide +kernel
theorem dX8_multiply_31 : decode prog_10_method_33_code 31 = .ok (.ireturn, 1) := by decide +kernel
theorem dX8_multiply_32 : decode prog_10_method_33_code 32 = .ok (.aload_n 0, 1) := by decide +kernel
theorem dX8_multiply_33 : decode prog_10_method_33_code 33 = .ok (.getfield 25, 3) := by decide +kernel
theorem dX8_multiply_36 : decode prog_10_method_33_code 36 = .ok (.iload_n 1, 1) := by decide +kernel
theorem dX8_multiply_37 : decode prog_10_method_33_code 37 = .ok (.iaload, 1) := by decide +kernel
theorem dX8_multiply_38 : decode prog_10_method_33_code 38 = .ok (.iload_n 2, 1) := by decide +kernel
theorem dX8_multiply_39 : decode prog_10_method_33_code 39 = .ok (.iadd, 1) := by decide +kernel
theorem dX8_multiply_40 : decode prog_10_method_33_code 40 = .ok (.i2l, 1) := by decide +kernel
theorem dX8_multiply_41 : decode prog_10_method_33_code 41 = .ok (.lconst 0, 1) := by decide +kernel
theorem dX8_multiply_42 : decode prog_10_method_33_code 42 = .ok (.ldc2_w 133, 3) := by decide +kernel
theorem dX8_multiply_45 : decode prog_10_method_33_code 45 = .ok (.invokestatic 88, 3) := by decide +kernel
theorem dX8_multiply_48 : decode prog_10_method_33_code 48 = .ok (.ifCond .ne 6, 3) := by decide +kernel
theorem dX8_multiply_51 : decode prog_10_method_33_code 51 = .ok (.bipush (-2), 2) := by decide +kernel
theorem dX8_multiply_53 : decode prog_10_method_33_code 53 = .ok (.ireturn, 1) := by decide +kernel
theorem dX8_multiply_54 : decode prog_10_method_33_code 54 = .ok (.aload_n 0, 1) := by decide +kernel
theorem dX8_multiply_55 : decode prog_10_method_33_code 55 = .ok (.invokevirtual 172, 3) := by decide +kernel
theorem dX8_multiply_58 : decode prog_10_method_33_code 58 = .ok (.aload_n 0, 1) := by decide +kernel
theorem dX8_multiply_59 : decode prog_10_method_33_code 59 = .ok (.getfield 25, 3) := by decide +kernel
theorem dX8_multiply_62 : decode prog_10_method_33_code 62 = .ok (.iload_n 1, 1) := by decide +kernel
theorem dX8_multiply_63 : decode prog_10_method_33_code 63 = .ok (.dup2, 1) := by decide +kernel
theorem dX8_multiply_64 : decode prog_10_method_33_code 64 = .ok (.iaload, 1) := by decide +kernel
theorem dX8_multiply_65 : decode prog_10_method_33_code 65 = .ok (.iload_n 2, 1) := by decide +kernel
theorem dX8_multiply_66 : decode prog_10_method_33_code 66 = .ok (.iadd, 1) := by decide +kernel
theorem dX8_multiply_67 : decode prog_10_method_33_code 67 = .ok (.iastore, 1) := by decide +kernel
theorem dX8_multiply_68 : decode prog_10_method_33_code 68 = .ok (.aload_n 0, 1) := by decide +kernel
theorem dX8_multiply_69 : decode prog_10_method_33_code 69 = .ok (.getfield 25, 3) := by decide +kernel
theorem dX8_multiply_72 : decode prog_10_method_33_code 72 = .ok (.bipush 17, 2) := by decide +kernel
theorem dX8_multiply_74 : decode prog_10_method_33_code 74 = .ok (.iconst 0, 1) := by decide +kernel
theorem dX8_multiply_75 : decode prog_10_method_33_code 75 = .ok (.iastore, 1) := by decide +kernel
theorem dX8_multiply_76 : decode prog_10_method_33_code 76 = .ok (.aload_n 0, 1) := by decide +kernel
theorem dX8_multiply_77 : decode prog_10_method_33_code 77 = .ok (.getfield 25, 3) := by decide +kernel
theorem dX8_multiply_80 : decode prog_10_method_33_code 80 = .ok (.iload_n 1, 1) := by decide +kernel
theorem dX8_multiply_81 : decode prog_10_method_33_code 81 = .ok (.iaload, 1) := by decide +kernel
theorem dX8_multiply_82 : decode prog_10_method_33_code 82 = .ok (.ireturn, 1) := by decide +kernel
theorem okM_X8_multiply : okM mX8_multiply 2 := ⟨tw890, tw15, by decide, by decide, by decide +kernel⟩
def bX8_multiply_30 (w : XW) : Option (Int32 × XW) :=
  some ((-1 : Int32), w)
theorem BX8_multiply_30 {K : CX} {l : Launch} {n0 k0 : Nat} {w : XW} {q : Int32 × XW} (h0 : bX8_multiply_30 w = some q) : WP K l mX8_multiply 3 64 n0 k0 (some (.int q.1)) q.2 30 [none, none, none] [] w := by
  unfold bX8_multiply_30 at h0
  refine wp_iconst (v := (-1 : Int32)) dX8_multiply_30 (by decide) ?_
  cases h0
  exact wp_iret rfl dX8_multiply_31
def eX8_multiply (w : XW) (l0 : Nat) (l1 : Int32) (l2 : Int32) : Option (Int32 × XW) :=
  (fX8_in w (l1.toInt64) (0 : Int64) (5 : Int64)).bind fun q1 =>
  if q1.1 = 0 then
  bX8_multiply_30 q1.2
  else
  (fX8_in q1.2 (l2.toInt64) (-9 : Int64) (9 : Int64)).bind fun q5 =>
  if q5.1 = 0 then
  bX8_multiply_30 q5.2
  else
  if l2 = 0 then
  bX8_multiply_30 q5.2
  else
  (gR q5.2 l0 8 7).bind fun x10 =>
  (aI q5.2 0 x10 l1).bind fun x13 =>
  (fX8_in q5.2 ((x13 + l2).toInt64) (0 : Int64) (999 : Int64)).bind fun q16 =>
  if q16.1 = 0 then
  some ((-2 : Int32), q16.2)
  else
  (fX8_known q16.2 l0).bind fun q20 =>
  (gR q20 l0 8 7).bind fun x23 =>
  (aI q20 0 x23 l1).bind fun x26 =>
  (sI q20 0 x23 l1 (x26 + l2)).bind fun w29 =>
  (gR w29 l0 8 7).bind fun x32 =>
  (sI w29 0 x32 (17 : Int32) (0 : Int32)).bind fun w35 =>
  (gR w35 l0 8 7).bind fun x38 =>
  (aI w35 0 x38 l1).bind fun x41 =>
  some (x41, w35)
theorem EX8_multiply {K : CX} {l : Launch} {n0 k0 : Nat} {w : XW} {l0 : Nat} {l1 : Int32} {l2 : Int32} {q : Int32 × XW} (h0 : eX8_multiply w l0 l1 l2 = some q) : WP K l mX8_multiply 3 64 n0 k0 (some (.int q.1)) q.2 0 [some (.ref l0), some (.int l1), some (.int l2)] [] w := by
  unfold eX8_multiply at h0
  refine wp_iload_n dX8_multiply_0 rfl ?_
  refine wp_i2l dX8_multiply_1 ?_
  refine wp_lconst (v := (0 : Int64)) dX8_multiply_2 (by decide) ?_
  refine wp_ldc2 tw837 dX8_multiply_3 ?_
  obtain ⟨q1, e3, h2⟩ := Option.bind_eq_some_iff.mp h0
  clear h0
  refine wp_Si (As := [.long (l1.toInt64), .long (0 : Int64), .long (5 : Int64)]) (S := []) okM_X8_in tw785 tw784 rfl ⟨(Nat.le_of_ble_eq_true rfl), (Nat.le_of_ble_eq_true rfl)⟩ (Nat.le_of_ble_eq_true rfl) rfl dX8_multiply_6 (MX8_in e3) ?_
  refine wp_if_eq (tgt := 30) dX8_multiply_9 (by decide) (fun c4 => ?_) (fun c4 => ?_)
  · rw [if_pos c4] at h2
    exact WP.wk (BX8_multiply_30 h2) trivial
  · rw [if_neg c4] at h2
    refine wp_iload_n dX8_multiply_12 rfl ?_
    refine wp_i2l dX8_multiply_13 ?_
    refine wp_ldc2 tw891 dX8_multiply_14 ?_
    refine wp_ldc2 tw892 dX8_multiply_17 ?_
    obtain ⟨q5, e7, h6⟩ := Option.bind_eq_some_iff.mp h2
    clear h2
    refine wp_Si (As := [.long (l2.toInt64), .long (-9 : Int64), .long (9 : Int64)]) (S := []) okM_X8_in tw785 tw784 rfl ⟨(Nat.le_of_ble_eq_true rfl), (Nat.le_of_ble_eq_true rfl)⟩ (Nat.le_of_ble_eq_true rfl) rfl dX8_multiply_20 (MX8_in e7) ?_
    refine wp_if_eq (tgt := 30) dX8_multiply_23 (by decide) (fun c8 => ?_) (fun c8 => ?_)
    · rw [if_pos c8] at h6
      exact WP.wk (BX8_multiply_30 h6) trivial
    · rw [if_neg c8] at h6
      refine wp_iload_n dX8_multiply_26 rfl ?_
      refine wp_if_ne (tgt := 32) dX8_multiply_27 (by decide) (fun c9 => ?_) (fun c9 => ?_)
      · rw [if_neg c9] at h6
        refine wp_aload_n dX8_multiply_32 rfl ?_
        obtain ⟨x10, e12, h11⟩ := Option.bind_eq_some_iff.mp h6
        clear h6
        refine wp_getR okX8 (k := 7) (by decide) tw712 dX8_multiply_33 e12 ?_
        refine wp_iload_n dX8_multiply_36 rfl ?_
        obtain ⟨x13, e15, h14⟩ := Option.bind_eq_some_iff.mp h11
        clear h11
        refine wp_iald dX8_multiply_37 e15 ?_
        refine wp_iload_n dX8_multiply_38 rfl ?_
        refine wp_iadd dX8_multiply_39 ?_
        refine wp_i2l dX8_multiply_40 ?_
        refine wp_lconst (v := (0 : Int64)) dX8_multiply_41 (by decide) ?_
        refine wp_ldc2 tw857 dX8_multiply_42 ?_
        obtain ⟨q16, e18, h17⟩ := Option.bind_eq_some_iff.mp h14
        clear h14
        refine wp_Si (As := [.long ((x13 + l2).toInt64), .long (0 : Int64), .long (999 : Int64)]) (S := []) okM_X8_in tw785 tw784 rfl ⟨(Nat.le_of_ble_eq_true rfl), (Nat.le_of_ble_eq_true rfl)⟩ (Nat.le_of_ble_eq_true rfl) rfl dX8_multiply_45 (MX8_in e18) ?_
        refine wp_if_ne (tgt := 54) dX8_multiply_48 (by decide) (fun c19 => ?_) (fun c19 => ?_)
        · rw [if_neg c19] at h17
          refine wp_aload_n dX8_multiply_54 rfl ?_
          obtain ⟨q20, e22, h21⟩ := Option.bind_eq_some_iff.mp h17
          clear h17
          refine wp_Vv (As := []) (S := []) okM_X8_known tw873 twP_X8_known tw871 (OX8_known e22) rfl rfl rfl ⟨(Nat.le_of_ble_eq_true rfl), (Nat.le_of_ble_eq_true rfl)⟩ (Nat.le_of_ble_eq_true rfl) rfl dX8_multiply_55 (MX8_known e22) ?_
          refine wp_aload_n dX8_multiply_58 rfl ?_
          obtain ⟨x23, e25, h24⟩ := Option.bind_eq_some_iff.mp h21
          clear h21
          refine wp_getR okX8 (k := 7) (by decide) tw712 dX8_multiply_59 e25 ?_
          refine wp_iload_n dX8_multiply_62 rfl ?_
          refine wp_dup2 dX8_multiply_63 rfl rfl ?_
          obtain ⟨x26, e28, h27⟩ := Option.bind_eq_some_iff.mp h24
          clear h24
          refine wp_iald dX8_multiply_64 e28 ?_
          refine wp_iload_n dX8_multiply_65 rfl ?_
          refine wp_iadd dX8_multiply_66 ?_
          obtain ⟨w29, e31, h30⟩ := Option.bind_eq_some_iff.mp h27
          clear h27
          refine wp_iast dX8_multiply_67 e31 ?_
          refine wp_aload_n dX8_multiply_68 rfl ?_
          obtain ⟨x32, e34, h33⟩ := Option.bind_eq_some_iff.mp h30
          clear h30
          refine wp_getR okX8 (k := 7) (by decide) tw712 dX8_multiply_69 e34 ?_
          refine wp_bipush (v := (17 : Int32)) dX8_multiply_72 (by decide) ?_
          refine wp_iconst (v := (0 : Int32)) dX8_multiply_74 (by decide) ?_
          obtain ⟨w35, e37, h36⟩ := Option.bind_eq_some_iff.mp h33
          clear h33
          refine wp_iast dX8_multiply_75 e37 ?_
          refine wp_aload_n dX8_multiply_76 rfl ?_
          obtain ⟨x38, e40, h39⟩ := Option.bind_eq_some_iff.mp h36
          clear h36
          refine wp_getR okX8 (k := 7) (by decide) tw712 dX8_multiply_77 e40 ?_
          refine wp_iload_n dX8_multiply_80 rfl ?_
          obtain ⟨x41, e43, h42⟩ := Option.bind_eq_some_iff.mp h39
          clear h39
          refine wp_iald dX8_multiply_81 e43 ?_
          cases h42
          exact wp_iret rfl dX8_multiply_82
        · rw [if_pos c19] at h17
          refine wp_bipush (v := (-2 : Int32)) dX8_multiply_51 (by decide) ?_
          cases h17
          exact wp_iret rfl dX8_multiply_53
      · rw [if_pos c9] at h6
        exact WP.wk (BX8_multiply_30 h6) trivial
def fX8_multiply (w : XW) (l0 : Nat) (l1 : Int32) (l2 : Int32) : Option (Int32 × XW) := if isO w l0 8 = true then eX8_multiply w l0 l1 l2 else none
theorem OX8_multiply {w : XW} {l0 : Nat} {l1 : Int32} {l2 : Int32} {q : Int32 × XW} (h : fX8_multiply w l0 l1 l2 = some q) : isO w l0 8 = true := Decidable.byContradiction fun z => by unfold fX8_multiply at h; rw [if_neg z] at h; cases h
theorem MX8_multiply {K : CX} {l : Launch} {w : XW} {l0 : Nat} {l1 : Int32} {l2 : Int32} {q : Int32 × XW} (h : fX8_multiply w l0 l1 l2 = some q) : MT K l mX8_multiply 3 64 [.ref l0, .int l1, .int l2] w (some (.int q.1)) q.2 := by
  have z := OX8_multiply h
  unfold fX8_multiply at h
  rw [if_pos z] at h
  exact MT.of (by decide) (Nat.le_of_ble_eq_true rfl) rfl (EX8_multiply h)
/-! FractionRun$State.shift(II)V: frames 1, words 20 -/
abbrev mX5_shift : MR := (⟨"FractionRun$State", "shift", "(II)V"⟩, prog_7_method_20_code, 5, none)
theorem dX5_shift_0 : decode prog_7_method_20_code 0 = .ok (.aload_n 0, 1) := by decide +kernel
theorem dX5_shift_1 : decode prog_7_method_20_code 1 = .ok (.getfield 15, 3) := by decide +kernel
theorem dX5_shift_4 : decode prog_7_method_20_code 4 = .ok (.iload_n 1, 1) := by decide +kernel
theorem dX5_shift_5 : decode prog_7_method_20_code 5 = .ok (.iaload, 1) := by decide +kernel
theorem dX5_shift_6 : decode prog_7_method_20_code 6 = .ok (.istore_n 3, 1) := by decide +kernel
theorem dX5_shift_7 : decode prog_7_method_20_code 7 = .ok (.iload_n 1, 1) := by decide +kernel
theorem dX5_shift_8 : decode prog_7_method_20_code 8 = .ok (.istore 4, 2) := by decide +kernel
theorem dX5_shift_10 : decode prog_7_method_20_code 10 = .ok (.iload 4, 2) := by decide +kernel
theorem dX5_shift_12 : decode prog_7_method_20_code 12 = .ok (.iload_n 2, 1) := by decide +kernel
theorem dX5_shift_13 : decode prog_7_method_20_code 13 = .ok (.if_icmp .ge 25, 3) := by decide +kernel
theorem dX5_shift_16 : decode prog_7_method_20_code 16 = .ok (.aload_n 0, 1) := by decide +kernel
theorem dX5_shift_17 : decode prog_7_method_20_code 17 = .ok (.getfield 15, 3) := by decide +kernel
theorem dX5_shift_20 : decode prog_7_method_20_code 20 = .ok (.iload 4, 2) := by decide +kernel
theorem dX5_shift_22 : decode prog_7_method_20_code 22 = .ok (.aload_n 0, 1) := by decide +kernel
theorem dX5_shift_23 : decode prog_7_method_20_code 23 = .ok (.getfield 15, 3) := by decide +kernel
theorem dX5_shift_26 : decode prog_7_method_20_code 26 = .ok (.iload 4, 2) := by decide +kernel
theorem dX5_shift_28 : decode prog_7_method_20_code 28 = .ok (.iconst 1, 1) := by decide +kernel
theorem dX5_shift_29 : decode prog_7_method_20_code 29 = .ok (.iadd, 1) := by decide +kernel
theorem dX5_shift_30 : decode prog_7_method_20_code 30 = .ok (.iaload, 1) := by decide +kernel
theorem dX5_shift_31 : decode prog_7_method_20_code 31 = .ok (.iastore, 1) := by decide +kernel
theorem dX5_shift_32 : decode prog_7_method_20_code 32 = .ok (.iinc 4 1, 3) := by decide +kernel
theorem dX5_shift_35 : decode prog_7_method_20_code 35 = .ok (.goto (-25), 3) := by decide +kernel
theorem dX5_shift_38 : decode prog_7_method_20_code 38 = .ok (.iload_n 1, 1) := by decide +kernel
theorem dX5_shift_39 : decode prog_7_method_20_code 39 = .ok (.istore 4, 2) := by decide +kernel
theorem dX5_shift_41 : decode prog_7_method_20_code 41 = .ok (.iload 4, 2) := by decide +kernel
theorem dX5_shift_43 : decode prog_7_method_20_code 43 = .ok (.iload_n 2, 1) := by decide +kernel
theorem dX5_shift_44 : decode prog_7_method_20_code 44 = .ok (.if_icmp .le 25, 3) := by decide +kernel
theorem dX5_shift_47 : decode prog_7_method_20_code 47 = .ok (.aload_n 0, 1) := by decide +kernel
theorem dX5_shift_48 : decode prog_7_method_20_code 48 = .ok (.getfield 15, 3) := by decide +kernel
theorem dX5_shift_51 : decode prog_7_method_20_code 51 = .ok (.iload 4, 2) := by decide +kernel
theorem dX5_shift_53 : decode prog_7_method_20_code 53 = .ok (.aload_n 0, 1) := by decide +kernel
theorem dX5_shift_54 : decode prog_7_method_20_code 54 = .ok (.getfield 15, 3) := by decide +kernel
theorem dX5_shift_57 : decode prog_7_method_20_code 57 = .ok (.iload 4, 2) := by decide +kernel
theorem dX5_shift_59 : decode prog_7_method_20_code 59 = .ok (.iconst 1, 1) := by decide +kernel
theorem dX5_shift_60 : decode prog_7_method_20_code 60 = .ok (.isub, 1) := by decide +kernel
theorem dX5_shift_61 : decode prog_7_method_20_code 61 = .ok (.iaload, 1) := by decide +kernel
theorem dX5_shift_62 : decode prog_7_method_20_code 62 = .ok (.iastore, 1) := by decide +kernel
theorem dX5_shift_63 : decode prog_7_method_20_code 63 = .ok (.iinc 4 (-1), 3) := by decide +kernel
theorem dX5_shift_66 : decode prog_7_method_20_code 66 = .ok (.goto (-25), 3) := by decide +kernel
theorem dX5_shift_69 : decode prog_7_method_20_code 69 = .ok (.aload_n 0, 1) := by decide +kernel
theorem dX5_shift_70 : decode prog_7_method_20_code 70 = .ok (.getfield 15, 3) := by decide +kernel
theorem dX5_shift_73 : decode prog_7_method_20_code 73 = .ok (.iload_n 2, 1) := by decide +kernel
theorem dX5_shift_74 : decode prog_7_method_20_code 74 = .ok (.iload_n 3, 1) := by decide +kernel
theorem dX5_shift_75 : decode prog_7_method_20_code 75 = .ok (.iastore, 1) := by decide +kernel
theorem dX5_shift_76 : decode prog_7_method_20_code 76 = .ok (.aload_n 0, 1) := by decide +kernel
theorem dX5_shift_77 : decode prog_7_method_20_code 77 = .ok (.iconst 0, 1) := by decide +kernel
theorem dX5_shift_78 : decode prog_7_method_20_code 78 = .ok (.putfield 45, 3) := by decide +kernel
theorem dX5_shift_81 : decode prog_7_method_20_code 81 = .ok (.return_, 1) := by decide +kernel
theorem okM_X5_shift : okM mX5_shift 2 := ⟨tw453, tw5, by decide, by decide, by decide +kernel⟩
abbrev KTX5_shift : Type := (XW → Nat → Int32 → Int32 → Int32 → Int32 → Option XW) × (XW → Nat → Int32 → Int32 → Int32 → Option XW)
def hX5_shift_41 (k : KTX5_shift) (w : XW) (l0 : Nat) (l2 : Int32) (l3 : Int32) (l4 : Int32) : Option XW :=
  if l4 ≤ l2 then
  (gR w l0 5 1).bind fun x2 =>
  (sI w 0 x2 l2 l3).bind fun w5 =>
  (pV w5 l0 5 5 (.int (0 : Int32))).bind fun w8 =>
  some w8
  else
  (gR w l0 5 1).bind fun x11 =>
  (gR w l0 5 1).bind fun x14 =>
  (aI w 0 x14 (l4 - (1 : Int32))).bind fun x17 =>
  (sI w 0 x11 l4 x17).bind fun w20 =>
  k.2 w20 l0 l2 l3 (l4 + (-1 : Int32))
theorem HX5_shift_41 {K : CX} {l : Launch} {n0 k0 : Nat} {k : KTX5_shift} (hk0 : ∀ (w : XW) (l0 : Nat) (l1 : Int32) (l2 : Int32) (l3 : Int32) (l4 : Int32) (q : XW), k.1 w l0 l1 l2 l3 l4 = some q → WP K l mX5_shift 1 20 n0 k0 none q 10 [some (.ref l0), some (.int l1), some (.int l2), some (.int l3), some (.int l4)] [] w) (hk1 : ∀ (w : XW) (l0 : Nat) (l2 : Int32) (l3 : Int32) (l4 : Int32) (q : XW), k.2 w l0 l2 l3 l4 = some q → WP K l mX5_shift 1 20 n0 k0 none q 41 [some (.ref l0), none, some (.int l2), some (.int l3), some (.int l4)] [] w) {w : XW} {l0 : Nat} {l2 : Int32} {l3 : Int32} {l4 : Int32} {q : XW} (h0 : hX5_shift_41 k w l0 l2 l3 l4 = some q) : WP K l mX5_shift 1 20 n0 k0 none q 41 [some (.ref l0), none, some (.int l2), some (.int l3), some (.int l4)] [] w := by
  unfold hX5_shift_41 at h0
  refine wp_iload dX5_shift_41 rfl ?_
  refine wp_iload_n dX5_shift_43 rfl ?_
  refine wp_icmp_le (tgt := 69) dX5_shift_44 (by decide) (fun c1 => ?_) (fun c1 => ?_)
  · rw [if_pos c1] at h0
    refine wp_aload_n dX5_shift_69 rfl ?_
    obtain ⟨x2, e4, h3⟩ := Option.bind_eq_some_iff.mp h0
    clear h0
    refine wp_getR okX5 (k := 1) (by decide) tw95 dX5_shift_70 e4 ?_
    refine wp_iload_n dX5_shift_73 rfl ?_
    refine wp_iload_n dX5_shift_74 rfl ?_
    obtain ⟨w5, e7, h6⟩ := Option.bind_eq_some_iff.mp h3
    clear h3
    refine wp_iast dX5_shift_75 e7 ?_
    refine wp_aload_n dX5_shift_76 rfl ?_
    refine wp_iconst (v := (0 : Int32)) dX5_shift_77 (by decide) ?_
    obtain ⟨w8, e10, h9⟩ := Option.bind_eq_some_iff.mp h6
    clear h6
    refine wp_putV okX5 (k := 5) (by decide) rfl tw105 dX5_shift_78 rfl rfl e10 ?_
    cases h9
    exact wp_vret rfl dX5_shift_81
  · rw [if_neg c1] at h0
    refine wp_aload_n dX5_shift_47 rfl ?_
    obtain ⟨x11, e13, h12⟩ := Option.bind_eq_some_iff.mp h0
    clear h0
    refine wp_getR okX5 (k := 1) (by decide) tw95 dX5_shift_48 e13 ?_
    refine wp_iload dX5_shift_51 rfl ?_
    refine wp_aload_n dX5_shift_53 rfl ?_
    obtain ⟨x14, e16, h15⟩ := Option.bind_eq_some_iff.mp h12
    clear h12
    refine wp_getR okX5 (k := 1) (by decide) tw95 dX5_shift_54 e16 ?_
    refine wp_iload dX5_shift_57 rfl ?_
    refine wp_iconst (v := (1 : Int32)) dX5_shift_59 (by decide) ?_
    refine wp_isub dX5_shift_60 ?_
    obtain ⟨x17, e19, h18⟩ := Option.bind_eq_some_iff.mp h15
    clear h15
    refine wp_iald dX5_shift_61 e19 ?_
    obtain ⟨w20, e22, h21⟩ := Option.bind_eq_some_iff.mp h18
    clear h18
    refine wp_iast dX5_shift_62 e22 ?_
    refine wp_iinc (v := (l4 + (-1 : Int32))) (L1 := [some (.ref l0), none, some (.int l2), some (.int l3), some (.int (l4 + (-1 : Int32)))]) dX5_shift_63 (Nat.le_of_ble_eq_true rfl) rfl (congrArg (fun z => l4 + z) (by decide)) rfl ?_
    refine wp_goto (tgt := 41) dX5_shift_66 (by decide) ?_
    exact WP.wk (hk1 _ _ _ _ _ _ h21) (And.intro rfl (And.intro rfl (And.intro rfl (And.intro rfl trivial))))
def hX5_shift_10 (k : KTX5_shift) (w : XW) (l0 : Nat) (l1 : Int32) (l2 : Int32) (l3 : Int32) (l4 : Int32) : Option XW :=
  if l2 ≤ l4 then
  k.2 w l0 l2 l3 l1
  else
  (gR w l0 5 1).bind fun x2 =>
  (gR w l0 5 1).bind fun x5 =>
  (aI w 0 x5 (l4 + (1 : Int32))).bind fun x8 =>
  (sI w 0 x2 l4 x8).bind fun w11 =>
  k.1 w11 l0 l1 l2 l3 (l4 + (1 : Int32))
theorem HX5_shift_10 {K : CX} {l : Launch} {n0 k0 : Nat} {k : KTX5_shift} (hk0 : ∀ (w : XW) (l0 : Nat) (l1 : Int32) (l2 : Int32) (l3 : Int32) (l4 : Int32) (q : XW), k.1 w l0 l1 l2 l3 l4 = some q → WP K l mX5_shift 1 20 n0 k0 none q 10 [some (.ref l0), some (.int l1), some (.int l2), some (.int l3), some (.int l4)] [] w) (hk1 : ∀ (w : XW) (l0 : Nat) (l2 : Int32) (l3 : Int32) (l4 : Int32) (q : XW), k.2 w l0 l2 l3 l4 = some q → WP K l mX5_shift 1 20 n0 k0 none q 41 [some (.ref l0), none, some (.int l2), some (.int l3), some (.int l4)] [] w) {w : XW} {l0 : Nat} {l1 : Int32} {l2 : Int32} {l3 : Int32} {l4 : Int32} {q : XW} (h0 : hX5_shift_10 k w l0 l1 l2 l3 l4 = some q) : WP K l mX5_shift 1 20 n0 k0 none q 10 [some (.ref l0), some (.int l1), some (.int l2), some (.int l3), some (.int l4)] [] w := by
  unfold hX5_shift_10 at h0
  refine wp_iload dX5_shift_10 rfl ?_
  refine wp_iload_n dX5_shift_12 rfl ?_
  refine wp_icmp_ge (tgt := 38) dX5_shift_13 (by decide) (fun c1 => ?_) (fun c1 => ?_)
  · rw [if_pos c1] at h0
    refine wp_iload_n dX5_shift_38 rfl ?_
    refine wp_istore (L1 := [some (.ref l0), some (.int l1), some (.int l2), some (.int l3), some (.int l1)]) dX5_shift_39 (Nat.le_of_ble_eq_true rfl) rfl ?_
    exact WP.wk (hk1 _ _ _ _ _ _ h0) (And.intro rfl (And.intro rfl (And.intro rfl (And.intro rfl trivial))))
  · rw [if_neg c1] at h0
    refine wp_aload_n dX5_shift_16 rfl ?_
    obtain ⟨x2, e4, h3⟩ := Option.bind_eq_some_iff.mp h0
    clear h0
    refine wp_getR okX5 (k := 1) (by decide) tw95 dX5_shift_17 e4 ?_
    refine wp_iload dX5_shift_20 rfl ?_
    refine wp_aload_n dX5_shift_22 rfl ?_
    obtain ⟨x5, e7, h6⟩ := Option.bind_eq_some_iff.mp h3
    clear h3
    refine wp_getR okX5 (k := 1) (by decide) tw95 dX5_shift_23 e7 ?_
    refine wp_iload dX5_shift_26 rfl ?_
    refine wp_iconst (v := (1 : Int32)) dX5_shift_28 (by decide) ?_
    refine wp_iadd dX5_shift_29 ?_
    obtain ⟨x8, e10, h9⟩ := Option.bind_eq_some_iff.mp h6
    clear h6
    refine wp_iald dX5_shift_30 e10 ?_
    obtain ⟨w11, e13, h12⟩ := Option.bind_eq_some_iff.mp h9
    clear h9
    refine wp_iast dX5_shift_31 e13 ?_
    refine wp_iinc (v := (l4 + (1 : Int32))) (L1 := [some (.ref l0), some (.int l1), some (.int l2), some (.int l3), some (.int (l4 + (1 : Int32)))]) dX5_shift_32 (Nat.le_of_ble_eq_true rfl) rfl (congrArg (fun z => l4 + z) (by decide)) rfl ?_
    refine wp_goto (tgt := 10) dX5_shift_35 (by decide) ?_
    exact WP.wk (hk0 _ _ _ _ _ _ _ h12) (And.intro rfl (And.intro rfl (And.intro rfl (And.intro rfl (And.intro rfl trivial)))))
def eX5_shift (k : KTX5_shift) (w : XW) (l0 : Nat) (l1 : Int32) (l2 : Int32) : Option XW :=
  (gR w l0 5 1).bind fun x1 =>
  (aI w 0 x1 l1).bind fun x4 =>
  k.1 w l0 l1 l2 x4 l1
theorem EX5_shift {K : CX} {l : Launch} {n0 k0 : Nat} {k : KTX5_shift} (hk0 : ∀ (w : XW) (l0 : Nat) (l1 : Int32) (l2 : Int32) (l3 : Int32) (l4 : Int32) (q : XW), k.1 w l0 l1 l2 l3 l4 = some q → WP K l mX5_shift 1 20 n0 k0 none q 10 [some (.ref l0), some (.int l1), some (.int l2), some (.int l3), some (.int l4)] [] w) (hk1 : ∀ (w : XW) (l0 : Nat) (l2 : Int32) (l3 : Int32) (l4 : Int32) (q : XW), k.2 w l0 l2 l3 l4 = some q → WP K l mX5_shift 1 20 n0 k0 none q 41 [some (.ref l0), none, some (.int l2), some (.int l3), some (.int l4)] [] w) {w : XW} {l0 : Nat} {l1 : Int32} {l2 : Int32} {q : XW} (h0 : eX5_shift k w l0 l1 l2 = some q) : WP K l mX5_shift 1 20 n0 k0 none q 0 [some (.ref l0), some (.int l1), some (.int l2), none, none] [] w := by
  unfold eX5_shift at h0
  refine wp_aload_n dX5_shift_0 rfl ?_
  obtain ⟨x1, e3, h2⟩ := Option.bind_eq_some_iff.mp h0
  clear h0
  refine wp_getR okX5 (k := 1) (by decide) tw95 dX5_shift_1 e3 ?_
  refine wp_iload_n dX5_shift_4 rfl ?_
  obtain ⟨x4, e6, h5⟩ := Option.bind_eq_some_iff.mp h2
  clear h2
  refine wp_iald dX5_shift_5 e6 ?_
  refine wp_istore_n (L1 := [some (.ref l0), some (.int l1), some (.int l2), some (.int x4), none]) dX5_shift_6 (Nat.le_of_ble_eq_true rfl) rfl ?_
  refine wp_iload_n dX5_shift_7 rfl ?_
  refine wp_istore (L1 := [some (.ref l0), some (.int l1), some (.int l2), some (.int x4), some (.int l1)]) dX5_shift_8 (Nat.le_of_ble_eq_true rfl) rfl ?_
  exact WP.wk (hk0 _ _ _ _ _ _ _ h5) (And.intro rfl (And.intro rfl (And.intro rfl (And.intro rfl (And.intro rfl trivial)))))
def loX5_shift : Nat → KTX5_shift
  | 0 => (fun _ _ _ _ _ _ => none, fun _ _ _ _ _ => none)
  | n + 1 => (hX5_shift_10 (loX5_shift n), hX5_shift_41 (loX5_shift n))
theorem LOX5_shift {K : CX} {l : Launch} {n0 k0 : Nat} : ∀ n : Nat, (∀ (w : XW) (l0 : Nat) (l1 : Int32) (l2 : Int32) (l3 : Int32) (l4 : Int32) (q : XW), (loX5_shift n).1 w l0 l1 l2 l3 l4 = some q → WP K l mX5_shift 1 20 n0 k0 none q 10 [some (.ref l0), some (.int l1), some (.int l2), some (.int l3), some (.int l4)] [] w) ∧ (∀ (w : XW) (l0 : Nat) (l2 : Int32) (l3 : Int32) (l4 : Int32) (q : XW), (loX5_shift n).2 w l0 l2 l3 l4 = some q → WP K l mX5_shift 1 20 n0 k0 none q 41 [some (.ref l0), none, some (.int l2), some (.int l3), some (.int l4)] [] w) := by
  intro n
  induction n with
  | zero => exact ⟨fun _ _ _ _ _ _ q h => (by cases h), fun _ _ _ _ _ q h => (by cases h)⟩
  | succ n ih => exact ⟨fun _ _ _ _ _ _ q h => HX5_shift_10 ih.1 ih.2 h, fun _ _ _ _ _ q h => HX5_shift_41 ih.1 ih.2 h⟩
def fX5_shift (w : XW) (l0 : Nat) (l1 : Int32) (l2 : Int32) : Option XW := if isO w l0 5 = true then eX5_shift (loX5_shift FU) w l0 l1 l2 else none
theorem OX5_shift {w : XW} {l0 : Nat} {l1 : Int32} {l2 : Int32} {q : XW} (h : fX5_shift w l0 l1 l2 = some q) : isO w l0 5 = true := Decidable.byContradiction fun z => by unfold fX5_shift at h; rw [if_neg z] at h; cases h
theorem MX5_shift {K : CX} {l : Launch} {w : XW} {l0 : Nat} {l1 : Int32} {l2 : Int32} {q : XW} (h : fX5_shift w l0 l1 l2 = some q) : MT K l mX5_shift 1 20 [.ref l0, .int l1, .int l2] w none q := by
  have z := OX5_shift h
  unfold fX5_shift at h
  rw [if_pos z] at h
  exact MT.of (by decide) (Nat.le_of_ble_eq_true rfl) rfl (EX5_shift (LOX5_shift FU).1 (LOX5_shift FU).2 h)
/-! FractionRun.move(II)I: frames 3, words 68 -/
abbrev mX7_move : MR := (⟨"FractionRun", "move", "(II)I"⟩, prog_1_method_10_code, 4, (some .int))
theorem dX7_move_0 : decode prog_1_method_10_code 0 = .ok (.aload_n 0, 1) := by decide +kernel
theorem dX7_move_1 : decode prog_1_method_10_code 1 = .ok (.iload_n 1, 1) := by decide +kernel
theorem dX7_move_2 : decode prog_1_method_10_code 2 = .ok (.invokevirtual 120, 3) := by decide +kernel
theorem dX7_move_5 : decode prog_1_method_10_code 5 = .ok (.ifCond .eq 18, 3) := by decide +kernel
theorem dX7_move_8 : decode prog_1_method_10_code 8 = .ok (.iload_n 2, 1) := by decide +kernel
theorem dX7_move_9 : decode prog_1_method_10_code 9 = .ok (.ifCond .lt 14, 3) := by decide +kernel
theorem dX7_move_12 : decode prog_1_method_10_code 12 = .ok (.iload_n 2, 1) := by decide +kernel
theorem dX7_move_13 : decode prog_1_method_10_code 13 = .ok (.aload_n 0, 1) := by decide +kernel
theorem dX7_move_14 : decode prog_1_method_10_code 14 = .ok (.getfield 36, 3) := by decide +kernel
theorem dX7_move_17 : decode prog_1_method_10_code 17 = .ok (.getfield 175, 3) := by decide +kernel
theorem dX7_move_20 : decode prog_1_method_10_code 20 = .ok (.if_icmp .lt 5, 3) := by decide +kernel
theorem dX7_move_23 : decode prog_1_method_10_code 23 = .ok (.iconst (-1), 1) := by decide +kernel
theorem dX7_move_24 : decode prog_1_method_10_code 24 = .ok (.ireturn, 1) := by decide +kernel
theorem dX7_move_25 : decode prog_1_method_10_code 25 = .ok (.aload_n 0, 1) := by decide +kernel
theorem dX7_move_26 : decode prog_1_method_10_code 26 = .ok (.getfield 36, 3) := by decide +kernel
theorem dX7_move_29 : decode prog_1_method_10_code 29 = .ok (.iload_n 1, 1) := by decide +kernel
theorem dX7_move_30 : decode prog_1_method_10_code 30 = .ok (.invokevirtual 133, 3) := by decide +kernel
theorem dX7_move_33 : decode prog_1_method_10_code 33 = .ok (.istore_n 3, 1) := by decide +kernel
theorem dX7_move_34 : decode prog_1_method_10_code 34 = .ok (.iload_n 3, 1) := by decide +kernel
theorem dX7_move_35 : decode prog_1_method_10_code 35 = .ok (.bipush (-4), 2) := by decide +kernel
theorem dX7_move_37 : decode prog_1_method_10_code 37 = .ok (.if_icmp .eq 8, 3) := by decide +kernel
theorem dX7_move_40 : decode prog_1_method_10_code 40 = .ok (.iload_n 3, 1) := by decide +kernel
theorem dX7_move_41 : decode prog_1_method_10_code 41 = .ok (.iload_n 2, 1) := by decide +kernel
theorem dX7_move_42 : decode prog_1_method_10_code 42 = .ok (.if_icmp .ne 6, 3) := by decide +kernel
theorem dX7_move_45 : decode prog_1_method_10_code 45 = .ok (.bipush (-2), 2) := by decide +kernel
theorem dX7_move_47 : decode prog_1_method_10_code 47 = .ok (.ireturn, 1) := by decide +kernel
theorem dX7_move_48 : decode prog_1_method_10_code 48 = .ok (.aload_n 0, 1) := by decide +kernel
theorem dX7_move_49 : decode prog_1_method_10_code 49 = .ok (.getfield 49, 3) := by decide +kernel
theorem dX7_move_52 : decode prog_1_method_10_code 52 = .ok (.aload_n 0, 1) := by decide +kernel
theorem dX7_move_53 : decode prog_1_method_10_code 53 = .ok (.getfield 36, 3) := by decide +kernel
theorem dX7_move_56 : decode prog_1_method_10_code 56 = .ok (.invokevirtual 157, 3) := by decide +kernel
theorem dX7_move_59 : decode prog_1_method_10_code 59 = .ok (.aload_n 0, 1) := by decide +kernel
theorem dX7_move_60 : decode prog_1_method_10_code 60 = .ok (.getfield 36, 3) := by decide +kernel
theorem dX7_move_63 : decode prog_1_method_10_code 63 = .ok (.iload_n 3, 1) := by decide +kernel
theorem dX7_move_64 : decode prog_1_method_10_code 64 = .ok (.iload_n 2, 1) := by decide +kernel
theorem dX7_move_65 : decode prog_1_method_10_code 65 = .ok (.invokevirtual 178, 3) := by decide +kernel
theorem dX7_move_68 : decode prog_1_method_10_code 68 = .ok (.iload_n 3, 1) := by decide +kernel
theorem dX7_move_69 : decode prog_1_method_10_code 69 = .ok (.ireturn, 1) := by decide +kernel
theorem okM_X7_move : okM mX7_move 2 := ⟨tw449, tw1, by decide, by decide, by decide +kernel⟩
def bX7_move_45 (w : XW) : Option (Int32 × XW) :=
  some ((-2 : Int32), w)
theorem BX7_move_45 {K : CX} {l : Launch} {n0 k0 : Nat} {w : XW} {q : Int32 × XW} (h0 : bX7_move_45 w = some q) : WP K l mX7_move 3 68 n0 k0 (some (.int q.1)) q.2 45 [none, none, none, none] [] w := by
  unfold bX7_move_45 at h0
  refine wp_bipush (v := (-2 : Int32)) dX7_move_45 (by decide) ?_
  cases h0
  exact wp_iret rfl dX7_move_47
def bX7_move_23 (w : XW) : Option (Int32 × XW) :=
  some ((-1 : Int32), w)
theorem BX7_move_23 {K : CX} {l : Launch} {n0 k0 : Nat} {w : XW} {q : Int32 × XW} (h0 : bX7_move_23 w = some q) : WP K l mX7_move 3 68 n0 k0 (some (.int q.1)) q.2 23 [none, none, none, none] [] w := by
  unfold bX7_move_23 at h0
  refine wp_iconst (v := (-1 : Int32)) dX7_move_23 (by decide) ?_
  cases h0
  exact wp_iret rfl dX7_move_24
def eX7_move (w : XW) (l0 : Nat) (l1 : Int32) (l2 : Int32) : Option (Int32 × XW) :=
  (fX7_isTold w l0 l1).bind fun q1 =>
  if q1.1 = 0 then
  bX7_move_23 q1.2
  else
  if l2 < 0 then
  bX7_move_23 q1.2
  else
  (gR q1.2 l0 7 4).bind fun x6 =>
  (gI q1.2 x6 5 2).bind fun x9 =>
  if l2 < x9 then
  (gR q1.2 l0 7 4).bind fun x13 =>
  (fX5_placeOf q1.2 x13 l1).bind fun q16 =>
  if q16.1 = (-4 : Int32) then
  bX7_move_45 q16.2
  else
  if q16.1 = l2 then
  bX7_move_45 q16.2
  else
  (gR q16.2 l0 7 7).bind fun x21 =>
  (gR q16.2 l0 7 4).bind fun x24 =>
  (fX3_push q16.2 x21 x24).bind fun q27 =>
  (gR q27 l0 7 4).bind fun x30 =>
  (fX5_shift q27 x30 q16.1 l2).bind fun q33 =>
  some (q16.1, q33)
  else
  bX7_move_23 q1.2
theorem EX7_move {K : CX} {l : Launch} {n0 k0 : Nat} {w : XW} {l0 : Nat} {l1 : Int32} {l2 : Int32} {q : Int32 × XW} (h0 : eX7_move w l0 l1 l2 = some q) : WP K l mX7_move 3 68 n0 k0 (some (.int q.1)) q.2 0 [some (.ref l0), some (.int l1), some (.int l2), none] [] w := by
  unfold eX7_move at h0
  refine wp_aload_n dX7_move_0 rfl ?_
  refine wp_iload_n dX7_move_1 rfl ?_
  obtain ⟨q1, e3, h2⟩ := Option.bind_eq_some_iff.mp h0
  clear h0
  refine wp_Vi (As := [.int l1]) (S := []) okM_X7_isTold tw380 twP_X7_isTold tw378 (OX7_isTold e3) rfl rfl rfl ⟨(Nat.le_of_ble_eq_true rfl), (Nat.le_of_ble_eq_true rfl)⟩ (Nat.le_of_ble_eq_true rfl) rfl dX7_move_2 (MX7_isTold e3) ?_
  refine wp_if_eq (tgt := 23) dX7_move_5 (by decide) (fun c4 => ?_) (fun c4 => ?_)
  · rw [if_pos c4] at h2
    exact WP.wk (BX7_move_23 h2) trivial
  · rw [if_neg c4] at h2
    refine wp_iload_n dX7_move_8 rfl ?_
    refine wp_if_lt (tgt := 23) dX7_move_9 (by decide) (fun c5 => ?_) (fun c5 => ?_)
    · rw [if_pos c5] at h2
      exact WP.wk (BX7_move_23 h2) trivial
    · rw [if_neg c5] at h2
      refine wp_iload_n dX7_move_12 rfl ?_
      refine wp_aload_n dX7_move_13 rfl ?_
      obtain ⟨x6, e8, h7⟩ := Option.bind_eq_some_iff.mp h2
      clear h2
      refine wp_getR okX7 (k := 4) (by decide) tw302 dX7_move_14 e8 ?_
      obtain ⟨x9, e11, h10⟩ := Option.bind_eq_some_iff.mp h7
      clear h7
      refine wp_getI okX5 (k := 2) (by decide) tw98 dX7_move_17 e11 ?_
      refine wp_icmp_lt (tgt := 25) dX7_move_20 (by decide) (fun c12 => ?_) (fun c12 => ?_)
      · rw [if_pos c12] at h10
        refine wp_aload_n dX7_move_25 rfl ?_
        obtain ⟨x13, e15, h14⟩ := Option.bind_eq_some_iff.mp h10
        clear h10
        refine wp_getR okX7 (k := 4) (by decide) tw302 dX7_move_26 e15 ?_
        refine wp_iload_n dX7_move_29 rfl ?_
        obtain ⟨q16, e18, h17⟩ := Option.bind_eq_some_iff.mp h14
        clear h14
        refine wp_Vi (As := [.int l1]) (S := []) okM_X5_placeOf tw383 tw384 tw382 (OX5_placeOf e18) rfl rfl rfl ⟨(Nat.le_of_ble_eq_true rfl), (Nat.le_of_ble_eq_true rfl)⟩ (Nat.le_of_ble_eq_true rfl) rfl dX7_move_30 (MX5_placeOf e18) ?_
        refine wp_istore_n (L1 := [some (.ref l0), some (.int l1), some (.int l2), some (.int q16.1)]) dX7_move_33 (Nat.le_of_ble_eq_true rfl) rfl ?_
        refine wp_iload_n dX7_move_34 rfl ?_
        refine wp_bipush (v := (-4 : Int32)) dX7_move_35 (by decide) ?_
        refine wp_icmp_eq (tgt := 45) dX7_move_37 (by decide) (fun c19 => ?_) (fun c19 => ?_)
        · rw [if_pos c19] at h17
          exact WP.wk (BX7_move_45 h17) trivial
        · rw [if_neg c19] at h17
          refine wp_iload_n dX7_move_40 rfl ?_
          refine wp_iload_n dX7_move_41 rfl ?_
          refine wp_icmp_ne (tgt := 48) dX7_move_42 (by decide) (fun c20 => ?_) (fun c20 => ?_)
          · rw [if_neg c20] at h17
            refine wp_aload_n dX7_move_48 rfl ?_
            obtain ⟨x21, e23, h22⟩ := Option.bind_eq_some_iff.mp h17
            clear h17
            refine wp_getR okX7 (k := 7) (by decide) tw305 dX7_move_49 e23 ?_
            refine wp_aload_n dX7_move_52 rfl ?_
            obtain ⟨x24, e26, h25⟩ := Option.bind_eq_some_iff.mp h22
            clear h22
            refine wp_getR okX7 (k := 4) (by decide) tw302 dX7_move_53 e26 ?_
            obtain ⟨q27, e29, h28⟩ := Option.bind_eq_some_iff.mp h25
            clear h25
            refine wp_Vv (As := [.ref x24]) (S := []) okM_X3_push tw415 tw416 tw414 (OX3_push e29) rfl rfl rfl ⟨(Nat.le_of_ble_eq_true rfl), (Nat.le_of_ble_eq_true rfl)⟩ (Nat.le_of_ble_eq_true rfl) rfl dX7_move_56 (MX3_push e29) ?_
            refine wp_aload_n dX7_move_59 rfl ?_
            obtain ⟨x30, e32, h31⟩ := Option.bind_eq_some_iff.mp h28
            clear h28
            refine wp_getR okX7 (k := 4) (by decide) tw302 dX7_move_60 e32 ?_
            refine wp_iload_n dX7_move_63 rfl ?_
            refine wp_iload_n dX7_move_64 rfl ?_
            obtain ⟨q33, e35, h34⟩ := Option.bind_eq_some_iff.mp h31
            clear h31
            refine wp_Vv (As := [.int q16.1, .int l2]) (S := []) okM_X5_shift tw451 tw452 tw450 (OX5_shift e35) rfl rfl rfl ⟨(Nat.le_of_ble_eq_true rfl), (Nat.le_of_ble_eq_true rfl)⟩ (Nat.le_of_ble_eq_true rfl) rfl dX7_move_65 (MX5_shift e35) ?_
            refine wp_iload_n dX7_move_68 rfl ?_
            cases h34
            exact wp_iret rfl dX7_move_69
          · rw [if_pos c20] at h17
            exact WP.wk (BX7_move_45 h17) trivial
      · rw [if_neg c12] at h10
        exact WP.wk (BX7_move_23 h10) trivial
def fX7_move (w : XW) (l0 : Nat) (l1 : Int32) (l2 : Int32) : Option (Int32 × XW) := if isO w l0 7 = true then eX7_move w l0 l1 l2 else none
theorem OX7_move {w : XW} {l0 : Nat} {l1 : Int32} {l2 : Int32} {q : Int32 × XW} (h : fX7_move w l0 l1 l2 = some q) : isO w l0 7 = true := Decidable.byContradiction fun z => by unfold fX7_move at h; rw [if_neg z] at h; cases h
theorem MX7_move {K : CX} {l : Launch} {w : XW} {l0 : Nat} {l1 : Int32} {l2 : Int32} {q : Int32 × XW} (h : fX7_move w l0 l1 l2 = some q) : MT K l mX7_move 3 68 [.ref l0, .int l1, .int l2] w (some (.int q.1)) q.2 := by
  have z := OX7_move h
  unfold fX7_move at h
  rw [if_pos z] at h
  exact MT.of (by decide) (Nat.le_of_ble_eq_true rfl) rfl (EX7_move h)
/-! FractionRunModel.moves(III)V: frames 1, words 20 -/
abbrev mX8_moves : MR := (⟨"FractionRunModel", "moves", "(III)V"⟩, prog_10_method_34_code, 6, none)
theorem dX8_moves_0 : decode prog_10_method_34_code 0 = .ok (.aload_n 0, 1) := by decide +kernel
theorem dX8_moves_1 : decode prog_10_method_34_code 1 = .ok (.getfield 25, 3) := by decide +kernel
theorem dX8_moves_4 : decode prog_10_method_34_code 4 = .ok (.iload_n 1, 1) := by decide +kernel
theorem dX8_moves_5 : decode prog_10_method_34_code 5 = .ok (.bipush 6, 2) := by decide +kernel
theorem dX8_moves_7 : decode prog_10_method_34_code 7 = .ok (.iadd, 1) := by decide +kernel
theorem dX8_moves_8 : decode prog_10_method_34_code 8 = .ok (.iload_n 2, 1) := by decide +kernel
theorem dX8_moves_9 : decode prog_10_method_34_code 9 = .ok (.iadd, 1) := by decide +kernel
theorem dX8_moves_10 : decode prog_10_method_34_code 10 = .ok (.iaload, 1) := by decide +kernel
theorem dX8_moves_11 : decode prog_10_method_34_code 11 = .ok (.istore 4, 2) := by decide +kernel
theorem dX8_moves_13 : decode prog_10_method_34_code 13 = .ok (.iload_n 2, 1) := by decide +kernel
theorem dX8_moves_14 : decode prog_10_method_34_code 14 = .ok (.istore 5, 2) := by decide +kernel
theorem dX8_moves_16 : decode prog_10_method_34_code 16 = .ok (.iload 5, 2) := by decide +kernel
theorem dX8_moves_18 : decode prog_10_method_34_code 18 = .ok (.iload_n 3, 1) := by decide +kernel
theorem dX8_moves_19 : decode prog_10_method_34_code 19 = .ok (.if_icmp .ge 35, 3) := by decide +kernel
theorem dX8_moves_22 : decode prog_10_method_34_code 22 = .ok (.aload_n 0, 1) := by decide +kernel
theorem dX8_moves_23 : decode prog_10_method_34_code 23 = .ok (.getfield 25, 3) := by decide +kernel
theorem dX8_moves_26 : decode prog_10_method_34_code 26 = .ok (.iload_n 1, 1) := by decide +kernel
theorem dX8_moves_27 : decode prog_10_method_34_code 27 = .ok (.bipush 6, 2) := by decide +kernel
theorem dX8_moves_29 : decode prog_10_method_34_code 29 = .ok (.iadd, 1) := by decide +kernel
theorem dX8_moves_30 : decode prog_10_method_34_code 30 = .ok (.iload 5, 2) := by decide +kernel
theorem dX8_moves_32 : decode prog_10_method_34_code 32 = .ok (.iadd, 1) := by decide +kernel
theorem dX8_moves_33 : decode prog_10_method_34_code 33 = .ok (.aload_n 0, 1) := by decide +kernel
theorem dX8_moves_34 : decode prog_10_method_34_code 34 = .ok (.getfield 25, 3) := by decide +kernel
theorem dX8_moves_37 : decode prog_10_method_34_code 37 = .ok (.iload_n 1, 1) := by decide +kernel
theorem dX8_moves_38 : decode prog_10_method_34_code 38 = .ok (.bipush 6, 2) := by decide +kernel
theorem dX8_moves_40 : decode prog_10_method_34_code 40 = .ok (.iadd, 1) := by decide +kernel
theorem dX8_moves_41 : decode prog_10_method_34_code 41 = .ok (.iload 5, 2) := by decide +kernel
theorem dX8_moves_43 : decode prog_10_method_34_code 43 = .ok (.iadd, 1) := by decide +kernel
theorem dX8_moves_44 : decode prog_10_method_34_code 44 = .ok (.iconst 1, 1) := by decide +kernel
theorem dX8_moves_45 : decode prog_10_method_34_code 45 = .ok (.iadd, 1) := by decide +kernel
theorem dX8_moves_46 : decode prog_10_method_34_code 46 = .ok (.iaload, 1) := by decide +kernel
theorem dX8_moves_47 : decode prog_10_method_34_code 47 = .ok (.iastore, 1) := by decide +kernel
theorem dX8_moves_48 : decode prog_10_method_34_code 48 = .ok (.iinc 5 1, 3) := by decide +kernel
theorem dX8_moves_51 : decode prog_10_method_34_code 51 = .ok (.goto (-35), 3) := by decide +kernel
theorem dX8_moves_54 : decode prog_10_method_34_code 54 = .ok (.iload_n 2, 1) := by decide +kernel
theorem dX8_moves_55 : decode prog_10_method_34_code 55 = .ok (.istore 5, 2) := by decide +kernel
theorem dX8_moves_57 : decode prog_10_method_34_code 57 = .ok (.iload 5, 2) := by decide +kernel
theorem dX8_moves_59 : decode prog_10_method_34_code 59 = .ok (.iload_n 3, 1) := by decide +kernel
theorem dX8_moves_60 : decode prog_10_method_34_code 60 = .ok (.if_icmp .le 35, 3) := by decide +kernel
theorem dX8_moves_63 : decode prog_10_method_34_code 63 = .ok (.aload_n 0, 1) := by decide +kernel
theorem dX8_moves_64 : decode prog_10_method_34_code 64 = .ok (.getfield 25, 3) := by decide +kernel
theorem dX8_moves_67 : decode prog_10_method_34_code 67 = .ok (.iload_n 1, 1) := by decide +kernel
theorem dX8_moves_68 : decode prog_10_method_34_code 68 = .ok (.bipush 6, 2) := by decide +kernel
theorem dX8_moves_70 : decode prog_10_method_34_code 70 = .ok (.iadd, 1) := by decide +kernel
theorem dX8_moves_71 : decode prog_10_method_34_code 71 = .ok (.iload 5, 2) := by decide +kernel
theorem dX8_moves_73 : decode prog_10_method_34_code 73 = .ok (.iadd, 1) := by decide +kernel
theorem dX8_moves_74 : decode prog_10_method_34_code 74 = .ok (.aload_n 0, 1) := by decide +kernel
theorem dX8_moves_75 : decode prog_10_method_34_code 75 = .ok (.getfield 25, 3) := by decide +kernel
theorem dX8_moves_78 : decode prog_10_method_34_code 78 = .ok (.iload_n 1, 1) := by decide +kernel
theorem dX8_moves_79 : decode prog_10_method_34_code 79 = .ok (.bipush 6, 2) := by decide +kernel
theorem dX8_moves_81 : decode prog_10_method_34_code 81 = .ok (.iadd, 1) := by decide +kernel
theorem dX8_moves_82 : decode prog_10_method_34_code 82 = .ok (.iload 5, 2) := by decide +kernel
theorem dX8_moves_84 : decode prog_10_method_34_code 84 = .ok (.iadd, 1) := by decide +kernel
theorem dX8_moves_85 : decode prog_10_method_34_code 85 = .ok (.iconst 1, 1) := by decide +kernel
theorem dX8_moves_86 : decode prog_10_method_34_code 86 = .ok (.isub, 1) := by decide +kernel
theorem dX8_moves_87 : decode prog_10_method_34_code 87 = .ok (.iaload, 1) := by decide +kernel
theorem dX8_moves_88 : decode prog_10_method_34_code 88 = .ok (.iastore, 1) := by decide +kernel
theorem dX8_moves_89 : decode prog_10_method_34_code 89 = .ok (.iinc 5 (-1), 3) := by decide +kernel
theorem dX8_moves_92 : decode prog_10_method_34_code 92 = .ok (.goto (-35), 3) := by decide +kernel
theorem dX8_moves_95 : decode prog_10_method_34_code 95 = .ok (.aload_n 0, 1) := by decide +kernel
theorem dX8_moves_96 : decode prog_10_method_34_code 96 = .ok (.getfield 25, 3) := by decide +kernel
theorem dX8_moves_99 : decode prog_10_method_34_code 99 = .ok (.iload_n 1, 1) := by decide +kernel
theorem dX8_moves_100 : decode prog_10_method_34_code 100 = .ok (.bipush 6, 2) := by decide +kernel
theorem dX8_moves_102 : decode prog_10_method_34_code 102 = .ok (.iadd, 1) := by decide +kernel
theorem dX8_moves_103 : decode prog_10_method_34_code 103 = .ok (.iload_n 3, 1) := by decide +kernel
theorem dX8_moves_104 : decode prog_10_method_34_code 104 = .ok (.iadd, 1) := by decide +kernel
theorem dX8_moves_105 : decode prog_10_method_34_code 105 = .ok (.iload 4, 2) := by decide +kernel
theorem dX8_moves_107 : decode prog_10_method_34_code 107 = .ok (.iastore, 1) := by decide +kernel
theorem dX8_moves_108 : decode prog_10_method_34_code 108 = .ok (.aload_n 0, 1) := by decide +kernel
theorem dX8_moves_109 : decode prog_10_method_34_code 109 = .ok (.getfield 25, 3) := by decide +kernel
theorem dX8_moves_112 : decode prog_10_method_34_code 112 = .ok (.iload_n 1, 1) := by decide +kernel
theorem dX8_moves_113 : decode prog_10_method_34_code 113 = .ok (.bipush 17, 2) := by decide +kernel
theorem dX8_moves_115 : decode prog_10_method_34_code 115 = .ok (.iadd, 1) := by decide +kernel
theorem dX8_moves_116 : decode prog_10_method_34_code 116 = .ok (.iconst 0, 1) := by decide +kernel
theorem dX8_moves_117 : decode prog_10_method_34_code 117 = .ok (.iastore, 1) := by decide +kernel
theorem dX8_moves_118 : decode prog_10_method_34_code 118 = .ok (.return_, 1) := by decide +kernel
theorem okM_X8_moves : okM mX8_moves 3 := ⟨tw900, tw15, by decide, by decide, by decide +kernel⟩
abbrev KTX8_moves : Type := (XW → Nat → Int32 → Int32 → Int32 → Int32 → Int32 → Option XW) × (XW → Nat → Int32 → Int32 → Int32 → Int32 → Option XW)
def hX8_moves_57 (k : KTX8_moves) (w : XW) (l0 : Nat) (l1 : Int32) (l3 : Int32) (l4 : Int32) (l5 : Int32) : Option XW :=
  if l5 ≤ l3 then
  (gR w l0 8 7).bind fun x2 =>
  (sI w 0 x2 ((l1 + (6 : Int32)) + l3) l4).bind fun w5 =>
  (gR w5 l0 8 7).bind fun x8 =>
  (sI w5 0 x8 (l1 + (17 : Int32)) (0 : Int32)).bind fun w11 =>
  some w11
  else
  (gR w l0 8 7).bind fun x14 =>
  (gR w l0 8 7).bind fun x17 =>
  (aI w 0 x17 (((l1 + (6 : Int32)) + l5) - (1 : Int32))).bind fun x20 =>
  (sI w 0 x14 ((l1 + (6 : Int32)) + l5) x20).bind fun w23 =>
  k.2 w23 l0 l1 l3 l4 (l5 + (-1 : Int32))
theorem HX8_moves_57 {K : CX} {l : Launch} {n0 k0 : Nat} {k : KTX8_moves} (hk0 : ∀ (w : XW) (l0 : Nat) (l1 : Int32) (l2 : Int32) (l3 : Int32) (l4 : Int32) (l5 : Int32) (q : XW), k.1 w l0 l1 l2 l3 l4 l5 = some q → WP K l mX8_moves 1 20 n0 k0 none q 16 [some (.ref l0), some (.int l1), some (.int l2), some (.int l3), some (.int l4), some (.int l5)] [] w) (hk1 : ∀ (w : XW) (l0 : Nat) (l1 : Int32) (l3 : Int32) (l4 : Int32) (l5 : Int32) (q : XW), k.2 w l0 l1 l3 l4 l5 = some q → WP K l mX8_moves 1 20 n0 k0 none q 57 [some (.ref l0), some (.int l1), none, some (.int l3), some (.int l4), some (.int l5)] [] w) {w : XW} {l0 : Nat} {l1 : Int32} {l3 : Int32} {l4 : Int32} {l5 : Int32} {q : XW} (h0 : hX8_moves_57 k w l0 l1 l3 l4 l5 = some q) : WP K l mX8_moves 1 20 n0 k0 none q 57 [some (.ref l0), some (.int l1), none, some (.int l3), some (.int l4), some (.int l5)] [] w := by
  unfold hX8_moves_57 at h0
  refine wp_iload dX8_moves_57 rfl ?_
  refine wp_iload_n dX8_moves_59 rfl ?_
  refine wp_icmp_le (tgt := 95) dX8_moves_60 (by decide) (fun c1 => ?_) (fun c1 => ?_)
  · rw [if_pos c1] at h0
    refine wp_aload_n dX8_moves_95 rfl ?_
    obtain ⟨x2, e4, h3⟩ := Option.bind_eq_some_iff.mp h0
    clear h0
    refine wp_getR okX8 (k := 7) (by decide) tw712 dX8_moves_96 e4 ?_
    refine wp_iload_n dX8_moves_99 rfl ?_
    refine wp_bipush (v := (6 : Int32)) dX8_moves_100 (by decide) ?_
    refine wp_iadd dX8_moves_102 ?_
    refine wp_iload_n dX8_moves_103 rfl ?_
    refine wp_iadd dX8_moves_104 ?_
    refine wp_iload dX8_moves_105 rfl ?_
    obtain ⟨w5, e7, h6⟩ := Option.bind_eq_some_iff.mp h3
    clear h3
    refine wp_iast dX8_moves_107 e7 ?_
    refine wp_aload_n dX8_moves_108 rfl ?_
    obtain ⟨x8, e10, h9⟩ := Option.bind_eq_some_iff.mp h6
    clear h6
    refine wp_getR okX8 (k := 7) (by decide) tw712 dX8_moves_109 e10 ?_
    refine wp_iload_n dX8_moves_112 rfl ?_
    refine wp_bipush (v := (17 : Int32)) dX8_moves_113 (by decide) ?_
    refine wp_iadd dX8_moves_115 ?_
    refine wp_iconst (v := (0 : Int32)) dX8_moves_116 (by decide) ?_
    obtain ⟨w11, e13, h12⟩ := Option.bind_eq_some_iff.mp h9
    clear h9
    refine wp_iast dX8_moves_117 e13 ?_
    cases h12
    exact wp_vret rfl dX8_moves_118
  · rw [if_neg c1] at h0
    refine wp_aload_n dX8_moves_63 rfl ?_
    obtain ⟨x14, e16, h15⟩ := Option.bind_eq_some_iff.mp h0
    clear h0
    refine wp_getR okX8 (k := 7) (by decide) tw712 dX8_moves_64 e16 ?_
    refine wp_iload_n dX8_moves_67 rfl ?_
    refine wp_bipush (v := (6 : Int32)) dX8_moves_68 (by decide) ?_
    refine wp_iadd dX8_moves_70 ?_
    refine wp_iload dX8_moves_71 rfl ?_
    refine wp_iadd dX8_moves_73 ?_
    refine wp_aload_n dX8_moves_74 rfl ?_
    obtain ⟨x17, e19, h18⟩ := Option.bind_eq_some_iff.mp h15
    clear h15
    refine wp_getR okX8 (k := 7) (by decide) tw712 dX8_moves_75 e19 ?_
    refine wp_iload_n dX8_moves_78 rfl ?_
    refine wp_bipush (v := (6 : Int32)) dX8_moves_79 (by decide) ?_
    refine wp_iadd dX8_moves_81 ?_
    refine wp_iload dX8_moves_82 rfl ?_
    refine wp_iadd dX8_moves_84 ?_
    refine wp_iconst (v := (1 : Int32)) dX8_moves_85 (by decide) ?_
    refine wp_isub dX8_moves_86 ?_
    obtain ⟨x20, e22, h21⟩ := Option.bind_eq_some_iff.mp h18
    clear h18
    refine wp_iald dX8_moves_87 e22 ?_
    obtain ⟨w23, e25, h24⟩ := Option.bind_eq_some_iff.mp h21
    clear h21
    refine wp_iast dX8_moves_88 e25 ?_
    refine wp_iinc (v := (l5 + (-1 : Int32))) (L1 := [some (.ref l0), some (.int l1), none, some (.int l3), some (.int l4), some (.int (l5 + (-1 : Int32)))]) dX8_moves_89 (Nat.le_of_ble_eq_true rfl) rfl (congrArg (fun z => l5 + z) (by decide)) rfl ?_
    refine wp_goto (tgt := 57) dX8_moves_92 (by decide) ?_
    exact WP.wk (hk1 _ _ _ _ _ _ _ h24) (And.intro rfl (And.intro rfl (And.intro rfl (And.intro rfl (And.intro rfl trivial)))))
def hX8_moves_16 (k : KTX8_moves) (w : XW) (l0 : Nat) (l1 : Int32) (l2 : Int32) (l3 : Int32) (l4 : Int32) (l5 : Int32) : Option XW :=
  if l3 ≤ l5 then
  k.2 w l0 l1 l3 l4 l2
  else
  (gR w l0 8 7).bind fun x2 =>
  (gR w l0 8 7).bind fun x5 =>
  (aI w 0 x5 (((l1 + (6 : Int32)) + l5) + (1 : Int32))).bind fun x8 =>
  (sI w 0 x2 ((l1 + (6 : Int32)) + l5) x8).bind fun w11 =>
  k.1 w11 l0 l1 l2 l3 l4 (l5 + (1 : Int32))
theorem HX8_moves_16 {K : CX} {l : Launch} {n0 k0 : Nat} {k : KTX8_moves} (hk0 : ∀ (w : XW) (l0 : Nat) (l1 : Int32) (l2 : Int32) (l3 : Int32) (l4 : Int32) (l5 : Int32) (q : XW), k.1 w l0 l1 l2 l3 l4 l5 = some q → WP K l mX8_moves 1 20 n0 k0 none q 16 [some (.ref l0), some (.int l1), some (.int l2), some (.int l3), some (.int l4), some (.int l5)] [] w) (hk1 : ∀ (w : XW) (l0 : Nat) (l1 : Int32) (l3 : Int32) (l4 : Int32) (l5 : Int32) (q : XW), k.2 w l0 l1 l3 l4 l5 = some q → WP K l mX8_moves 1 20 n0 k0 none q 57 [some (.ref l0), some (.int l1), none, some (.int l3), some (.int l4), some (.int l5)] [] w) {w : XW} {l0 : Nat} {l1 : Int32} {l2 : Int32} {l3 : Int32} {l4 : Int32} {l5 : Int32} {q : XW} (h0 : hX8_moves_16 k w l0 l1 l2 l3 l4 l5 = some q) : WP K l mX8_moves 1 20 n0 k0 none q 16 [some (.ref l0), some (.int l1), some (.int l2), some (.int l3), some (.int l4), some (.int l5)] [] w := by
  unfold hX8_moves_16 at h0
  refine wp_iload dX8_moves_16 rfl ?_
  refine wp_iload_n dX8_moves_18 rfl ?_
  refine wp_icmp_ge (tgt := 54) dX8_moves_19 (by decide) (fun c1 => ?_) (fun c1 => ?_)
  · rw [if_pos c1] at h0
    refine wp_iload_n dX8_moves_54 rfl ?_
    refine wp_istore (L1 := [some (.ref l0), some (.int l1), some (.int l2), some (.int l3), some (.int l4), some (.int l2)]) dX8_moves_55 (Nat.le_of_ble_eq_true rfl) rfl ?_
    exact WP.wk (hk1 _ _ _ _ _ _ _ h0) (And.intro rfl (And.intro rfl (And.intro rfl (And.intro rfl (And.intro rfl trivial)))))
  · rw [if_neg c1] at h0
    refine wp_aload_n dX8_moves_22 rfl ?_
    obtain ⟨x2, e4, h3⟩ := Option.bind_eq_some_iff.mp h0
    clear h0
    refine wp_getR okX8 (k := 7) (by decide) tw712 dX8_moves_23 e4 ?_
    refine wp_iload_n dX8_moves_26 rfl ?_
    refine wp_bipush (v := (6 : Int32)) dX8_moves_27 (by decide) ?_
    refine wp_iadd dX8_moves_29 ?_
    refine wp_iload dX8_moves_30 rfl ?_
    refine wp_iadd dX8_moves_32 ?_
    refine wp_aload_n dX8_moves_33 rfl ?_
    obtain ⟨x5, e7, h6⟩ := Option.bind_eq_some_iff.mp h3
    clear h3
    refine wp_getR okX8 (k := 7) (by decide) tw712 dX8_moves_34 e7 ?_
    refine wp_iload_n dX8_moves_37 rfl ?_
    refine wp_bipush (v := (6 : Int32)) dX8_moves_38 (by decide) ?_
    refine wp_iadd dX8_moves_40 ?_
    refine wp_iload dX8_moves_41 rfl ?_
    refine wp_iadd dX8_moves_43 ?_
    refine wp_iconst (v := (1 : Int32)) dX8_moves_44 (by decide) ?_
    refine wp_iadd dX8_moves_45 ?_
    obtain ⟨x8, e10, h9⟩ := Option.bind_eq_some_iff.mp h6
    clear h6
    refine wp_iald dX8_moves_46 e10 ?_
    obtain ⟨w11, e13, h12⟩ := Option.bind_eq_some_iff.mp h9
    clear h9
    refine wp_iast dX8_moves_47 e13 ?_
    refine wp_iinc (v := (l5 + (1 : Int32))) (L1 := [some (.ref l0), some (.int l1), some (.int l2), some (.int l3), some (.int l4), some (.int (l5 + (1 : Int32)))]) dX8_moves_48 (Nat.le_of_ble_eq_true rfl) rfl (congrArg (fun z => l5 + z) (by decide)) rfl ?_
    refine wp_goto (tgt := 16) dX8_moves_51 (by decide) ?_
    exact WP.wk (hk0 _ _ _ _ _ _ _ _ h12) (And.intro rfl (And.intro rfl (And.intro rfl (And.intro rfl (And.intro rfl (And.intro rfl trivial))))))
def eX8_moves (k : KTX8_moves) (w : XW) (l0 : Nat) (l1 : Int32) (l2 : Int32) (l3 : Int32) : Option XW :=
  (gR w l0 8 7).bind fun x1 =>
  (aI w 0 x1 ((l1 + (6 : Int32)) + l2)).bind fun x4 =>
  k.1 w l0 l1 l2 l3 x4 l2
theorem EX8_moves {K : CX} {l : Launch} {n0 k0 : Nat} {k : KTX8_moves} (hk0 : ∀ (w : XW) (l0 : Nat) (l1 : Int32) (l2 : Int32) (l3 : Int32) (l4 : Int32) (l5 : Int32) (q : XW), k.1 w l0 l1 l2 l3 l4 l5 = some q → WP K l mX8_moves 1 20 n0 k0 none q 16 [some (.ref l0), some (.int l1), some (.int l2), some (.int l3), some (.int l4), some (.int l5)] [] w) (hk1 : ∀ (w : XW) (l0 : Nat) (l1 : Int32) (l3 : Int32) (l4 : Int32) (l5 : Int32) (q : XW), k.2 w l0 l1 l3 l4 l5 = some q → WP K l mX8_moves 1 20 n0 k0 none q 57 [some (.ref l0), some (.int l1), none, some (.int l3), some (.int l4), some (.int l5)] [] w) {w : XW} {l0 : Nat} {l1 : Int32} {l2 : Int32} {l3 : Int32} {q : XW} (h0 : eX8_moves k w l0 l1 l2 l3 = some q) : WP K l mX8_moves 1 20 n0 k0 none q 0 [some (.ref l0), some (.int l1), some (.int l2), some (.int l3), none, none] [] w := by
  unfold eX8_moves at h0
  refine wp_aload_n dX8_moves_0 rfl ?_
  obtain ⟨x1, e3, h2⟩ := Option.bind_eq_some_iff.mp h0
  clear h0
  refine wp_getR okX8 (k := 7) (by decide) tw712 dX8_moves_1 e3 ?_
  refine wp_iload_n dX8_moves_4 rfl ?_
  refine wp_bipush (v := (6 : Int32)) dX8_moves_5 (by decide) ?_
  refine wp_iadd dX8_moves_7 ?_
  refine wp_iload_n dX8_moves_8 rfl ?_
  refine wp_iadd dX8_moves_9 ?_
  obtain ⟨x4, e6, h5⟩ := Option.bind_eq_some_iff.mp h2
  clear h2
  refine wp_iald dX8_moves_10 e6 ?_
  refine wp_istore (L1 := [some (.ref l0), some (.int l1), some (.int l2), some (.int l3), some (.int x4), none]) dX8_moves_11 (Nat.le_of_ble_eq_true rfl) rfl ?_
  refine wp_iload_n dX8_moves_13 rfl ?_
  refine wp_istore (L1 := [some (.ref l0), some (.int l1), some (.int l2), some (.int l3), some (.int x4), some (.int l2)]) dX8_moves_14 (Nat.le_of_ble_eq_true rfl) rfl ?_
  exact WP.wk (hk0 _ _ _ _ _ _ _ _ h5) (And.intro rfl (And.intro rfl (And.intro rfl (And.intro rfl (And.intro rfl (And.intro rfl trivial))))))
def loX8_moves : Nat → KTX8_moves
  | 0 => (fun _ _ _ _ _ _ _ => none, fun _ _ _ _ _ _ => none)
  | n + 1 => (hX8_moves_16 (loX8_moves n), hX8_moves_57 (loX8_moves n))
theorem LOX8_moves {K : CX} {l : Launch} {n0 k0 : Nat} : ∀ n : Nat, (∀ (w : XW) (l0 : Nat) (l1 : Int32) (l2 : Int32) (l3 : Int32) (l4 : Int32) (l5 : Int32) (q : XW), (loX8_moves n).1 w l0 l1 l2 l3 l4 l5 = some q → WP K l mX8_moves 1 20 n0 k0 none q 16 [some (.ref l0), some (.int l1), some (.int l2), some (.int l3), some (.int l4), some (.int l5)] [] w) ∧ (∀ (w : XW) (l0 : Nat) (l1 : Int32) (l3 : Int32) (l4 : Int32) (l5 : Int32) (q : XW), (loX8_moves n).2 w l0 l1 l3 l4 l5 = some q → WP K l mX8_moves 1 20 n0 k0 none q 57 [some (.ref l0), some (.int l1), none, some (.int l3), some (.int l4), some (.int l5)] [] w) := by
  intro n
  induction n with
  | zero => exact ⟨fun _ _ _ _ _ _ _ q h => (by cases h), fun _ _ _ _ _ _ q h => (by cases h)⟩
  | succ n ih => exact ⟨fun _ _ _ _ _ _ _ q h => HX8_moves_16 ih.1 ih.2 h, fun _ _ _ _ _ _ q h => HX8_moves_57 ih.1 ih.2 h⟩
def fX8_moves (w : XW) (l0 : Nat) (l1 : Int32) (l2 : Int32) (l3 : Int32) : Option XW := if isO w l0 8 = true then eX8_moves (loX8_moves FU) w l0 l1 l2 l3 else none
theorem OX8_moves {w : XW} {l0 : Nat} {l1 : Int32} {l2 : Int32} {l3 : Int32} {q : XW} (h : fX8_moves w l0 l1 l2 l3 = some q) : isO w l0 8 = true := Decidable.byContradiction fun z => by unfold fX8_moves at h; rw [if_neg z] at h; cases h
theorem MX8_moves {K : CX} {l : Launch} {w : XW} {l0 : Nat} {l1 : Int32} {l2 : Int32} {l3 : Int32} {q : XW} (h : fX8_moves w l0 l1 l2 l3 = some q) : MT K l mX8_moves 1 20 [.ref l0, .int l1, .int l2, .int l3] w none q := by
  have z := OX8_moves h
  unfold fX8_moves at h
  rw [if_pos z] at h
  exact MT.of (by decide) (Nat.le_of_ble_eq_true rfl) rfl (EX8_moves (LOX8_moves FU).1 (LOX8_moves FU).2 h)
/-! FractionRunModel.move(II)I: frames 3, words 66 -/
abbrev mX8_move : MR := (⟨"FractionRunModel", "move", "(II)I"⟩, prog_10_method_35_code, 4, (some .int))
theorem dX8_move_0 : decode prog_10_method_35_code 0 = .ok (.aload_n 0, 1) := by decide +kernel
theorem dX8_move_1 : decode prog_10_method_35_code 1 = .ok (.iload_n 1, 1) := by decide +kernel
theorem dX8_move_2 : decode prog_10_method_35_code 2 = .ok (.invokevirtual 158, 3) := by decide +kernel
theorem dX8_move_5 : decode prog_10_method_35_code 5 = .ok (.ifCond .eq 22, 3) := by decide +kernel
theorem dX8_move_8 : decode prog_10_method_35_code 8 = .ok (.iload_n 2, 1) := by decide +kernel
theorem dX8_move_9 : decode prog_10_method_35_code 9 = .ok (.i2l, 1) := by decide +kernel
theorem dX8_move_10 : decode prog_10_method_35_code 10 = .ok (.lconst 0, 1) := by decide +kernel
theorem dX8_move_11 : decode prog_10_method_35_code 11 = .ok (.aload_n 0, 1) := by decide +kernel
theorem dX8_move_12 : decode prog_10_method_35_code 12 = .ok (.getfield 25, 3) := by decide +kernel
theorem dX8_move_15 : decode prog_10_method_35_code 15 = .ok (.bipush 14, 2) := by decide +kernel
theorem dX8_move_17 : decode prog_10_method_35_code 17 = .ok (.iaload, 1) := by decide +kernel
theorem dX8_move_18 : decode prog_10_method_35_code 18 = .ok (.iconst 1, 1) := by decide +kernel
theorem dX8_move_19 : decode prog_10_method_35_code 19 = .ok (.isub, 1) := by decide +kernel
theorem dX8_move_20 : decode prog_10_method_35_code 20 = .ok (.i2l, 1) := by decide +kernel
theorem dX8_move_21 : decode prog_10_method_35_code 21 = .ok (.invokestatic 88, 3) := by decide +kernel
theorem dX8_move_24 : decode prog_10_method_35_code 24 = .ok (.ifCond .ne 5, 3) := by decide +kernel
theorem dX8_move_27 : decode prog_10_method_35_code 27 = .ok (.iconst (-1), 1) := by decide +kernel
theorem dX8_move_28 : decode prog_10_method_35_code 28 = .ok (.ireturn, 1) := by decide +kernel
theorem dX8_move_29 : decode prog_10_method_35_code 29 = .ok (.aload_n 0, 1) := by decide +kernel
theorem dX8_move_30 : decode prog_10_method_35_code 30 = .ok (.iconst 0, 1) := by decide +kernel
theorem dX8_move_31 : decode prog_10_method_35_code 31 = .ok (.iload_n 1, 1) := by decide +kernel
theorem dX8_move_32 : decode prog_10_method_35_code 32 = .ok (.invokevirtual 167, 3) := by decide +kernel
theorem dX8_move_35 : decode prog_10_method_35_code 35 = .ok (.istore_n 3, 1) := by decide +kernel
theorem dX8_move_36 : decode prog_10_method_35_code 36 = .ok (.iload_n 3, 1) := by decide +kernel
theorem dX8_move_37 : decode prog_10_method_35_code 37 = .ok (.ifCond .lt 8, 3) := by decide +kernel
theorem dX8_move_40 : decode prog_10_method_35_code 40 = .ok (.iload_n 3, 1) := by decide +kernel
theorem dX8_move_41 : decode prog_10_method_35_code 41 = .ok (.iload_n 2, 1) := by decide +kernel
theorem dX8_move_42 : decode prog_10_method_35_code 42 = .ok (.if_icmp .ne 6, 3) := by decide +kernel
theorem dX8_move_45 : decode prog_10_method_35_code 45 = .ok (.bipush (-2), 2) := by decide +kernel
theorem dX8_move_47 : decode prog_10_method_35_code 47 = .ok (.ireturn, 1) := by decide +kernel
theorem dX8_move_48 : decode prog_10_method_35_code 48 = .ok (.aload_n 0, 1) := by decide +kernel
theorem dX8_move_49 : decode prog_10_method_35_code 49 = .ok (.invokevirtual 172, 3) := by decide +kernel
theorem dX8_move_52 : decode prog_10_method_35_code 52 = .ok (.aload_n 0, 1) := by decide +kernel
theorem dX8_move_53 : decode prog_10_method_35_code 53 = .ok (.iconst 0, 1) := by decide +kernel
theorem dX8_move_54 : decode prog_10_method_35_code 54 = .ok (.iload_n 3, 1) := by decide +kernel
theorem dX8_move_55 : decode prog_10_method_35_code 55 = .ok (.iload_n 2, 1) := by decide +kernel
theorem dX8_move_56 : decode prog_10_method_35_code 56 = .ok (.invokevirtual 182, 3) := by decide +kernel
theorem dX8_move_59 : decode prog_10_method_35_code 59 = .ok (.iload_n 3, 1) := by decide +kernel
theorem dX8_move_60 : decode prog_10_method_35_code 60 = .ok (.ireturn, 1) := by decide +kernel
theorem okM_X8_move : okM mX8_move 2 := ⟨tw896, tw15, by decide, by decide, by decide +kernel⟩
def bX8_move_45 (w : XW) : Option (Int32 × XW) :=
  some ((-2 : Int32), w)
theorem BX8_move_45 {K : CX} {l : Launch} {n0 k0 : Nat} {w : XW} {q : Int32 × XW} (h0 : bX8_move_45 w = some q) : WP K l mX8_move 3 66 n0 k0 (some (.int q.1)) q.2 45 [none, none, none, none] [] w := by
  unfold bX8_move_45 at h0
  refine wp_bipush (v := (-2 : Int32)) dX8_move_45 (by decide) ?_
  cases h0
  exact wp_iret rfl dX8_move_47
def bX8_move_27 (w : XW) : Option (Int32 × XW) :=
  some ((-1 : Int32), w)
theorem BX8_move_27 {K : CX} {l : Launch} {n0 k0 : Nat} {w : XW} {q : Int32 × XW} (h0 : bX8_move_27 w = some q) : WP K l mX8_move 3 66 n0 k0 (some (.int q.1)) q.2 27 [none, none, none, none] [] w := by
  unfold bX8_move_27 at h0
  refine wp_iconst (v := (-1 : Int32)) dX8_move_27 (by decide) ?_
  cases h0
  exact wp_iret rfl dX8_move_28
def eX8_move (w : XW) (l0 : Nat) (l1 : Int32) (l2 : Int32) : Option (Int32 × XW) :=
  (fX8_isFraction w l0 l1).bind fun q1 =>
  if q1.1 = 0 then
  bX8_move_27 q1.2
  else
  (gR q1.2 l0 8 7).bind fun x5 =>
  (aI q1.2 0 x5 (14 : Int32)).bind fun x8 =>
  (fX8_in q1.2 (l2.toInt64) (0 : Int64) ((x8 - (1 : Int32)).toInt64)).bind fun q11 =>
  if q11.1 = 0 then
  bX8_move_27 q11.2
  else
  (fX8_placeOf q11.2 l0 (0 : Int32) l1).bind fun q15 =>
  if q15.1 < 0 then
  bX8_move_45 q15.2
  else
  if q15.1 = l2 then
  bX8_move_45 q15.2
  else
  (fX8_known q15.2 l0).bind fun q20 =>
  (fX8_moves q20 l0 (0 : Int32) q15.1 l2).bind fun q23 =>
  some (q15.1, q23)
theorem EX8_move {K : CX} {l : Launch} {n0 k0 : Nat} {w : XW} {l0 : Nat} {l1 : Int32} {l2 : Int32} {q : Int32 × XW} (h0 : eX8_move w l0 l1 l2 = some q) : WP K l mX8_move 3 66 n0 k0 (some (.int q.1)) q.2 0 [some (.ref l0), some (.int l1), some (.int l2), none] [] w := by
  unfold eX8_move at h0
  refine wp_aload_n dX8_move_0 rfl ?_
  refine wp_iload_n dX8_move_1 rfl ?_
  obtain ⟨q1, e3, h2⟩ := Option.bind_eq_some_iff.mp h0
  clear h0
  refine wp_Vi (As := [.int l1]) (S := []) okM_X8_isFraction tw835 twP_X8_isFraction tw833 (OX8_isFraction e3) rfl rfl rfl ⟨(Nat.le_of_ble_eq_true rfl), (Nat.le_of_ble_eq_true rfl)⟩ (Nat.le_of_ble_eq_true rfl) rfl dX8_move_2 (MX8_isFraction e3) ?_
  refine wp_if_eq (tgt := 27) dX8_move_5 (by decide) (fun c4 => ?_) (fun c4 => ?_)
  · rw [if_pos c4] at h2
    exact WP.wk (BX8_move_27 h2) trivial
  · rw [if_neg c4] at h2
    refine wp_iload_n dX8_move_8 rfl ?_
    refine wp_i2l dX8_move_9 ?_
    refine wp_lconst (v := (0 : Int64)) dX8_move_10 (by decide) ?_
    refine wp_aload_n dX8_move_11 rfl ?_
    obtain ⟨x5, e7, h6⟩ := Option.bind_eq_some_iff.mp h2
    clear h2
    refine wp_getR okX8 (k := 7) (by decide) tw712 dX8_move_12 e7 ?_
    refine wp_bipush (v := (14 : Int32)) dX8_move_15 (by decide) ?_
    obtain ⟨x8, e10, h9⟩ := Option.bind_eq_some_iff.mp h6
    clear h6
    refine wp_iald dX8_move_17 e10 ?_
    refine wp_iconst (v := (1 : Int32)) dX8_move_18 (by decide) ?_
    refine wp_isub dX8_move_19 ?_
    refine wp_i2l dX8_move_20 ?_
    obtain ⟨q11, e13, h12⟩ := Option.bind_eq_some_iff.mp h9
    clear h9
    refine wp_Si (As := [.long (l2.toInt64), .long (0 : Int64), .long ((x8 - (1 : Int32)).toInt64)]) (S := []) okM_X8_in tw785 tw784 rfl ⟨(Nat.le_of_ble_eq_true rfl), (Nat.le_of_ble_eq_true rfl)⟩ (Nat.le_of_ble_eq_true rfl) rfl dX8_move_21 (MX8_in e13) ?_
    refine wp_if_ne (tgt := 29) dX8_move_24 (by decide) (fun c14 => ?_) (fun c14 => ?_)
    · rw [if_neg c14] at h12
      refine wp_aload_n dX8_move_29 rfl ?_
      refine wp_iconst (v := (0 : Int32)) dX8_move_30 (by decide) ?_
      refine wp_iload_n dX8_move_31 rfl ?_
      obtain ⟨q15, e17, h16⟩ := Option.bind_eq_some_iff.mp h12
      clear h12
      refine wp_Vi (As := [.int (0 : Int32), .int l1]) (S := []) okM_X8_placeOf tw844 twP_X8_placeOf tw842 (OX8_placeOf e17) rfl rfl rfl ⟨(Nat.le_of_ble_eq_true rfl), (Nat.le_of_ble_eq_true rfl)⟩ (Nat.le_of_ble_eq_true rfl) rfl dX8_move_32 (MX8_placeOf e17) ?_
      refine wp_istore_n (L1 := [some (.ref l0), some (.int l1), some (.int l2), some (.int q15.1)]) dX8_move_35 (Nat.le_of_ble_eq_true rfl) rfl ?_
      refine wp_iload_n dX8_move_36 rfl ?_
      refine wp_if_lt (tgt := 45) dX8_move_37 (by decide) (fun c18 => ?_) (fun c18 => ?_)
      · rw [if_pos c18] at h16
        exact WP.wk (BX8_move_45 h16) trivial
      · rw [if_neg c18] at h16
        refine wp_iload_n dX8_move_40 rfl ?_
        refine wp_iload_n dX8_move_41 rfl ?_
        refine wp_icmp_ne (tgt := 48) dX8_move_42 (by decide) (fun c19 => ?_) (fun c19 => ?_)
        · rw [if_neg c19] at h16
          refine wp_aload_n dX8_move_48 rfl ?_
          obtain ⟨q20, e22, h21⟩ := Option.bind_eq_some_iff.mp h16
          clear h16
          refine wp_Vv (As := []) (S := []) okM_X8_known tw873 twP_X8_known tw871 (OX8_known e22) rfl rfl rfl ⟨(Nat.le_of_ble_eq_true rfl), (Nat.le_of_ble_eq_true rfl)⟩ (Nat.le_of_ble_eq_true rfl) rfl dX8_move_49 (MX8_known e22) ?_
          refine wp_aload_n dX8_move_52 rfl ?_
          refine wp_iconst (v := (0 : Int32)) dX8_move_53 (by decide) ?_
          refine wp_iload_n dX8_move_54 rfl ?_
          refine wp_iload_n dX8_move_55 rfl ?_
          obtain ⟨q23, e25, h24⟩ := Option.bind_eq_some_iff.mp h21
          clear h21
          refine wp_Vv (As := [.int (0 : Int32), .int q15.1, .int l2]) (S := []) okM_X8_moves tw899 twP_X8_moves tw897 (OX8_moves e25) rfl rfl rfl ⟨(Nat.le_of_ble_eq_true rfl), (Nat.le_of_ble_eq_true rfl)⟩ (Nat.le_of_ble_eq_true rfl) rfl dX8_move_56 (MX8_moves e25) ?_
          refine wp_iload_n dX8_move_59 rfl ?_
          cases h24
          exact wp_iret rfl dX8_move_60
        · rw [if_pos c19] at h16
          exact WP.wk (BX8_move_45 h16) trivial
    · rw [if_pos c14] at h12
      exact WP.wk (BX8_move_27 h12) trivial
def fX8_move (w : XW) (l0 : Nat) (l1 : Int32) (l2 : Int32) : Option (Int32 × XW) := if isO w l0 8 = true then eX8_move w l0 l1 l2 else none
theorem OX8_move {w : XW} {l0 : Nat} {l1 : Int32} {l2 : Int32} {q : Int32 × XW} (h : fX8_move w l0 l1 l2 = some q) : isO w l0 8 = true := Decidable.byContradiction fun z => by unfold fX8_move at h; rw [if_neg z] at h; cases h
theorem MX8_move {K : CX} {l : Launch} {w : XW} {l0 : Nat} {l1 : Int32} {l2 : Int32} {q : Int32 × XW} (h : fX8_move w l0 l1 l2 = some q) : MT K l mX8_move 3 66 [.ref l0, .int l1, .int l2] w (some (.int q.1)) q.2 := by
  have z := OX8_move h
  unfold fX8_move at h
  rw [if_pos z] at h
  exact MT.of (by decide) (Nat.le_of_ble_eq_true rfl) rfl (EX8_move h)
/-! FractionRun$State.leaveOut(I)V: frames 1, words 20 -/
abbrev mX5_leaveOut : MR := (⟨"FractionRun$State", "leaveOut", "(I)V"⟩, prog_7_method_19_code, 3, none)
theorem dX5_leaveOut_0 : decode prog_7_method_19_code 0 = .ok (.iload_n 1, 1) := by decide +kernel
theorem dX5_leaveOut_1 : decode prog_7_method_19_code 1 = .ok (.istore_n 2, 1) := by decide +kernel
theorem dX5_leaveOut_2 : decode prog_7_method_19_code 2 = .ok (.iload_n 2, 1) := by decide +kernel
theorem dX5_leaveOut_3 : decode prog_7_method_19_code 3 = .ok (.aload_n 0, 1) := by decide +kernel
theorem dX5_leaveOut_4 : decode prog_7_method_19_code 4 = .ok (.getfield 33, 3) := by decide +kernel
theorem dX5_leaveOut_7 : decode prog_7_method_19_code 7 = .ok (.iconst 1, 1) := by decide +kernel
theorem dX5_leaveOut_8 : decode prog_7_method_19_code 8 = .ok (.isub, 1) := by decide +kernel
theorem dX5_leaveOut_9 : decode prog_7_method_19_code 9 = .ok (.if_icmp .ge 23, 3) := by decide +kernel
theorem dX5_leaveOut_12 : decode prog_7_method_19_code 12 = .ok (.aload_n 0, 1) := by decide +kernel
theorem dX5_leaveOut_13 : decode prog_7_method_19_code 13 = .ok (.getfield 15, 3) := by decide +kernel
theorem dX5_leaveOut_16 : decode prog_7_method_19_code 16 = .ok (.iload_n 2, 1) := by decide +kernel
theorem dX5_leaveOut_17 : decode prog_7_method_19_code 17 = .ok (.aload_n 0, 1) := by decide +kernel
theorem dX5_leaveOut_18 : decode prog_7_method_19_code 18 = .ok (.getfield 15, 3) := by decide +kernel
theorem dX5_leaveOut_21 : decode prog_7_method_19_code 21 = .ok (.iload_n 2, 1) := by decide +kernel
theorem dX5_leaveOut_22 : decode prog_7_method_19_code 22 = .ok (.iconst 1, 1) := by decide +kernel
theorem dX5_leaveOut_23 : decode prog_7_method_19_code 23 = .ok (.iadd, 1) := by decide +kernel
theorem dX5_leaveOut_24 : decode prog_7_method_19_code 24 = .ok (.iaload, 1) := by decide +kernel
theorem dX5_leaveOut_25 : decode prog_7_method_19_code 25 = .ok (.iastore, 1) := by decide +kernel
theorem dX5_leaveOut_26 : decode prog_7_method_19_code 26 = .ok (.iinc 2 1, 3) := by decide +kernel
theorem dX5_leaveOut_29 : decode prog_7_method_19_code 29 = .ok (.goto (-27), 3) := by decide +kernel
theorem dX5_leaveOut_32 : decode prog_7_method_19_code 32 = .ok (.aload_n 0, 1) := by decide +kernel
theorem dX5_leaveOut_33 : decode prog_7_method_19_code 33 = .ok (.dup, 1) := by decide +kernel
theorem dX5_leaveOut_34 : decode prog_7_method_19_code 34 = .ok (.getfield 33, 3) := by decide +kernel
theorem dX5_leaveOut_37 : decode prog_7_method_19_code 37 = .ok (.iconst 1, 1) := by decide +kernel
theorem dX5_leaveOut_38 : decode prog_7_method_19_code 38 = .ok (.isub, 1) := by decide +kernel
theorem dX5_leaveOut_39 : decode prog_7_method_19_code 39 = .ok (.putfield 33, 3) := by decide +kernel
theorem dX5_leaveOut_42 : decode prog_7_method_19_code 42 = .ok (.aload_n 0, 1) := by decide +kernel
theorem dX5_leaveOut_43 : decode prog_7_method_19_code 43 = .ok (.iconst 0, 1) := by decide +kernel
theorem dX5_leaveOut_44 : decode prog_7_method_19_code 44 = .ok (.putfield 45, 3) := by decide +kernel
theorem dX5_leaveOut_47 : decode prog_7_method_19_code 47 = .ok (.return_, 1) := by decide +kernel
theorem okM_X5_leaveOut : okM mX5_leaveOut 1 := ⟨tw461, tw5, by decide, by decide, by decide +kernel⟩
abbrev KTX5_leaveOut : Type := (XW → Nat → Int32 → Option XW)
def hX5_leaveOut_2 (k : KTX5_leaveOut) (w : XW) (l0 : Nat) (l2 : Int32) : Option XW :=
  (gI w l0 5 2).bind fun x1 =>
  if (x1 - (1 : Int32)) ≤ l2 then
  (gI w l0 5 2).bind fun x5 =>
  (pV w l0 5 2 (.int (x5 - (1 : Int32)))).bind fun w8 =>
  (pV w8 l0 5 5 (.int (0 : Int32))).bind fun w11 =>
  some w11
  else
  (gR w l0 5 1).bind fun x14 =>
  (gR w l0 5 1).bind fun x17 =>
  (aI w 0 x17 (l2 + (1 : Int32))).bind fun x20 =>
  (sI w 0 x14 l2 x20).bind fun w23 =>
  k w23 l0 (l2 + (1 : Int32))
theorem HX5_leaveOut_2 {K : CX} {l : Launch} {n0 k0 : Nat} {k : KTX5_leaveOut} (hk0 : ∀ (w : XW) (l0 : Nat) (l2 : Int32) (q : XW), k w l0 l2 = some q → WP K l mX5_leaveOut 1 20 n0 k0 none q 2 [some (.ref l0), none, some (.int l2)] [] w) {w : XW} {l0 : Nat} {l2 : Int32} {q : XW} (h0 : hX5_leaveOut_2 k w l0 l2 = some q) : WP K l mX5_leaveOut 1 20 n0 k0 none q 2 [some (.ref l0), none, some (.int l2)] [] w := by
  unfold hX5_leaveOut_2 at h0
  refine wp_iload_n dX5_leaveOut_2 rfl ?_
  refine wp_aload_n dX5_leaveOut_3 rfl ?_
  obtain ⟨x1, e3, h2⟩ := Option.bind_eq_some_iff.mp h0
  clear h0
  refine wp_getI okX5 (k := 2) (by decide) tw97 dX5_leaveOut_4 e3 ?_
  refine wp_iconst (v := (1 : Int32)) dX5_leaveOut_7 (by decide) ?_
  refine wp_isub dX5_leaveOut_8 ?_
  refine wp_icmp_ge (tgt := 32) dX5_leaveOut_9 (by decide) (fun c4 => ?_) (fun c4 => ?_)
  · rw [if_pos c4] at h2
    refine wp_aload_n dX5_leaveOut_32 rfl ?_
    refine wp_dup dX5_leaveOut_33 rfl ?_
    obtain ⟨x5, e7, h6⟩ := Option.bind_eq_some_iff.mp h2
    clear h2
    refine wp_getI okX5 (k := 2) (by decide) tw97 dX5_leaveOut_34 e7 ?_
    refine wp_iconst (v := (1 : Int32)) dX5_leaveOut_37 (by decide) ?_
    refine wp_isub dX5_leaveOut_38 ?_
    obtain ⟨w8, e10, h9⟩ := Option.bind_eq_some_iff.mp h6
    clear h6
    refine wp_putV okX5 (k := 2) (by decide) rfl tw97 dX5_leaveOut_39 rfl rfl e10 ?_
    refine wp_aload_n dX5_leaveOut_42 rfl ?_
    refine wp_iconst (v := (0 : Int32)) dX5_leaveOut_43 (by decide) ?_
    obtain ⟨w11, e13, h12⟩ := Option.bind_eq_some_iff.mp h9
    clear h9
    refine wp_putV okX5 (k := 5) (by decide) rfl tw105 dX5_leaveOut_44 rfl rfl e13 ?_
    cases h12
    exact wp_vret rfl dX5_leaveOut_47
  · rw [if_neg c4] at h2
    refine wp_aload_n dX5_leaveOut_12 rfl ?_
    obtain ⟨x14, e16, h15⟩ := Option.bind_eq_some_iff.mp h2
    clear h2
    refine wp_getR okX5 (k := 1) (by decide) tw95 dX5_leaveOut_13 e16 ?_
    refine wp_iload_n dX5_leaveOut_16 rfl ?_
    refine wp_aload_n dX5_leaveOut_17 rfl ?_
    obtain ⟨x17, e19, h18⟩ := Option.bind_eq_some_iff.mp h15
    clear h15
    refine wp_getR okX5 (k := 1) (by decide) tw95 dX5_leaveOut_18 e19 ?_
    refine wp_iload_n dX5_leaveOut_21 rfl ?_
    refine wp_iconst (v := (1 : Int32)) dX5_leaveOut_22 (by decide) ?_
    refine wp_iadd dX5_leaveOut_23 ?_
    obtain ⟨x20, e22, h21⟩ := Option.bind_eq_some_iff.mp h18
    clear h18
    refine wp_iald dX5_leaveOut_24 e22 ?_
    obtain ⟨w23, e25, h24⟩ := Option.bind_eq_some_iff.mp h21
    clear h21
    refine wp_iast dX5_leaveOut_25 e25 ?_
    refine wp_iinc (v := (l2 + (1 : Int32))) (L1 := [some (.ref l0), none, some (.int (l2 + (1 : Int32)))]) dX5_leaveOut_26 (Nat.le_of_ble_eq_true rfl) rfl (congrArg (fun z => l2 + z) (by decide)) rfl ?_
    refine wp_goto (tgt := 2) dX5_leaveOut_29 (by decide) ?_
    exact WP.wk (hk0 _ _ _ _ h24) (And.intro rfl (And.intro rfl trivial))
def eX5_leaveOut (k : KTX5_leaveOut) (w : XW) (l0 : Nat) (l1 : Int32) : Option XW :=
  k w l0 l1
theorem EX5_leaveOut {K : CX} {l : Launch} {n0 k0 : Nat} {k : KTX5_leaveOut} (hk0 : ∀ (w : XW) (l0 : Nat) (l2 : Int32) (q : XW), k w l0 l2 = some q → WP K l mX5_leaveOut 1 20 n0 k0 none q 2 [some (.ref l0), none, some (.int l2)] [] w) {w : XW} {l0 : Nat} {l1 : Int32} {q : XW} (h0 : eX5_leaveOut k w l0 l1 = some q) : WP K l mX5_leaveOut 1 20 n0 k0 none q 0 [some (.ref l0), some (.int l1), none] [] w := by
  unfold eX5_leaveOut at h0
  refine wp_iload_n dX5_leaveOut_0 rfl ?_
  refine wp_istore_n (L1 := [some (.ref l0), some (.int l1), some (.int l1)]) dX5_leaveOut_1 (Nat.le_of_ble_eq_true rfl) rfl ?_
  exact WP.wk (hk0 _ _ _ _ h0) (And.intro rfl (And.intro rfl trivial))
def loX5_leaveOut : Nat → KTX5_leaveOut
  | 0 => fun _ _ _ => none
  | n + 1 => hX5_leaveOut_2 (loX5_leaveOut n)
theorem LOX5_leaveOut {K : CX} {l : Launch} {n0 k0 : Nat} : ∀ n : Nat, (∀ (w : XW) (l0 : Nat) (l2 : Int32) (q : XW), (loX5_leaveOut n) w l0 l2 = some q → WP K l mX5_leaveOut 1 20 n0 k0 none q 2 [some (.ref l0), none, some (.int l2)] [] w) := by
  intro n
  induction n with
  | zero => exact fun _ _ _ q h => (by cases h)
  | succ n ih => exact fun _ _ _ q h => HX5_leaveOut_2 ih h
def fX5_leaveOut (w : XW) (l0 : Nat) (l1 : Int32) : Option XW := if isO w l0 5 = true then eX5_leaveOut (loX5_leaveOut FU) w l0 l1 else none
theorem OX5_leaveOut {w : XW} {l0 : Nat} {l1 : Int32} {q : XW} (h : fX5_leaveOut w l0 l1 = some q) : isO w l0 5 = true := Decidable.byContradiction fun z => by unfold fX5_leaveOut at h; rw [if_neg z] at h; cases h
theorem MX5_leaveOut {K : CX} {l : Launch} {w : XW} {l0 : Nat} {l1 : Int32} {q : XW} (h : fX5_leaveOut w l0 l1 = some q) : MT K l mX5_leaveOut 1 20 [.ref l0, .int l1] w none q := by
  have z := OX5_leaveOut h
  unfold fX5_leaveOut at h
  rw [if_pos z] at h
  exact MT.of (by decide) (Nat.le_of_ble_eq_true rfl) rfl (EX5_leaveOut (LOX5_leaveOut FU) h)
