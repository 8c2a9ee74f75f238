/-! FractionRun.stepsToRestBehind(II)I: frames 5, words 116 -/
abbrev mX7_stepsToRestBehind : MR := (⟨"FractionRun", "stepsToRestBehind", "(II)I"⟩, prog_1_method_47_code, 3, (some .int))
theorem dX7_stepsToRestBehind_0 : decode prog_1_method_47_code 0 = .ok (.aload_n 0, 1) := by decide +kernel
theorem dX7_stepsToRestBehind_1 : decode prog_1_method_47_code 1 = .ok (.getfield 40, 3) := by decide +kernel
theorem dX7_stepsToRestBehind_4 : decode prog_1_method_47_code 4 = .ok (.aload_n 0, 1) := by decide +kernel
theorem dX7_stepsToRestBehind_5 : decode prog_1_method_47_code 5 = .ok (.getfield 36, 3) := by decide +kernel
theorem dX7_stepsToRestBehind_8 : decode prog_1_method_47_code 8 = .ok (.invokevirtual 189, 3) := by decide +kernel
theorem dX7_stepsToRestBehind_11 : decode prog_1_method_47_code 11 = .ok (.iload_n 1, 1) := by decide +kernel
theorem dX7_stepsToRestBehind_12 : decode prog_1_method_47_code 12 = .ok (.ifCond .le 12, 3) := by decide +kernel
theorem dX7_stepsToRestBehind_15 : decode prog_1_method_47_code 15 = .ok (.aload_n 0, 1) := by decide +kernel
theorem dX7_stepsToRestBehind_16 : decode prog_1_method_47_code 16 = .ok (.getfield 40, 3) := by decide +kernel
theorem dX7_stepsToRestBehind_19 : decode prog_1_method_47_code 19 = .ok (.iconst 0, 1) := by decide +kernel
theorem dX7_stepsToRestBehind_20 : decode prog_1_method_47_code 20 = .ok (.iload_n 1, 1) := by decide +kernel
theorem dX7_stepsToRestBehind_21 : decode prog_1_method_47_code 21 = .ok (.invokevirtual 171, 3) := by decide +kernel
theorem dX7_stepsToRestBehind_24 : decode prog_1_method_47_code 24 = .ok (.iload_n 2, 1) := by decide +kernel
theorem dX7_stepsToRestBehind_25 : decode prog_1_method_47_code 25 = .ok (.ifCond .le 12, 3) := by decide +kernel
theorem dX7_stepsToRestBehind_28 : decode prog_1_method_47_code 28 = .ok (.aload_n 0, 1) := by decide +kernel
theorem dX7_stepsToRestBehind_29 : decode prog_1_method_47_code 29 = .ok (.getfield 40, 3) := by decide +kernel
theorem dX7_stepsToRestBehind_32 : decode prog_1_method_47_code 32 = .ok (.iconst 1, 1) := by decide +kernel
theorem dX7_stepsToRestBehind_33 : decode prog_1_method_47_code 33 = .ok (.iload_n 2, 1) := by decide +kernel
theorem dX7_stepsToRestBehind_34 : decode prog_1_method_47_code 34 = .ok (.invokevirtual 171, 3) := by decide +kernel
theorem dX7_stepsToRestBehind_37 : decode prog_1_method_47_code 37 = .ok (.aload_n 0, 1) := by decide +kernel
theorem dX7_stepsToRestBehind_38 : decode prog_1_method_47_code 38 = .ok (.getfield 40, 3) := by decide +kernel
theorem dX7_stepsToRestBehind_41 : decode prog_1_method_47_code 41 = .ok (.aload_n 0, 1) := by decide +kernel
theorem dX7_stepsToRestBehind_42 : decode prog_1_method_47_code 42 = .ok (.getfield 26, 3) := by decide +kernel
theorem dX7_stepsToRestBehind_45 : decode prog_1_method_47_code 45 = .ok (.sipush 200, 3) := by decide +kernel
theorem dX7_stepsToRestBehind_48 : decode prog_1_method_47_code 48 = .ok (.invokevirtual 167, 3) := by decide +kernel
theorem dX7_stepsToRestBehind_51 : decode prog_1_method_47_code 51 = .ok (.ireturn, 1) := by decide +kernel
theorem okM_X7_stepsToRestBehind : okM mX7_stepsToRestBehind 2 := ⟨tw630, tw1, by decide, by decide, by decide +kernel⟩
def bX7_stepsToRestBehind_37 (w : XW) (l0 : Nat) : Option (Int32 × XW) :=
  (gR w l0 7 5).bind fun x1 =>
  (gR w l0 7 2).bind fun x4 =>
  (fX5_takeSteps w x1 x4 (200 : Int32)).bind fun q7 =>
  some (q7.1, q7.2)
theorem BX7_stepsToRestBehind_37 {K : CX} {l : Launch} {n0 k0 : Nat} {w : XW} {l0 : Nat} {q : Int32 × XW} (h0 : bX7_stepsToRestBehind_37 w l0 = some q) : WP K l mX7_stepsToRestBehind 5 116 n0 k0 (some (.int q.1)) q.2 37 [some (.ref l0), none, none] [] w := by
  unfold bX7_stepsToRestBehind_37 at h0
  refine wp_aload_n dX7_stepsToRestBehind_37 rfl ?_
  obtain ⟨x1, e3, h2⟩ := Option.bind_eq_some_iff.mp h0
  clear h0
  refine wp_getR okX7 (k := 5) (by decide) tw303 dX7_stepsToRestBehind_38 e3 ?_
  refine wp_aload_n dX7_stepsToRestBehind_41 rfl ?_
  obtain ⟨x4, e6, h5⟩ := Option.bind_eq_some_iff.mp h2
  clear h2
  refine wp_getR okX7 (k := 2) (by decide) tw300 dX7_stepsToRestBehind_42 e6 ?_
  refine wp_sipush (v := (200 : Int32)) dX7_stepsToRestBehind_45 (by decide) ?_
  obtain ⟨q7, e9, h8⟩ := Option.bind_eq_some_iff.mp h5
  clear h5
  refine wp_Vi (As := [.ref x4, .int (200 : Int32)]) (S := []) okM_X5_takeSteps tw427 tw428 tw426 (OX5_takeSteps e9) rfl rfl rfl ⟨(Nat.le_of_ble_eq_true rfl), (Nat.le_of_ble_eq_true rfl)⟩ (Nat.le_of_ble_eq_true rfl) rfl dX7_stepsToRestBehind_48 (MX5_takeSteps e9) ?_
  cases h8
  exact wp_iret rfl dX7_stepsToRestBehind_51
def bX7_stepsToRestBehind_24 (w : XW) (l0 : Nat) (l2 : Int32) : Option (Int32 × XW) :=
  if l2 ≤ 0 then
  bX7_stepsToRestBehind_37 w l0
  else
  (gR w l0 7 5).bind fun x2 =>
  (fX5_multiplyBy w x2 (1 : Int32) l2).bind fun q5 =>
  bX7_stepsToRestBehind_37 q5 l0
theorem BX7_stepsToRestBehind_24 {K : CX} {l : Launch} {n0 k0 : Nat} {w : XW} {l0 : Nat} {l2 : Int32} {q : Int32 × XW} (h0 : bX7_stepsToRestBehind_24 w l0 l2 = some q) : WP K l mX7_stepsToRestBehind 5 116 n0 k0 (some (.int q.1)) q.2 24 [some (.ref l0), none, some (.int l2)] [] w := by
  unfold bX7_stepsToRestBehind_24 at h0
  refine wp_iload_n dX7_stepsToRestBehind_24 rfl ?_
  refine wp_if_le (tgt := 37) dX7_stepsToRestBehind_25 (by decide) (fun c1 => ?_) (fun c1 => ?_)
  · rw [if_pos c1] at h0
    exact WP.wk (BX7_stepsToRestBehind_37 h0) (And.intro rfl trivial)
  · rw [if_neg c1] at h0
    refine wp_aload_n dX7_stepsToRestBehind_28 rfl ?_
    obtain ⟨x2, e4, h3⟩ := Option.bind_eq_some_iff.mp h0
    clear h0
    refine wp_getR okX7 (k := 5) (by decide) tw303 dX7_stepsToRestBehind_29 e4 ?_
    refine wp_iconst (v := (1 : Int32)) dX7_stepsToRestBehind_32 (by decide) ?_
    refine wp_iload_n dX7_stepsToRestBehind_33 rfl ?_
    obtain ⟨q5, e7, h6⟩ := Option.bind_eq_some_iff.mp h3
    clear h3
    refine wp_Vv (As := [.int (1 : Int32), .int l2]) (S := []) okM_X5_multiplyBy tw443 tw444 tw442 (OX5_multiplyBy e7) rfl rfl rfl ⟨(Nat.le_of_ble_eq_true rfl), (Nat.le_of_ble_eq_true rfl)⟩ (Nat.le_of_ble_eq_true rfl) rfl dX7_stepsToRestBehind_34 (MX5_multiplyBy e7) ?_
    exact WP.wk (BX7_stepsToRestBehind_37 h6) (And.intro rfl trivial)
def eX7_stepsToRestBehind (w : XW) (l0 : Nat) (l1 : Int32) (l2 : Int32) : Option (Int32 × XW) :=
  (gR w l0 7 5).bind fun x1 =>
  (gR w l0 7 4).bind fun x4 =>
  (fX5_copyFrom w x1 x4).bind fun q7 =>
  if l1 ≤ 0 then
  bX7_stepsToRestBehind_24 q7 l0 l2
  else
  (gR q7 l0 7 5).bind fun x11 =>
  (fX5_multiplyBy q7 x11 (0 : Int32) l1).bind fun q14 =>
  bX7_stepsToRestBehind_24 q14 l0 l2
theorem EX7_stepsToRestBehind {K : CX} {l : Launch} {n0 k0 : Nat} {w : XW} {l0 : Nat} {l1 : Int32} {l2 : Int32} {q : Int32 × XW} (h0 : eX7_stepsToRestBehind w l0 l1 l2 = some q) : WP K l mX7_stepsToRestBehind 5 116 n0 k0 (some (.int q.1)) q.2 0 [some (.ref l0), some (.int l1), some (.int l2)] [] w := by
  unfold eX7_stepsToRestBehind at h0
  refine wp_aload_n dX7_stepsToRestBehind_0 rfl ?_
  obtain ⟨x1, e3, h2⟩ := Option.bind_eq_some_iff.mp h0
  clear h0
  refine wp_getR okX7 (k := 5) (by decide) tw303 dX7_stepsToRestBehind_1 e3 ?_
  refine wp_aload_n dX7_stepsToRestBehind_4 rfl ?_
  obtain ⟨x4, e6, h5⟩ := Option.bind_eq_some_iff.mp h2
  clear h2
  refine wp_getR okX7 (k := 4) (by decide) tw302 dX7_stepsToRestBehind_5 e6 ?_
  obtain ⟨q7, e9, h8⟩ := Option.bind_eq_some_iff.mp h5
  clear h5
  refine wp_Vv (As := [.ref x4]) (S := []) okM_X5_copyFrom tw419 tw420 tw474 (OX5_copyFrom e9) rfl rfl rfl ⟨(Nat.le_of_ble_eq_true rfl), (Nat.le_of_ble_eq_true rfl)⟩ (Nat.le_of_ble_eq_true rfl) rfl dX7_stepsToRestBehind_8 (MX5_copyFrom e9) ?_
  refine wp_iload_n dX7_stepsToRestBehind_11 rfl ?_
  refine wp_if_le (tgt := 24) dX7_stepsToRestBehind_12 (by decide) (fun c10 => ?_) (fun c10 => ?_)
  · rw [if_pos c10] at h8
    exact WP.wk (BX7_stepsToRestBehind_24 h8) (And.intro rfl (And.intro rfl trivial))
  · rw [if_neg c10] at h8
    refine wp_aload_n dX7_stepsToRestBehind_15 rfl ?_
    obtain ⟨x11, e13, h12⟩ := Option.bind_eq_some_iff.mp h8
    clear h8
    refine wp_getR okX7 (k := 5) (by decide) tw303 dX7_stepsToRestBehind_16 e13 ?_
    refine wp_iconst (v := (0 : Int32)) dX7_stepsToRestBehind_19 (by decide) ?_
    refine wp_iload_n dX7_stepsToRestBehind_20 rfl ?_
    obtain ⟨q14, e16, h15⟩ := Option.bind_eq_some_iff.mp h12
    clear h12
    refine wp_Vv (As := [.int (0 : Int32), .int l1]) (S := []) okM_X5_multiplyBy tw443 tw444 tw442 (OX5_multiplyBy e16) rfl rfl rfl ⟨(Nat.le_of_ble_eq_true rfl), (Nat.le_of_ble_eq_true rfl)⟩ (Nat.le_of_ble_eq_true rfl) rfl dX7_stepsToRestBehind_21 (MX5_multiplyBy e16) ?_
    exact WP.wk (BX7_stepsToRestBehind_24 h15) (And.intro rfl (And.intro rfl trivial))
def fX7_stepsToRestBehind (w : XW) (l0 : Nat) (l1 : Int32) (l2 : Int32) : Option (Int32 × XW) := if isO w l0 7 = true then eX7_stepsToRestBehind w l0 l1 l2 else none
theorem OX7_stepsToRestBehind {w : XW} {l0 : Nat} {l1 : Int32} {l2 : Int32} {q : Int32 × XW} (h : fX7_stepsToRestBehind w l0 l1 l2 = some q) : isO w l0 7 = true := Decidable.byContradiction fun z => by unfold fX7_stepsToRestBehind at h; rw [if_neg z] at h; cases h
theorem MX7_stepsToRestBehind {K : CX} {l : Launch} {w : XW} {l0 : Nat} {l1 : Int32} {l2 : Int32} {q : Int32 × XW} (h : fX7_stepsToRestBehind w l0 l1 l2 = some q) : MT K l mX7_stepsToRestBehind 5 116 [.ref l0, .int l1, .int l2] w (some (.int q.1)) q.2 := by
  have z := OX7_stepsToRestBehind h
  unfold fX7_stepsToRestBehind at h
  rw [if_pos z] at h
  exact MT.of (by decide) (Nat.le_of_ble_eq_true rfl) rfl (EX7_stepsToRestBehind h)
/-! FractionRun.better(ZII)I: frames 1, words 21 -/
abbrev mX7_better : MR := (⟨"FractionRun", "better", "(ZII)I"⟩, prog_1_method_46_code, 3, (some .int))
theorem dX7_better_0 : decode prog_1_method_46_code 0 = .ok (.iload_n 0, 1) := by decide +kernel
theorem dX7_better_1 : decode prog_1_method_46_code 1 = .ok (.ifCond .eq 11, 3) := by decide +kernel
theorem dX7_better_4 : decode prog_1_method_46_code 4 = .ok (.iload_n 1, 1) := by decide +kernel
theorem dX7_better_5 : decode prog_1_method_46_code 5 = .ok (.iload_n 2, 1) := by decide +kernel
theorem dX7_better_6 : decode prog_1_method_46_code 6 = .ok (.invokestatic 211, 3) := by decide +kernel
theorem dX7_better_9 : decode prog_1_method_46_code 9 = .ok (.goto 8, 3) := by decide +kernel
theorem dX7_better_12 : decode prog_1_method_46_code 12 = .ok (.iload_n 1, 1) := by decide +kernel
theorem dX7_better_13 : decode prog_1_method_46_code 13 = .ok (.iload_n 2, 1) := by decide +kernel
theorem dX7_better_14 : decode prog_1_method_46_code 14 = .ok (.invokestatic 161, 3) := by decide +kernel
theorem dX7_better_17 : decode prog_1_method_46_code 17 = .ok (.ireturn, 1) := by decide +kernel
theorem okM_X7_better : okM mX7_better 3 := ⟨tw633, tw1, by decide, by decide, by decide +kernel⟩
def bX7_better_17 (w : XW) (s0 : Int32) : Option (Int32 × XW) :=
  some (s0, w)
theorem BX7_better_17 {K : CX} {l : Launch} {n0 k0 : Nat} {w : XW} {s0 : Int32} {q : Int32 × XW} (h0 : bX7_better_17 w s0 = some q) : WP K l mX7_better 1 21 n0 k0 (some (.int q.1)) q.2 17 [none, none, none] [.int s0] w := by
  unfold bX7_better_17 at h0
  cases h0
  exact wp_iret rfl dX7_better_17
def eX7_better (w : XW) (l0 : Int32) (l1 : Int32) (l2 : Int32) : Option (Int32 × XW) :=
  if l0 = 0 then
  bX7_better_17 w (imn l1 l2)
  else
  bX7_better_17 w (imx l1 l2)
theorem EX7_better {K : CX} {l : Launch} {n0 k0 : Nat} {w : XW} {l0 : Int32} {l1 : Int32} {l2 : Int32} {q : Int32 × XW} (h0 : eX7_better w l0 l1 l2 = some q) : WP K l mX7_better 1 21 n0 k0 (some (.int q.1)) q.2 0 [some (.int l0), some (.int l1), some (.int l2)] [] w := by
  unfold eX7_better at h0
  refine wp_iload_n dX7_better_0 rfl ?_
  refine wp_if_eq (tgt := 12) dX7_better_1 (by decide) (fun c1 => ?_) (fun c1 => ?_)
  · rw [if_pos c1] at h0
    refine wp_iload_n dX7_better_12 rfl ?_
    refine wp_iload_n dX7_better_13 rfl ?_
    refine wp_imn tw425 tw423 tw13 twMath_min ⟨(Nat.le_of_ble_eq_true rfl), (Nat.le_of_ble_eq_true rfl)⟩ rfl dX7_better_14 ?_
    exact WP.wk (BX7_better_17 h0) trivial
  · rw [if_neg c1] at h0
    refine wp_iload_n dX7_better_4 rfl ?_
    refine wp_iload_n dX7_better_5 rfl ?_
    refine wp_imx tw279 tw280 tw13 twMath_max ⟨(Nat.le_of_ble_eq_true rfl), (Nat.le_of_ble_eq_true rfl)⟩ rfl dX7_better_6 ?_
    refine wp_goto (tgt := 17) dX7_better_9 (by decide) ?_
    exact WP.wk (BX7_better_17 h0) trivial
def fX7_better (w : XW) (l0 : Int32) (l1 : Int32) (l2 : Int32) : Option (Int32 × XW) := eX7_better w l0 l1 l2
theorem MX7_better {K : CX} {l : Launch} {w : XW} {l0 : Int32} {l1 : Int32} {l2 : Int32} {q : Int32 × XW} (h : fX7_better w l0 l1 l2 = some q) : MT K l mX7_better 1 21 [.int l0, .int l1, .int l2] w (some (.int q.1)) q.2 := by
  unfold fX7_better at h
  exact MT.of (by decide) (Nat.le_of_ble_eq_true rfl) rfl (EX7_better h)
/-! FractionRun.valueOfTurns(IIII)I: frames 12, words 294 -/
abbrev mX7_valueOfTurns : MR := (⟨"FractionRun", "valueOfTurns", "(IIII)I"⟩, prog_1_method_45_code, 7, (some .int))
theorem dX7_valueOfTurns_0 : decode prog_1_method_45_code 0 = .ok (.iload_n 1, 1) := by decide +kernel
theorem dX7_valueOfTurns_1 : decode prog_1_method_45_code 1 = .ok (.iload_n 2, 1) := by decide +kernel
theorem dX7_valueOfTurns_2 : decode prog_1_method_45_code 2 = .ok (.if_icmp .ge 8, 3) := by decide +kernel
theorem dX7_valueOfTurns_5 : decode prog_1_method_45_code 5 = .ok (.iload_n 1, 1) := by decide +kernel
theorem dX7_valueOfTurns_6 : decode prog_1_method_45_code 6 = .ok (.iconst 4, 1) := by decide +kernel
theorem dX7_valueOfTurns_7 : decode prog_1_method_45_code 7 = .ok (.if_icmp .lt 11, 3) := by decide +kernel
theorem dX7_valueOfTurns_10 : decode prog_1_method_45_code 10 = .ok (.aload_n 0, 1) := by decide +kernel
theorem dX7_valueOfTurns_11 : decode prog_1_method_45_code 11 = .ok (.iload_n 3, 1) := by decide +kernel
theorem dX7_valueOfTurns_12 : decode prog_1_method_45_code 12 = .ok (.iload 4, 2) := by decide +kernel
theorem dX7_valueOfTurns_14 : decode prog_1_method_45_code 14 = .ok (.invokevirtual 308, 3) := by decide +kernel
theorem dX7_valueOfTurns_17 : decode prog_1_method_45_code 17 = .ok (.ireturn, 1) := by decide +kernel
theorem dX7_valueOfTurns_18 : decode prog_1_method_45_code 18 = .ok (.iload_n 1, 1) := by decide +kernel
theorem dX7_valueOfTurns_19 : decode prog_1_method_45_code 19 = .ok (.iconst 2, 1) := by decide +kernel
theorem dX7_valueOfTurns_20 : decode prog_1_method_45_code 20 = .ok (.irem, 1) := by decide +kernel
theorem dX7_valueOfTurns_21 : decode prog_1_method_45_code 21 = .ok (.ifCond .ne 7, 3) := by decide +kernel
theorem dX7_valueOfTurns_24 : decode prog_1_method_45_code 24 = .ok (.iconst 1, 1) := by decide +kernel
theorem dX7_valueOfTurns_25 : decode prog_1_method_45_code 25 = .ok (.goto 4, 3) := by decide +kernel
theorem dX7_valueOfTurns_28 : decode prog_1_method_45_code 28 = .ok (.iconst 0, 1) := by decide +kernel
theorem dX7_valueOfTurns_29 : decode prog_1_method_45_code 29 = .ok (.istore 5, 2) := by decide +kernel
theorem dX7_valueOfTurns_31 : decode prog_1_method_45_code 31 = .ok (.aload_n 0, 1) := by decide +kernel
theorem dX7_valueOfTurns_32 : decode prog_1_method_45_code 32 = .ok (.iload_n 1, 1) := by decide +kernel
theorem dX7_valueOfTurns_33 : decode prog_1_method_45_code 33 = .ok (.iconst 1, 1) := by decide +kernel
theorem dX7_valueOfTurns_34 : decode prog_1_method_45_code 34 = .ok (.iadd, 1) := by decide +kernel
theorem dX7_valueOfTurns_35 : decode prog_1_method_45_code 35 = .ok (.iload_n 2, 1) := by decide +kernel
theorem dX7_valueOfTurns_36 : decode prog_1_method_45_code 36 = .ok (.iload_n 3, 1) := by decide +kernel
theorem dX7_valueOfTurns_37 : decode prog_1_method_45_code 37 = .ok (.iload 4, 2) := by decide +kernel
theorem dX7_valueOfTurns_39 : decode prog_1_method_45_code 39 = .ok (.invokevirtual 244, 3) := by decide +kernel
theorem dX7_valueOfTurns_42 : decode prog_1_method_45_code 42 = .ok (.istore 6, 2) := by decide +kernel
theorem dX7_valueOfTurns_44 : decode prog_1_method_45_code 44 = .ok (.aload_n 0, 1) := by decide +kernel
theorem dX7_valueOfTurns_45 : decode prog_1_method_45_code 45 = .ok (.getfield 36, 3) := by decide +kernel
theorem dX7_valueOfTurns_48 : decode prog_1_method_45_code 48 = .ok (.getfield 147, 3) := by decide +kernel
theorem dX7_valueOfTurns_51 : decode prog_1_method_45_code 51 = .ok (.iconst 0, 1) := by decide +kernel
theorem dX7_valueOfTurns_52 : decode prog_1_method_45_code 52 = .ok (.iaload, 1) := by decide +kernel
theorem dX7_valueOfTurns_53 : decode prog_1_method_45_code 53 = .ok (.iload_n 3, 1) := by decide +kernel
theorem dX7_valueOfTurns_54 : decode prog_1_method_45_code 54 = .ok (.iadd, 1) := by decide +kernel
theorem dX7_valueOfTurns_55 : decode prog_1_method_45_code 55 = .ok (.sipush 999, 3) := by decide +kernel
theorem dX7_valueOfTurns_58 : decode prog_1_method_45_code 58 = .ok (.if_icmp .ge 25, 3) := by decide +kernel
theorem dX7_valueOfTurns_61 : decode prog_1_method_45_code 61 = .ok (.iload 5, 2) := by decide +kernel
theorem dX7_valueOfTurns_63 : decode prog_1_method_45_code 63 = .ok (.iload 6, 2) := by decide +kernel
theorem dX7_valueOfTurns_65 : decode prog_1_method_45_code 65 = .ok (.aload_n 0, 1) := by decide +kernel
theorem dX7_valueOfTurns_66 : decode prog_1_method_45_code 66 = .ok (.iload_n 1, 1) := by decide +kernel
theorem dX7_valueOfTurns_67 : decode prog_1_method_45_code 67 = .ok (.iconst 1, 1) := by decide +kernel
theorem dX7_valueOfTurns_68 : decode prog_1_method_45_code 68 = .ok (.iadd, 1) := by decide +kernel
theorem dX7_valueOfTurns_69 : decode prog_1_method_45_code 69 = .ok (.iload_n 2, 1) := by decide +kernel
theorem dX7_valueOfTurns_70 : decode prog_1_method_45_code 70 = .ok (.iload_n 3, 1) := by decide +kernel
theorem dX7_valueOfTurns_71 : decode prog_1_method_45_code 71 = .ok (.iconst 1, 1) := by decide +kernel
theorem dX7_valueOfTurns_72 : decode prog_1_method_45_code 72 = .ok (.iadd, 1) := by decide +kernel
theorem dX7_valueOfTurns_73 : decode prog_1_method_45_code 73 = .ok (.iload 4, 2) := by decide +kernel
theorem dX7_valueOfTurns_75 : decode prog_1_method_45_code 75 = .ok (.invokevirtual 244, 3) := by decide +kernel
theorem dX7_valueOfTurns_78 : decode prog_1_method_45_code 78 = .ok (.invokestatic 311, 3) := by decide +kernel
theorem dX7_valueOfTurns_81 : decode prog_1_method_45_code 81 = .ok (.istore 6, 2) := by decide +kernel
theorem dX7_valueOfTurns_83 : decode prog_1_method_45_code 83 = .ok (.aload_n 0, 1) := by decide +kernel
theorem dX7_valueOfTurns_84 : decode prog_1_method_45_code 84 = .ok (.getfield 36, 3) := by decide +kernel
theorem dX7_valueOfTurns_87 : decode prog_1_method_45_code 87 = .ok (.getfield 147, 3) := by decide +kernel
theorem dX7_valueOfTurns_90 : decode prog_1_method_45_code 90 = .ok (.iconst 1, 1) := by decide +kernel
theorem dX7_valueOfTurns_91 : decode prog_1_method_45_code 91 = .ok (.iaload, 1) := by decide +kernel
theorem dX7_valueOfTurns_92 : decode prog_1_method_45_code 92 = .ok (.iload 4, 2) := by decide +kernel
theorem dX7_valueOfTurns_94 : decode prog_1_method_45_code 94 = .ok (.iadd, 1) := by decide +kernel
theorem dX7_valueOfTurns_95 : decode prog_1_method_45_code 95 = .ok (.sipush 999, 3) := by decide +kernel
theorem dX7_valueOfTurns_98 : decode prog_1_method_45_code 98 = .ok (.if_icmp .ge 25, 3) := by decide +kernel
theorem dX7_valueOfTurns_101 : decode prog_1_method_45_code 101 = .ok (.iload 5, 2) := by decide +kernel
theorem dX7_valueOfTurns_103 : decode prog_1_method_45_code 103 = .ok (.iload 6, 2) := by decide +kernel
theorem dX7_valueOfTurns_105 : decode prog_1_method_45_code 105 = .ok (.aload_n 0, 1) := by decide +kernel
theorem dX7_valueOfTurns_106 : decode prog_1_method_45_code 106 = .ok (.iload_n 1, 1) := by decide +kernel
theorem dX7_valueOfTurns_107 : decode prog_1_method_45_code 107 = .ok (.iconst 1, 1) := by decide +kernel
theorem dX7_valueOfTurns_108 : decode prog_1_method_45_code 108 = .ok (.iadd, 1) := by decide +kernel
theorem dX7_valueOfTurns_109 : decode prog_1_method_45_code 109 = .ok (.iload_n 2, 1) := by decide +kernel
theorem dX7_valueOfTurns_110 : decode prog_1_method_45_code 110 = .ok (.iload_n 3, 1) := by decide +kernel
theorem dX7_valueOfTurns_111 : decode prog_1_method_45_code 111 = .ok (.iload 4, 2) := by decide +kernel
theorem dX7_valueOfTurns_113 : decode prog_1_method_45_code 113 = .ok (.iconst 1, 1) := by decide +kernel
theorem dX7_valueOfTurns_114 : decode prog_1_method_45_code 114 = .ok (.iadd, 1) := by decide +kernel
theorem dX7_valueOfTurns_115 : decode prog_1_method_45_code 115 = .ok (.invokevirtual 244, 3) := by decide +kernel
theorem dX7_valueOfTurns_118 : decode prog_1_method_45_code 118 = .ok (.invokestatic 311, 3) := by decide +kernel
theorem dX7_valueOfTurns_121 : decode prog_1_method_45_code 121 = .ok (.istore 6, 2) := by decide +kernel
theorem dX7_valueOfTurns_123 : decode prog_1_method_45_code 123 = .ok (.iload 6, 2) := by decide +kernel
theorem dX7_valueOfTurns_125 : decode prog_1_method_45_code 125 = .ok (.ireturn, 1) := by decide +kernel
theorem okM_X7_valueOfTurns : okM mX7_valueOfTurns 4 := ⟨tw626, tw1, by decide, by decide, by decide +kernel⟩
def bX7_valueOfTurns_123 (frec : XW → Nat → Int32 → Int32 → Int32 → Int32 → Option (Int32 × XW)) (w : XW) (l6 : Int32) : Option (Int32 × XW) :=
  some (l6, w)
theorem BX7_valueOfTurns_123 {K : CX} {l : Launch} {n0 k0 : Nat} {fr lo fz lz : Nat} {frec : XW → Nat → Int32 → Int32 → Int32 → Int32 → Option (Int32 × XW)} (hrec : ∀ (w : XW) (l0 : Nat) (l1 : Int32) (l2 : Int32) (l3 : Int32) (l4 : Int32) (q : Int32 × XW), frec w l0 l1 l2 l3 l4 = some q → MT K l mX7_valueOfTurns fz lz [.ref l0, .int l1, .int l2, .int l3, .int l4] w (some (.int q.1)) q.2) (hreO : ∀ (w : XW) (l0 : Nat) (l1 : Int32) (l2 : Int32) (l3 : Int32) (l4 : Int32) (q : Int32 × XW), frec w l0 l1 l2 l3 l4 = some q → isO w l0 7 = true) (hfr : fz + 1 ≤ fr ∧ 8 + (7 + 11) + lz ≤ lo) (hlo : 6 ≤ fr ∧ 138 ≤ lo) {w : XW} {l6 : Int32} {q : Int32 × XW} (h0 : bX7_valueOfTurns_123 frec w l6 = some q) : WP K l mX7_valueOfTurns fr lo n0 k0 (some (.int q.1)) q.2 123 [none, none, none, none, none, none, some (.int l6)] [] w := by
  unfold bX7_valueOfTurns_123 at h0
  refine wp_iload dX7_valueOfTurns_123 rfl ?_
  cases h0
  exact wp_iret rfl dX7_valueOfTurns_125
def bX7_valueOfTurns_83 (frec : XW → Nat → Int32 → Int32 → Int32 → Int32 → Option (Int32 × XW)) (w : XW) (l0 : Nat) (l1 : Int32) (l2 : Int32) (l3 : Int32) (l4 : Int32) (l5 : Int32) (l6 : Int32) : Option (Int32 × XW) :=
  (gR w l0 7 4).bind fun x1 =>
  (gR w x1 5 0).bind fun x4 =>
  (aI w 0 x4 (1 : Int32)).bind fun x7 =>
  if (999 : Int32) ≤ (x7 + l4) then
  bX7_valueOfTurns_123 frec w l6
  else
  (frec w l0 (l1 + (1 : Int32)) l2 l3 (l4 + (1 : Int32))).bind fun q11 =>
  (fX7_better q11.2 l5 l6 q11.1).bind fun q14 =>
  bX7_valueOfTurns_123 frec q14.2 q14.1
theorem BX7_valueOfTurns_83 {K : CX} {l : Launch} {n0 k0 : Nat} {fr lo fz lz : Nat} {frec : XW → Nat → Int32 → Int32 → Int32 → Int32 → Option (Int32 × XW)} (hrec : ∀ (w : XW) (l0 : Nat) (l1 : Int32) (l2 : Int32) (l3 : Int32) (l4 : Int32) (q : Int32 × XW), frec w l0 l1 l2 l3 l4 = some q → MT K l mX7_valueOfTurns fz lz [.ref l0, .int l1, .int l2, .int l3, .int l4] w (some (.int q.1)) q.2) (hreO : ∀ (w : XW) (l0 : Nat) (l1 : Int32) (l2 : Int32) (l3 : Int32) (l4 : Int32) (q : Int32 × XW), frec w l0 l1 l2 l3 l4 = some q → isO w l0 7 = true) (hfr : fz + 1 ≤ fr ∧ 8 + (7 + 11) + lz ≤ lo) (hlo : 6 ≤ fr ∧ 138 ≤ lo) {w : XW} {l0 : Nat} {l1 : Int32} {l2 : Int32} {l3 : Int32} {l4 : Int32} {l5 : Int32} {l6 : Int32} {q : Int32 × XW} (h0 : bX7_valueOfTurns_83 frec w l0 l1 l2 l3 l4 l5 l6 = some q) : WP K l mX7_valueOfTurns fr lo n0 k0 (some (.int q.1)) q.2 83 [some (.ref l0), some (.int l1), some (.int l2), some (.int l3), some (.int l4), some (.int l5), some (.int l6)] [] w := by
  unfold bX7_valueOfTurns_83 at h0
  refine wp_aload_n dX7_valueOfTurns_83 rfl ?_
  obtain ⟨x1, e3, h2⟩ := Option.bind_eq_some_iff.mp h0
  clear h0
  refine wp_getR okX7 (k := 4) (by decide) tw302 dX7_valueOfTurns_84 e3 ?_
  obtain ⟨x4, e6, h5⟩ := Option.bind_eq_some_iff.mp h2
  clear h2
  refine wp_getR okX5 (k := 0) (by decide) tw94 dX7_valueOfTurns_87 e6 ?_
  refine wp_iconst (v := (1 : Int32)) dX7_valueOfTurns_90 (by decide) ?_
  obtain ⟨x7, e9, h8⟩ := Option.bind_eq_some_iff.mp h5
  clear h5
  refine wp_iald dX7_valueOfTurns_91 e9 ?_
  refine wp_iload dX7_valueOfTurns_92 rfl ?_
  refine wp_iadd dX7_valueOfTurns_94 ?_
  refine wp_sipush (v := (999 : Int32)) dX7_valueOfTurns_95 (by decide) ?_
  refine wp_icmp_ge (tgt := 123) dX7_valueOfTurns_98 (by decide) (fun c10 => ?_) (fun c10 => ?_)
  · rw [if_pos c10] at h8
    exact WP.wk (BX7_valueOfTurns_123 hrec hreO hfr hlo h8) (And.intro rfl trivial)
  · rw [if_neg c10] at h8
    refine wp_iload dX7_valueOfTurns_101 rfl ?_
    refine wp_iload dX7_valueOfTurns_103 rfl ?_
    refine wp_aload_n dX7_valueOfTurns_105 rfl ?_
    refine wp_iload_n dX7_valueOfTurns_106 rfl ?_
    refine wp_iconst (v := (1 : Int32)) dX7_valueOfTurns_107 (by decide) ?_
    refine wp_iadd dX7_valueOfTurns_108 ?_
    refine wp_iload_n dX7_valueOfTurns_109 rfl ?_
    refine wp_iload_n dX7_valueOfTurns_110 rfl ?_
    refine wp_iload dX7_valueOfTurns_111 rfl ?_
    refine wp_iconst (v := (1 : Int32)) dX7_valueOfTurns_113 (by decide) ?_
    refine wp_iadd dX7_valueOfTurns_114 ?_
    obtain ⟨q11, e13, h12⟩ := Option.bind_eq_some_iff.mp h8
    clear h8
    refine wp_Vi (As := [.int (l1 + (1 : Int32)), .int l2, .int l3, .int (l4 + (1 : Int32))]) (S := [.int l6, .int l5]) okM_X7_valueOfTurns tw625 twP_X7_valueOfTurns tw623 (hreO _ _ _ _ _ _ _ e13) rfl rfl rfl hfr (Nat.le_of_ble_eq_true rfl) rfl dX7_valueOfTurns_115 (hrec _ _ _ _ _ _ _ e13) ?_
    obtain ⟨q14, e16, h15⟩ := Option.bind_eq_some_iff.mp h12
    clear h12
    refine wp_Si (As := [.int l5, .int l6, .int q11.1]) (S := []) okM_X7_better tw632 tw631 rfl ⟨by omega, by show 8 + (3 + 11) + 21 ≤ lo; omega⟩ (Nat.le_of_ble_eq_true rfl) rfl dX7_valueOfTurns_118 (MX7_better e16) ?_
    refine wp_istore (L1 := [some (.ref l0), some (.int l1), some (.int l2), some (.int l3), some (.int l4), some (.int l5), some (.int q14.1)]) dX7_valueOfTurns_121 (Nat.le_of_ble_eq_true rfl) rfl ?_
    exact WP.wk (BX7_valueOfTurns_123 hrec hreO hfr hlo h15) (And.intro rfl trivial)
def bX7_valueOfTurns_29 (frec : XW → Nat → Int32 → Int32 → Int32 → Int32 → Option (Int32 × XW)) (w : XW) (l0 : Nat) (l1 : Int32) (l2 : Int32) (l3 : Int32) (l4 : Int32) (s0 : Int32) : Option (Int32 × XW) :=
  (frec w l0 (l1 + (1 : Int32)) l2 l3 l4).bind fun q1 =>
  (gR q1.2 l0 7 4).bind fun x4 =>
  (gR q1.2 x4 5 0).bind fun x7 =>
  (aI q1.2 0 x7 (0 : Int32)).bind fun x10 =>
  if (999 : Int32) ≤ (x10 + l3) then
  bX7_valueOfTurns_83 frec q1.2 l0 l1 l2 l3 l4 s0 q1.1
  else
  (frec q1.2 l0 (l1 + (1 : Int32)) l2 (l3 + (1 : Int32)) l4).bind fun q14 =>
  (fX7_better q14.2 s0 q1.1 q14.1).bind fun q17 =>
  bX7_valueOfTurns_83 frec q17.2 l0 l1 l2 l3 l4 s0 q17.1
theorem BX7_valueOfTurns_29 {K : CX} {l : Launch} {n0 k0 : Nat} {fr lo fz lz : Nat} {frec : XW → Nat → Int32 → Int32 → Int32 → Int32 → Option (Int32 × XW)} (hrec : ∀ (w : XW) (l0 : Nat) (l1 : Int32) (l2 : Int32) (l3 : Int32) (l4 : Int32) (q : Int32 × XW), frec w l0 l1 l2 l3 l4 = some q → MT K l mX7_valueOfTurns fz lz [.ref l0, .int l1, .int l2, .int l3, .int l4] w (some (.int q.1)) q.2) (hreO : ∀ (w : XW) (l0 : Nat) (l1 : Int32) (l2 : Int32) (l3 : Int32) (l4 : Int32) (q : Int32 × XW), frec w l0 l1 l2 l3 l4 = some q → isO w l0 7 = true) (hfr : fz + 1 ≤ fr ∧ 8 + (7 + 11) + lz ≤ lo) (hlo : 6 ≤ fr ∧ 138 ≤ lo) {w : XW} {l0 : Nat} {l1 : Int32} {l2 : Int32} {l3 : Int32} {l4 : Int32} {s0 : Int32} {q : Int32 × XW} (h0 : bX7_valueOfTurns_29 frec w l0 l1 l2 l3 l4 s0 = some q) : WP K l mX7_valueOfTurns fr lo n0 k0 (some (.int q.1)) q.2 29 [some (.ref l0), some (.int l1), some (.int l2), some (.int l3), some (.int l4), none, none] [.int s0] w := by
  unfold bX7_valueOfTurns_29 at h0
  refine wp_istore (L1 := [some (.ref l0), some (.int l1), some (.int l2), some (.int l3), some (.int l4), some (.int s0), none]) dX7_valueOfTurns_29 (Nat.le_of_ble_eq_true rfl) rfl ?_
  refine wp_aload_n dX7_valueOfTurns_31 rfl ?_
  refine wp_iload_n dX7_valueOfTurns_32 rfl ?_
  refine wp_iconst (v := (1 : Int32)) dX7_valueOfTurns_33 (by decide) ?_
  refine wp_iadd dX7_valueOfTurns_34 ?_
  refine wp_iload_n dX7_valueOfTurns_35 rfl ?_
  refine wp_iload_n dX7_valueOfTurns_36 rfl ?_
  refine wp_iload dX7_valueOfTurns_37 rfl ?_
  obtain ⟨q1, e3, h2⟩ := Option.bind_eq_some_iff.mp h0
  clear h0
  refine wp_Vi (As := [.int (l1 + (1 : Int32)), .int l2, .int l3, .int l4]) (S := []) okM_X7_valueOfTurns tw625 twP_X7_valueOfTurns tw623 (hreO _ _ _ _ _ _ _ e3) rfl rfl rfl hfr (Nat.le_of_ble_eq_true rfl) rfl dX7_valueOfTurns_39 (hrec _ _ _ _ _ _ _ e3) ?_
  refine wp_istore (L1 := [some (.ref l0), some (.int l1), some (.int l2), some (.int l3), some (.int l4), some (.int s0), some (.int q1.1)]) dX7_valueOfTurns_42 (Nat.le_of_ble_eq_true rfl) rfl ?_
  refine wp_aload_n dX7_valueOfTurns_44 rfl ?_
  obtain ⟨x4, e6, h5⟩ := Option.bind_eq_some_iff.mp h2
  clear h2
  refine wp_getR okX7 (k := 4) (by decide) tw302 dX7_valueOfTurns_45 e6 ?_
  obtain ⟨x7, e9, h8⟩ := Option.bind_eq_some_iff.mp h5
  clear h5
  refine wp_getR okX5 (k := 0) (by decide) tw94 dX7_valueOfTurns_48 e9 ?_
  refine wp_iconst (v := (0 : Int32)) dX7_valueOfTurns_51 (by decide) ?_
  obtain ⟨x10, e12, h11⟩ := Option.bind_eq_some_iff.mp h8
  clear h8
  refine wp_iald dX7_valueOfTurns_52 e12 ?_
  refine wp_iload_n dX7_valueOfTurns_53 rfl ?_
  refine wp_iadd dX7_valueOfTurns_54 ?_
  refine wp_sipush (v := (999 : Int32)) dX7_valueOfTurns_55 (by decide) ?_
  refine wp_icmp_ge (tgt := 83) dX7_valueOfTurns_58 (by decide) (fun c13 => ?_) (fun c13 => ?_)
  · rw [if_pos c13] at h11
    exact WP.wk (BX7_valueOfTurns_83 hrec hreO hfr hlo h11) (And.intro rfl (And.intro rfl (And.intro rfl (And.intro rfl (And.intro rfl (And.intro rfl (And.intro rfl trivial)))))))
  · rw [if_neg c13] at h11
    refine wp_iload dX7_valueOfTurns_61 rfl ?_
    refine wp_iload dX7_valueOfTurns_63 rfl ?_
    refine wp_aload_n dX7_valueOfTurns_65 rfl ?_
    refine wp_iload_n dX7_valueOfTurns_66 rfl ?_
    refine wp_iconst (v := (1 : Int32)) dX7_valueOfTurns_67 (by decide) ?_
    refine wp_iadd dX7_valueOfTurns_68 ?_
    refine wp_iload_n dX7_valueOfTurns_69 rfl ?_
    refine wp_iload_n dX7_valueOfTurns_70 rfl ?_
    refine wp_iconst (v := (1 : Int32)) dX7_valueOfTurns_71 (by decide) ?_
    refine wp_iadd dX7_valueOfTurns_72 ?_
    refine wp_iload dX7_valueOfTurns_73 rfl ?_
    obtain ⟨q14, e16, h15⟩ := Option.bind_eq_some_iff.mp h11
    clear h11
    refine wp_Vi (As := [.int (l1 + (1 : Int32)), .int l2, .int (l3 + (1 : Int32)), .int l4]) (S := [.int q1.1, .int s0]) okM_X7_valueOfTurns tw625 twP_X7_valueOfTurns tw623 (hreO _ _ _ _ _ _ _ e16) rfl rfl rfl hfr (Nat.le_of_ble_eq_true rfl) rfl dX7_valueOfTurns_75 (hrec _ _ _ _ _ _ _ e16) ?_
    obtain ⟨q17, e19, h18⟩ := Option.bind_eq_some_iff.mp h15
    clear h15
    refine wp_Si (As := [.int s0, .int q1.1, .int q14.1]) (S := []) okM_X7_better tw632 tw631 rfl ⟨by omega, by show 8 + (3 + 11) + 21 ≤ lo; omega⟩ (Nat.le_of_ble_eq_true rfl) rfl dX7_valueOfTurns_78 (MX7_better e19) ?_
    refine wp_istore (L1 := [some (.ref l0), some (.int l1), some (.int l2), some (.int l3), some (.int l4), some (.int s0), some (.int q17.1)]) dX7_valueOfTurns_81 (Nat.le_of_ble_eq_true rfl) rfl ?_
    exact WP.wk (BX7_valueOfTurns_83 hrec hreO hfr hlo h18) (And.intro rfl (And.intro rfl (And.intro rfl (And.intro rfl (And.intro rfl (And.intro rfl (And.intro rfl trivial)))))))
def bX7_valueOfTurns_10 (frec : XW → Nat → Int32 → Int32 → Int32 → Int32 → Option (Int32 × XW)) (w : XW) (l0 : Nat) (l3 : Int32) (l4 : Int32) : Option (Int32 × XW) :=
  (fX7_stepsToRestBehind w l0 l3 l4).bind fun q1 =>
  some (q1.1, q1.2)
theorem BX7_valueOfTurns_10 {K : CX} {l : Launch} {n0 k0 : Nat} {fr lo fz lz : Nat} {frec : XW → Nat → Int32 → Int32 → Int32 → Int32 → Option (Int32 × XW)} (hrec : ∀ (w : XW) (l0 : Nat) (l1 : Int32) (l2 : Int32) (l3 : Int32) (l4 : Int32) (q : Int32 × XW), frec w l0 l1 l2 l3 l4 = some q → MT K l mX7_valueOfTurns fz lz [.ref l0, .int l1, .int l2, .int l3, .int l4] w (some (.int q.1)) q.2) (hreO : ∀ (w : XW) (l0 : Nat) (l1 : Int32) (l2 : Int32) (l3 : Int32) (l4 : Int32) (q : Int32 × XW), frec w l0 l1 l2 l3 l4 = some q → isO w l0 7 = true) (hfr : fz + 1 ≤ fr ∧ 8 + (7 + 11) + lz ≤ lo) (hlo : 6 ≤ fr ∧ 138 ≤ lo) {w : XW} {l0 : Nat} {l3 : Int32} {l4 : Int32} {q : Int32 × XW} (h0 : bX7_valueOfTurns_10 frec w l0 l3 l4 = some q) : WP K l mX7_valueOfTurns fr lo n0 k0 (some (.int q.1)) q.2 10 [some (.ref l0), none, none, some (.int l3), some (.int l4), none, none] [] w := by
  unfold bX7_valueOfTurns_10 at h0
  refine wp_aload_n dX7_valueOfTurns_10 rfl ?_
  refine wp_iload_n dX7_valueOfTurns_11 rfl ?_
  refine wp_iload dX7_valueOfTurns_12 rfl ?_
  obtain ⟨q1, e3, h2⟩ := Option.bind_eq_some_iff.mp h0
  clear h0
  refine wp_Vi (As := [.int l3, .int l4]) (S := []) okM_X7_stepsToRestBehind tw629 twP_X7_stepsToRestBehind tw627 (OX7_stepsToRestBehind e3) rfl rfl rfl ⟨by omega, by show 8 + (3 + 11) + 116 ≤ lo; omega⟩ (Nat.le_of_ble_eq_true rfl) rfl dX7_valueOfTurns_14 (MX7_stepsToRestBehind e3) ?_
  cases h2
  exact wp_iret rfl dX7_valueOfTurns_17
def eX7_valueOfTurns (frec : XW → Nat → Int32 → Int32 → Int32 → Int32 → Option (Int32 × XW)) (w : XW) (l0 : Nat) (l1 : Int32) (l2 : Int32) (l3 : Int32) (l4 : Int32) : Option (Int32 × XW) :=
  if l2 ≤ l1 then
  bX7_valueOfTurns_10 frec w l0 l3 l4
  else
  if l1 < (4 : Int32) then
  if (irm l1 (2 : Int32)) = 0 then
  bX7_valueOfTurns_29 frec w l0 l1 l2 l3 l4 (1 : Int32)
  else
  bX7_valueOfTurns_29 frec w l0 l1 l2 l3 l4 (0 : Int32)
  else
  bX7_valueOfTurns_10 frec w l0 l3 l4
theorem EX7_valueOfTurns {K : CX} {l : Launch} {n0 k0 : Nat} {fr lo fz lz : Nat} {frec : XW → Nat → Int32 → Int32 → Int32 → Int32 → Option (Int32 × XW)} (hrec : ∀ (w : XW) (l0 : Nat) (l1 : Int32) (l2 : Int32) (l3 : Int32) (l4 : Int32) (q : Int32 × XW), frec w l0 l1 l2 l3 l4 = some q → MT K l mX7_valueOfTurns fz lz [.ref l0, .int l1, .int l2, .int l3, .int l4] w (some (.int q.1)) q.2) (hreO : ∀ (w : XW) (l0 : Nat) (l1 : Int32) (l2 : Int32) (l3 : Int32) (l4 : Int32) (q : Int32 × XW), frec w l0 l1 l2 l3 l4 = some q → isO w l0 7 = true) (hfr : fz + 1 ≤ fr ∧ 8 + (7 + 11) + lz ≤ lo) (hlo : 6 ≤ fr ∧ 138 ≤ lo) {w : XW} {l0 : Nat} {l1 : Int32} {l2 : Int32} {l3 : Int32} {l4 : Int32} {q : Int32 × XW} (h0 : eX7_valueOfTurns frec w l0 l1 l2 l3 l4 = some q) : WP K l mX7_valueOfTurns fr lo n0 k0 (some (.int q.1)) q.2 0 [some (.ref l0), some (.int l1), some (.int l2), some (.int l3), some (.int l4), none, none] [] w := by
  unfold eX7_valueOfTurns at h0
  refine wp_iload_n dX7_valueOfTurns_0 rfl ?_
  refine wp_iload_n dX7_valueOfTurns_1 rfl ?_
  refine wp_icmp_ge (tgt := 10) dX7_valueOfTurns_2 (by decide) (fun c1 => ?_) (fun c1 => ?_)
  · rw [if_pos c1] at h0
    exact WP.wk (BX7_valueOfTurns_10 hrec hreO hfr hlo h0) (And.intro rfl (And.intro rfl (And.intro rfl trivial)))
  · rw [if_neg c1] at h0
    refine wp_iload_n dX7_valueOfTurns_5 rfl ?_
    refine wp_iconst (v := (4 : Int32)) dX7_valueOfTurns_6 (by decide) ?_
    refine wp_icmp_lt (tgt := 18) dX7_valueOfTurns_7 (by decide) (fun c2 => ?_) (fun c2 => ?_)
    · rw [if_pos c2] at h0
      refine wp_iload_n dX7_valueOfTurns_18 rfl ?_
      refine wp_iconst (v := (2 : Int32)) dX7_valueOfTurns_19 (by decide) ?_
      refine wp_irm dX7_valueOfTurns_20 (by decide) ?_
      refine wp_if_ne (tgt := 28) dX7_valueOfTurns_21 (by decide) (fun c3 => ?_) (fun c3 => ?_)
      · rw [if_neg c3] at h0
        refine wp_iconst (v := (0 : Int32)) dX7_valueOfTurns_28 (by decide) ?_
        exact WP.wk (BX7_valueOfTurns_29 hrec hreO hfr hlo h0) (And.intro rfl (And.intro rfl (And.intro rfl (And.intro rfl (And.intro rfl trivial)))))
      · rw [if_pos c3] at h0
        refine wp_iconst (v := (1 : Int32)) dX7_valueOfTurns_24 (by decide) ?_
        refine wp_goto (tgt := 29) dX7_valueOfTurns_25 (by decide) ?_
        exact WP.wk (BX7_valueOfTurns_29 hrec hreO hfr hlo h0) (And.intro rfl (And.intro rfl (And.intro rfl (And.intro rfl (And.intro rfl trivial)))))
    · rw [if_neg c2] at h0
      exact WP.wk (BX7_valueOfTurns_10 hrec hreO hfr hlo h0) (And.intro rfl (And.intro rfl (And.intro rfl trivial)))
def fdX7_valueOfTurns : Nat → XW → Nat → Int32 → Int32 → Int32 → Int32 → Option (Int32 × XW)
  | 0 => fun _ _ _ _ _ _ => none
  | d + 1 => fun w l0 l1 l2 l3 l4 => if isO w l0 7 = true then eX7_valueOfTurns (fdX7_valueOfTurns d) w l0 l1 l2 l3 l4 else none
theorem MDX7_valueOfTurns {K : CX} {l : Launch} : ∀ (d : Nat) (w : XW) (l0 : Nat) (l1 : Int32) (l2 : Int32) (l3 : Int32) (l4 : Int32) (q : Int32 × XW), fdX7_valueOfTurns d w l0 l1 l2 l3 l4 = some q → MT K l mX7_valueOfTurns (6 + d) (138 + d * 26) [.ref l0, .int l1, .int l2, .int l3, .int l4] w (some (.int q.1)) q.2 ∧ isO w l0 7 = true := by
  intro d
  induction d with
  | zero => intro w l0 l1 l2 l3 l4 q h; cases h
  | succ d ih =>
    intro w l0 l1 l2 l3 l4 q h
    have z : isO w l0 7 = true := Decidable.byContradiction fun z => by unfold fdX7_valueOfTurns at h; rw [if_neg z] at h; cases h
    unfold fdX7_valueOfTurns at h
    rw [if_pos z] at h
    have hfr : (6 + d) + 1 ≤ 6 + (d + 1) ∧ 8 + (7 + 11) + (138 + d * 26) ≤ 138 + (d + 1) * 26 := ⟨by omega, by omega⟩
    have hlo : 6 ≤ 6 + (d + 1) ∧ 138 ≤ 138 + (d + 1) * 26 := ⟨by omega, by omega⟩
    have hrec := fun w l0 l1 l2 l3 l4 q h => (ih w l0 l1 l2 l3 l4 q h).1
    have hreO := fun w l0 l1 l2 l3 l4 q h => (ih w l0 l1 l2 l3 l4 q h).2
    exact ⟨MT.of (by decide) (Nat.le_of_ble_eq_true rfl) rfl (EX7_valueOfTurns hrec hreO hfr hlo h), z⟩
def fX7_valueOfTurns (w : XW) (l0 : Nat) (l1 : Int32) (l2 : Int32) (l3 : Int32) (l4 : Int32) : Option (Int32 × XW) := fdX7_valueOfTurns 6 w l0 l1 l2 l3 l4
theorem OX7_valueOfTurns {w : XW} {l0 : Nat} {l1 : Int32} {l2 : Int32} {l3 : Int32} {l4 : Int32} {q : Int32 × XW} (h : fX7_valueOfTurns w l0 l1 l2 l3 l4 = some q) : isO w l0 7 = true := Decidable.byContradiction fun z => by unfold fX7_valueOfTurns at h; unfold fdX7_valueOfTurns at h; rw [if_neg z] at h; cases h
theorem MX7_valueOfTurns {K : CX} {l : Launch} {w : XW} {l0 : Nat} {l1 : Int32} {l2 : Int32} {l3 : Int32} {l4 : Int32} {q : Int32 × XW} (h : fX7_valueOfTurns w l0 l1 l2 l3 l4 = some q) : MT K l mX7_valueOfTurns 12 294 [.ref l0, .int l1, .int l2, .int l3, .int l4] w (some (.int q.1)) q.2 := (MDX7_valueOfTurns 6 w l0 l1 l2 l3 l4 q h).1
/-! FractionRun.duel(I)I: frames 13, words 320 -/
abbrev mX7_duel : MR := (⟨"FractionRun", "duel", "(I)I"⟩, prog_1_method_28_code, 2, (some .int))
theorem dX7_duel_0 : decode prog_1_method_28_code 0 = .ok (.iload_n 1, 1) := by decide +kernel
theorem dX7_duel_1 : decode prog_1_method_28_code 1 = .ok (.ifCond .lt 8, 3) := by decide +kernel
theorem dX7_duel_4 : decode prog_1_method_28_code 4 = .ok (.iload_n 1, 1) := by decide +kernel
theorem dX7_duel_5 : decode prog_1_method_28_code 5 = .ok (.iconst 4, 1) := by decide +kernel
theorem dX7_duel_6 : decode prog_1_method_28_code 6 = .ok (.if_icmp .le 7, 3) := by decide +kernel
theorem dX7_duel_9 : decode prog_1_method_28_code 9 = .ok (.iconst (-1), 1) := by decide +kernel
theorem dX7_duel_10 : decode prog_1_method_28_code 10 = .ok (.goto 11, 3) := by decide +kernel
theorem dX7_duel_13 : decode prog_1_method_28_code 13 = .ok (.aload_n 0, 1) := by decide +kernel
theorem dX7_duel_14 : decode prog_1_method_28_code 14 = .ok (.iconst 0, 1) := by decide +kernel
theorem dX7_duel_15 : decode prog_1_method_28_code 15 = .ok (.iload_n 1, 1) := by decide +kernel
theorem dX7_duel_16 : decode prog_1_method_28_code 16 = .ok (.iconst 0, 1) := by decide +kernel
theorem dX7_duel_17 : decode prog_1_method_28_code 17 = .ok (.iconst 0, 1) := by decide +kernel
theorem dX7_duel_18 : decode prog_1_method_28_code 18 = .ok (.invokevirtual 244, 3) := by decide +kernel
theorem dX7_duel_21 : decode prog_1_method_28_code 21 = .ok (.ireturn, 1) := by decide +kernel
theorem okM_X7_duel : okM mX7_duel 1 := ⟨tw622, tw1, by decide, by decide, by decide +kernel⟩
def bX7_duel_21 (w : XW) (s0 : Int32) : Option (Int32 × XW) :=
  some (s0, w)
theorem BX7_duel_21 {K : CX} {l : Launch} {n0 k0 : Nat} {w : XW} {s0 : Int32} {q : Int32 × XW} (h0 : bX7_duel_21 w s0 = some q) : WP K l mX7_duel 13 320 n0 k0 (some (.int q.1)) q.2 21 [none, none] [.int s0] w := by
  unfold bX7_duel_21 at h0
  cases h0
  exact wp_iret rfl dX7_duel_21
def bX7_duel_9 (w : XW) : Option (Int32 × XW) :=
  bX7_duel_21 w (-1 : Int32)
theorem BX7_duel_9 {K : CX} {l : Launch} {n0 k0 : Nat} {w : XW} {q : Int32 × XW} (h0 : bX7_duel_9 w = some q) : WP K l mX7_duel 13 320 n0 k0 (some (.int q.1)) q.2 9 [none, none] [] w := by
  unfold bX7_duel_9 at h0
  refine wp_iconst (v := (-1 : Int32)) dX7_duel_9 (by decide) ?_
  refine wp_goto (tgt := 21) dX7_duel_10 (by decide) ?_
  exact WP.wk (BX7_duel_21 h0) trivial
def eX7_duel (w : XW) (l0 : Nat) (l1 : Int32) : Option (Int32 × XW) :=
  if l1 < 0 then
  bX7_duel_9 w
  else
  if l1 ≤ (4 : Int32) then
  (fX7_valueOfTurns w l0 (0 : Int32) l1 (0 : Int32) (0 : Int32)).bind fun q3 =>
  bX7_duel_21 q3.2 q3.1
  else
  bX7_duel_9 w
theorem EX7_duel {K : CX} {l : Launch} {n0 k0 : Nat} {w : XW} {l0 : Nat} {l1 : Int32} {q : Int32 × XW} (h0 : eX7_duel w l0 l1 = some q) : WP K l mX7_duel 13 320 n0 k0 (some (.int q.1)) q.2 0 [some (.ref l0), some (.int l1)] [] w := by
  unfold eX7_duel at h0
  refine wp_iload_n dX7_duel_0 rfl ?_
  refine wp_if_lt (tgt := 9) dX7_duel_1 (by decide) (fun c1 => ?_) (fun c1 => ?_)
  · rw [if_pos c1] at h0
    exact WP.wk (BX7_duel_9 h0) trivial
  · rw [if_neg c1] at h0
    refine wp_iload_n dX7_duel_4 rfl ?_
    refine wp_iconst (v := (4 : Int32)) dX7_duel_5 (by decide) ?_
    refine wp_icmp_le (tgt := 13) dX7_duel_6 (by decide) (fun c2 => ?_) (fun c2 => ?_)
    · rw [if_pos c2] at h0
      refine wp_aload_n dX7_duel_13 rfl ?_
      refine wp_iconst (v := (0 : Int32)) dX7_duel_14 (by decide) ?_
      refine wp_iload_n dX7_duel_15 rfl ?_
      refine wp_iconst (v := (0 : Int32)) dX7_duel_16 (by decide) ?_
      refine wp_iconst (v := (0 : Int32)) dX7_duel_17 (by decide) ?_
      obtain ⟨q3, e5, h4⟩ := Option.bind_eq_some_iff.mp h0
      clear h0
      refine wp_Vi (As := [.int (0 : Int32), .int l1, .int (0 : Int32), .int (0 : Int32)]) (S := []) okM_X7_valueOfTurns tw625 twP_X7_valueOfTurns tw623 (OX7_valueOfTurns e5) rfl rfl rfl ⟨(Nat.le_of_ble_eq_true rfl), (Nat.le_of_ble_eq_true rfl)⟩ (Nat.le_of_ble_eq_true rfl) rfl dX7_duel_18 (MX7_valueOfTurns e5) ?_
      exact WP.wk (BX7_duel_21 h4) trivial
    · rw [if_neg c2] at h0
      exact WP.wk (BX7_duel_9 h0) trivial
def fX7_duel (w : XW) (l0 : Nat) (l1 : Int32) : Option (Int32 × XW) := if isO w l0 7 = true then eX7_duel w l0 l1 else none
theorem OX7_duel {w : XW} {l0 : Nat} {l1 : Int32} {q : Int32 × XW} (h : fX7_duel w l0 l1 = some q) : isO w l0 7 = true := Decidable.byContradiction fun z => by unfold fX7_duel at h; rw [if_neg z] at h; cases h
theorem MX7_duel {K : CX} {l : Launch} {w : XW} {l0 : Nat} {l1 : Int32} {q : Int32 × XW} (h : fX7_duel w l0 l1 = some q) : MT K l mX7_duel 13 320 [.ref l0, .int l1] w (some (.int q.1)) q.2 := by
  have z := OX7_duel h
  unfold fX7_duel at h
  rw [if_pos z] at h
  exact MT.of (by decide) (Nat.le_of_ble_eq_true rfl) rfl (EX7_duel h)
/-! FractionRunModel.choice(III)I: frames 1, words 20 -/
abbrev mX8_choice : MR := (⟨"FractionRunModel", "choice", "(III)I"⟩, prog_10_method_64_code, 3, (some .int))
theorem dX8_choice_0 : decode prog_10_method_64_code 0 = .ok (.iload_n 0, 1) := by decide +kernel
theorem dX8_choice_1 : decode prog_10_method_64_code 1 = .ok (.ifCond .lt 7, 3) := by decide +kernel
theorem dX8_choice_4 : decode prog_10_method_64_code 4 = .ok (.iload_n 1, 1) := by decide +kernel
theorem dX8_choice_5 : decode prog_10_method_64_code 5 = .ok (.ifCond .ge 13, 3) := by decide +kernel
theorem dX8_choice_8 : decode prog_10_method_64_code 8 = .ok (.iload_n 0, 1) := by decide +kernel
theorem dX8_choice_9 : decode prog_10_method_64_code 9 = .ok (.ifCond .ge 7, 3) := by decide +kernel
theorem dX8_choice_12 : decode prog_10_method_64_code 12 = .ok (.iload_n 1, 1) := by decide +kernel
theorem dX8_choice_13 : decode prog_10_method_64_code 13 = .ok (.goto 4, 3) := by decide +kernel
theorem dX8_choice_16 : decode prog_10_method_64_code 16 = .ok (.iload_n 0, 1) := by decide +kernel
theorem dX8_choice_17 : decode prog_10_method_64_code 17 = .ok (.ireturn, 1) := by decide +kernel
theorem dX8_choice_18 : decode prog_10_method_64_code 18 = .ok (.iload_n 0, 1) := by decide +kernel
theorem dX8_choice_19 : decode prog_10_method_64_code 19 = .ok (.iload_n 1, 1) := by decide +kernel
theorem dX8_choice_20 : decode prog_10_method_64_code 20 = .ok (.if_icmp .ge 7, 3) := by decide +kernel
theorem dX8_choice_23 : decode prog_10_method_64_code 23 = .ok (.iconst 1, 1) := by decide +kernel
theorem dX8_choice_24 : decode prog_10_method_64_code 24 = .ok (.goto 4, 3) := by decide +kernel
theorem dX8_choice_27 : decode prog_10_method_64_code 27 = .ok (.iconst 0, 1) := by decide +kernel
theorem dX8_choice_28 : decode prog_10_method_64_code 28 = .ok (.iload_n 2, 1) := by decide +kernel
theorem dX8_choice_29 : decode prog_10_method_64_code 29 = .ok (.iconst 2, 1) := by decide +kernel
theorem dX8_choice_30 : decode prog_10_method_64_code 30 = .ok (.irem, 1) := by decide +kernel
theorem dX8_choice_31 : decode prog_10_method_64_code 31 = .ok (.ifCond .ne 7, 3) := by decide +kernel
theorem dX8_choice_34 : decode prog_10_method_64_code 34 = .ok (.iconst 1, 1) := by decide +kernel
theorem dX8_choice_35 : decode prog_10_method_64_code 35 = .ok (.goto 4, 3) := by decide +kernel
theorem dX8_choice_38 : decode prog_10_method_64_code 38 = .ok (.iconst 0, 1) := by decide +kernel
theorem dX8_choice_39 : decode prog_10_method_64_code 39 = .ok (.if_icmp .ne 7, 3) := by decide +kernel
theorem dX8_choice_42 : decode prog_10_method_64_code 42 = .ok (.iload_n 1, 1) := by decide +kernel
theorem dX8_choice_43 : decode prog_10_method_64_code 43 = .ok (.goto 4, 3) := by decide +kernel
theorem dX8_choice_46 : decode prog_10_method_64_code 46 = .ok (.iload_n 0, 1) := by decide +kernel
theorem dX8_choice_47 : decode prog_10_method_64_code 47 = .ok (.ireturn, 1) := by decide +kernel
theorem okM_X8_choice : okM mX8_choice 3 := ⟨tw1025, tw15, by decide, by decide, by decide +kernel⟩
def bX8_choice_47 (w : XW) (s0 : Int32) : Option (Int32 × XW) :=
  some (s0, w)
theorem BX8_choice_47 {K : CX} {l : Launch} {n0 k0 : Nat} {w : XW} {s0 : Int32} {q : Int32 × XW} (h0 : bX8_choice_47 w s0 = some q) : WP K l mX8_choice 1 20 n0 k0 (some (.int q.1)) q.2 47 [none, none, none] [.int s0] w := by
  unfold bX8_choice_47 at h0
  cases h0
  exact wp_iret rfl dX8_choice_47
def bX8_choice_39 (w : XW) (l0 : Int32) (l1 : Int32) (s0 : Int32) (s1 : Int32) : Option (Int32 × XW) :=
  if s0 = s1 then
  bX8_choice_47 w l1
  else
  bX8_choice_47 w l0
theorem BX8_choice_39 {K : CX} {l : Launch} {n0 k0 : Nat} {w : XW} {l0 : Int32} {l1 : Int32} {s0 : Int32} {s1 : Int32} {q : Int32 × XW} (h0 : bX8_choice_39 w l0 l1 s0 s1 = some q) : WP K l mX8_choice 1 20 n0 k0 (some (.int q.1)) q.2 39 [some (.int l0), some (.int l1), none] [.int s1, .int s0] w := by
  unfold bX8_choice_39 at h0
  refine wp_icmp_ne (tgt := 46) dX8_choice_39 (by decide) (fun c1 => ?_) (fun c1 => ?_)
  · rw [if_neg c1] at h0
    refine wp_iload_n dX8_choice_46 rfl ?_
    exact WP.wk (BX8_choice_47 h0) trivial
  · rw [if_pos c1] at h0
    refine wp_iload_n dX8_choice_42 rfl ?_
    refine wp_goto (tgt := 47) dX8_choice_43 (by decide) ?_
    exact WP.wk (BX8_choice_47 h0) trivial
def bX8_choice_28 (w : XW) (l0 : Int32) (l1 : Int32) (l2 : Int32) (s0 : Int32) : Option (Int32 × XW) :=
  if (irm l2 (2 : Int32)) = 0 then
  bX8_choice_39 w l0 l1 s0 (1 : Int32)
  else
  bX8_choice_39 w l0 l1 s0 (0 : Int32)
theorem BX8_choice_28 {K : CX} {l : Launch} {n0 k0 : Nat} {w : XW} {l0 : Int32} {l1 : Int32} {l2 : Int32} {s0 : Int32} {q : Int32 × XW} (h0 : bX8_choice_28 w l0 l1 l2 s0 = some q) : WP K l mX8_choice 1 20 n0 k0 (some (.int q.1)) q.2 28 [some (.int l0), some (.int l1), some (.int l2)] [.int s0] w := by
  unfold bX8_choice_28 at h0
  refine wp_iload_n dX8_choice_28 rfl ?_
  refine wp_iconst (v := (2 : Int32)) dX8_choice_29 (by decide) ?_
  refine wp_irm dX8_choice_30 (by decide) ?_
  refine wp_if_ne (tgt := 38) dX8_choice_31 (by decide) (fun c1 => ?_) (fun c1 => ?_)
  · rw [if_neg c1] at h0
    refine wp_iconst (v := (0 : Int32)) dX8_choice_38 (by decide) ?_
    exact WP.wk (BX8_choice_39 h0) (And.intro rfl (And.intro rfl trivial))
  · rw [if_pos c1] at h0
    refine wp_iconst (v := (1 : Int32)) dX8_choice_34 (by decide) ?_
    refine wp_goto (tgt := 39) dX8_choice_35 (by decide) ?_
    exact WP.wk (BX8_choice_39 h0) (And.intro rfl (And.intro rfl trivial))
def bX8_choice_17 (w : XW) (s0 : Int32) : Option (Int32 × XW) :=
  some (s0, w)
theorem BX8_choice_17 {K : CX} {l : Launch} {n0 k0 : Nat} {w : XW} {s0 : Int32} {q : Int32 × XW} (h0 : bX8_choice_17 w s0 = some q) : WP K l mX8_choice 1 20 n0 k0 (some (.int q.1)) q.2 17 [none, none, none] [.int s0] w := by
  unfold bX8_choice_17 at h0
  cases h0
  exact wp_iret rfl dX8_choice_17
def bX8_choice_8 (w : XW) (l0 : Int32) (l1 : Int32) : Option (Int32 × XW) :=
  if 0 ≤ l0 then
  bX8_choice_17 w l0
  else
  bX8_choice_17 w l1
theorem BX8_choice_8 {K : CX} {l : Launch} {n0 k0 : Nat} {w : XW} {l0 : Int32} {l1 : Int32} {q : Int32 × XW} (h0 : bX8_choice_8 w l0 l1 = some q) : WP K l mX8_choice 1 20 n0 k0 (some (.int q.1)) q.2 8 [some (.int l0), some (.int l1), none] [] w := by
  unfold bX8_choice_8 at h0
  refine wp_iload_n dX8_choice_8 rfl ?_
  refine wp_if_ge (tgt := 16) dX8_choice_9 (by decide) (fun c1 => ?_) (fun c1 => ?_)
  · rw [if_pos c1] at h0
    refine wp_iload_n dX8_choice_16 rfl ?_
    exact WP.wk (BX8_choice_17 h0) trivial
  · rw [if_neg c1] at h0
    refine wp_iload_n dX8_choice_12 rfl ?_
    refine wp_goto (tgt := 17) dX8_choice_13 (by decide) ?_
    exact WP.wk (BX8_choice_17 h0) trivial
def eX8_choice (w : XW) (l0 : Int32) (l1 : Int32) (l2 : Int32) : Option (Int32 × XW) :=
  if l0 < 0 then
  bX8_choice_8 w l0 l1
  else
  if 0 ≤ l1 then
  if l1 ≤ l0 then
  bX8_choice_28 w l0 l1 l2 (0 : Int32)
  else
  bX8_choice_28 w l0 l1 l2 (1 : Int32)
  else
  bX8_choice_8 w l0 l1
theorem EX8_choice {K : CX} {l : Launch} {n0 k0 : Nat} {w : XW} {l0 : Int32} {l1 : Int32} {l2 : Int32} {q : Int32 × XW} (h0 : eX8_choice w l0 l1 l2 = some q) : WP K l mX8_choice 1 20 n0 k0 (some (.int q.1)) q.2 0 [some (.int l0), some (.int l1), some (.int l2)] [] w := by
  unfold eX8_choice at h0
  refine wp_iload_n dX8_choice_0 rfl ?_
  refine wp_if_lt (tgt := 8) dX8_choice_1 (by decide) (fun c1 => ?_) (fun c1 => ?_)
  · rw [if_pos c1] at h0
    exact WP.wk (BX8_choice_8 h0) (And.intro rfl (And.intro rfl trivial))
  · rw [if_neg c1] at h0
    refine wp_iload_n dX8_choice_4 rfl ?_
    refine wp_if_ge (tgt := 18) dX8_choice_5 (by decide) (fun c2 => ?_) (fun c2 => ?_)
    · rw [if_pos c2] at h0
      refine wp_iload_n dX8_choice_18 rfl ?_
      refine wp_iload_n dX8_choice_19 rfl ?_
      refine wp_icmp_ge (tgt := 27) dX8_choice_20 (by decide) (fun c3 => ?_) (fun c3 => ?_)
      · rw [if_pos c3] at h0
        refine wp_iconst (v := (0 : Int32)) dX8_choice_27 (by decide) ?_
        exact WP.wk (BX8_choice_28 h0) (And.intro rfl (And.intro rfl (And.intro rfl trivial)))
      · rw [if_neg c3] at h0
        refine wp_iconst (v := (1 : Int32)) dX8_choice_23 (by decide) ?_
        refine wp_goto (tgt := 28) dX8_choice_24 (by decide) ?_
        exact WP.wk (BX8_choice_28 h0) (And.intro rfl (And.intro rfl (And.intro rfl trivial)))
    · rw [if_neg c2] at h0
      exact WP.wk (BX8_choice_8 h0) (And.intro rfl (And.intro rfl trivial))
def fX8_choice (w : XW) (l0 : Int32) (l1 : Int32) (l2 : Int32) : Option (Int32 × XW) := eX8_choice w l0 l1 l2
theorem MX8_choice {K : CX} {l : Launch} {w : XW} {l0 : Int32} {l1 : Int32} {l2 : Int32} {q : Int32 × XW} (h : fX8_choice w l0 l1 l2 = some q) : MT K l mX8_choice 1 20 [.int l0, .int l1, .int l2] w (some (.int q.1)) q.2 := by
  unfold fX8_choice at h
  exact MT.of (by decide) (Nat.le_of_ble_eq_true rfl) rfl (EX8_choice h)
/-! FractionRunModel.duel(I)I: frames 7, words 162 -/
abbrev mX8_duel : MR := (⟨"FractionRunModel", "duel", "(I)I"⟩, prog_10_method_63_code, 8, (some .int))
theorem dX8_duel_0 : decode prog_10_method_63_code 0 = .ok (.iload_n 1, 1) := by decide +kernel
theorem dX8_duel_1 : decode prog_10_method_63_code 1 = .ok (.i2l, 1) := by decide +kernel
theorem dX8_duel_2 : decode prog_10_method_63_code 2 = .ok (.lconst 0, 1) := by decide +kernel
theorem dX8_duel_3 : decode prog_10_method_63_code 3 = .ok (.ldc2_w 233, 3) := by decide +kernel
theorem dX8_duel_6 : decode prog_10_method_63_code 6 = .ok (.invokestatic 88, 3) := by decide +kernel
theorem dX8_duel_9 : decode prog_10_method_63_code 9 = .ok (.ifCond .ne 5, 3) := by decide +kernel
theorem dX8_duel_12 : decode prog_10_method_63_code 12 = .ok (.iconst (-1), 1) := by decide +kernel
theorem dX8_duel_13 : decode prog_10_method_63_code 13 = .ok (.ireturn, 1) := by decide +kernel
theorem dX8_duel_14 : decode prog_10_method_63_code 14 = .ok (.iconst 1, 1) := by decide +kernel
theorem dX8_duel_15 : decode prog_10_method_63_code 15 = .ok (.istore_n 2, 1) := by decide +kernel
theorem dX8_duel_16 : decode prog_10_method_63_code 16 = .ok (.iconst 0, 1) := by decide +kernel
theorem dX8_duel_17 : decode prog_10_method_63_code 17 = .ok (.istore_n 3, 1) := by decide +kernel
theorem dX8_duel_18 : decode prog_10_method_63_code 18 = .ok (.iload_n 3, 1) := by decide +kernel
theorem dX8_duel_19 : decode prog_10_method_63_code 19 = .ok (.iload_n 1, 1) := by decide +kernel
theorem dX8_duel_20 : decode prog_10_method_63_code 20 = .ok (.if_icmp .ge 13, 3) := by decide +kernel
theorem dX8_duel_23 : decode prog_10_method_63_code 23 = .ok (.iload_n 2, 1) := by decide +kernel
theorem dX8_duel_24 : decode prog_10_method_63_code 24 = .ok (.iconst 3, 1) := by decide +kernel
theorem dX8_duel_25 : decode prog_10_method_63_code 25 = .ok (.imul, 1) := by decide +kernel
theorem dX8_duel_26 : decode prog_10_method_63_code 26 = .ok (.istore_n 2, 1) := by decide +kernel
theorem dX8_duel_27 : decode prog_10_method_63_code 27 = .ok (.iinc 3 1, 3) := by decide +kernel
theorem dX8_duel_30 : decode prog_10_method_63_code 30 = .ok (.goto (-12), 3) := by decide +kernel
theorem dX8_duel_33 : decode prog_10_method_63_code 33 = .ok (.iconst 0, 1) := by decide +kernel
theorem dX8_duel_34 : decode prog_10_method_63_code 34 = .ok (.istore_n 3, 1) := by decide +kernel
theorem dX8_duel_35 : decode prog_10_method_63_code 35 = .ok (.iload_n 3, 1) := by decide +kernel
theorem dX8_duel_36 : decode prog_10_method_63_code 36 = .ok (.iload_n 2, 1) := by decide +kernel
theorem dX8_duel_37 : decode prog_10_method_63_code 37 = .ok (.if_icmp .ge 159, 3) := by decide +kernel
theorem dX8_duel_40 : decode prog_10_method_63_code 40 = .ok (.aload_n 0, 1) := by decide +kernel
theorem dX8_duel_41 : decode prog_10_method_63_code 41 = .ok (.iconst 0, 1) := by decide +kernel
theorem dX8_duel_42 : decode prog_10_method_63_code 42 = .ok (.sipush 216, 3) := by decide +kernel
theorem dX8_duel_45 : decode prog_10_method_63_code 45 = .ok (.invokevirtual 155, 3) := by decide +kernel
theorem dX8_duel_48 : decode prog_10_method_63_code 48 = .ok (.iload_n 3, 1) := by decide +kernel
theorem dX8_duel_49 : decode prog_10_method_63_code 49 = .ok (.istore 4, 2) := by decide +kernel
theorem dX8_duel_51 : decode prog_10_method_63_code 51 = .ok (.iconst 1, 1) := by decide +kernel
theorem dX8_duel_52 : decode prog_10_method_63_code 52 = .ok (.istore 5, 2) := by decide +kernel
theorem dX8_duel_54 : decode prog_10_method_63_code 54 = .ok (.iconst 0, 1) := by decide +kernel
theorem dX8_duel_55 : decode prog_10_method_63_code 55 = .ok (.istore 6, 2) := by decide +kernel
theorem dX8_duel_57 : decode prog_10_method_63_code 57 = .ok (.iload 6, 2) := by decide +kernel
theorem dX8_duel_59 : decode prog_10_method_63_code 59 = .ok (.iload_n 1, 1) := by decide +kernel
theorem dX8_duel_60 : decode prog_10_method_63_code 60 = .ok (.if_icmp .ge 83, 3) := by decide +kernel
theorem dX8_duel_63 : decode prog_10_method_63_code 63 = .ok (.iload 4, 2) := by decide +kernel
theorem dX8_duel_65 : decode prog_10_method_63_code 65 = .ok (.iconst 3, 1) := by decide +kernel
theorem dX8_duel_66 : decode prog_10_method_63_code 66 = .ok (.irem, 1) := by decide +kernel
theorem dX8_duel_67 : decode prog_10_method_63_code 67 = .ok (.istore 7, 2) := by decide +kernel
theorem dX8_duel_69 : decode prog_10_method_63_code 69 = .ok (.iload 4, 2) := by decide +kernel
theorem dX8_duel_71 : decode prog_10_method_63_code 71 = .ok (.iconst 3, 1) := by decide +kernel
theorem dX8_duel_72 : decode prog_10_method_63_code 72 = .ok (.idiv, 1) := by decide +kernel
theorem dX8_duel_73 : decode prog_10_method_63_code 73 = .ok (.istore 4, 2) := by decide +kernel
theorem dX8_duel_75 : decode prog_10_method_63_code 75 = .ok (.iload 7, 2) := by decide +kernel
theorem dX8_duel_77 : decode prog_10_method_63_code 77 = .ok (.ifCond .le 60, 3) := by decide +kernel
theorem dX8_duel_80 : decode prog_10_method_63_code 80 = .ok (.iload 5, 2) := by decide +kernel
theorem dX8_duel_82 : decode prog_10_method_63_code 82 = .ok (.ifCond .eq 26, 3) := by decide +kernel
theorem dX8_duel_85 : decode prog_10_method_63_code 85 = .ok (.aload_n 0, 1) := by decide +kernel
theorem dX8_duel_86 : decode prog_10_method_63_code 86 = .ok (.getfield 25, 3) := by decide +kernel
theorem dX8_duel_89 : decode prog_10_method_63_code 89 = .ok (.sipush 216, 3) := by decide +kernel
theorem dX8_duel_92 : decode prog_10_method_63_code 92 = .ok (.iload 7, 2) := by decide +kernel
theorem dX8_duel_94 : decode prog_10_method_63_code 94 = .ok (.iadd, 1) := by decide +kernel
theorem dX8_duel_95 : decode prog_10_method_63_code 95 = .ok (.iconst 1, 1) := by decide +kernel
theorem dX8_duel_96 : decode prog_10_method_63_code 96 = .ok (.isub, 1) := by decide +kernel
theorem dX8_duel_97 : decode prog_10_method_63_code 97 = .ok (.iaload, 1) := by decide +kernel
theorem dX8_duel_98 : decode prog_10_method_63_code 98 = .ok (.sipush 999, 3) := by decide +kernel
theorem dX8_duel_101 : decode prog_10_method_63_code 101 = .ok (.if_icmp .ge 7, 3) := by decide +kernel
theorem dX8_duel_104 : decode prog_10_method_63_code 104 = .ok (.iconst 1, 1) := by decide +kernel
theorem dX8_duel_105 : decode prog_10_method_63_code 105 = .ok (.goto 4, 3) := by decide +kernel
theorem dX8_duel_108 : decode prog_10_method_63_code 108 = .ok (.iconst 0, 1) := by decide +kernel
theorem dX8_duel_109 : decode prog_10_method_63_code 109 = .ok (.istore 5, 2) := by decide +kernel
theorem dX8_duel_111 : decode prog_10_method_63_code 111 = .ok (.aload_n 0, 1) := by decide +kernel
theorem dX8_duel_112 : decode prog_10_method_63_code 112 = .ok (.getfield 25, 3) := by decide +kernel
theorem dX8_duel_115 : decode prog_10_method_63_code 115 = .ok (.sipush 216, 3) := by decide +kernel
theorem dX8_duel_118 : decode prog_10_method_63_code 118 = .ok (.iload 7, 2) := by decide +kernel
theorem dX8_duel_120 : decode prog_10_method_63_code 120 = .ok (.iadd, 1) := by decide +kernel
theorem dX8_duel_121 : decode prog_10_method_63_code 121 = .ok (.iconst 1, 1) := by decide +kernel
theorem dX8_duel_122 : decode prog_10_method_63_code 122 = .ok (.isub, 1) := by decide +kernel
theorem dX8_duel_123 : decode prog_10_method_63_code 123 = .ok (.dup2, 1) := by decide +kernel
theorem dX8_duel_124 : decode prog_10_method_63_code 124 = .ok (.iaload, 1) := by decide +kernel
theorem dX8_duel_125 : decode prog_10_method_63_code 125 = .ok (.iconst 1, 1) := by decide +kernel
theorem dX8_duel_126 : decode prog_10_method_63_code 126 = .ok (.iadd, 1) := by decide +kernel
theorem dX8_duel_127 : decode prog_10_method_63_code 127 = .ok (.iastore, 1) := by decide +kernel
theorem dX8_duel_128 : decode prog_10_method_63_code 128 = .ok (.aload_n 0, 1) := by decide +kernel
theorem dX8_duel_129 : decode prog_10_method_63_code 129 = .ok (.getfield 25, 3) := by decide +kernel
theorem dX8_duel_132 : decode prog_10_method_63_code 132 = .ok (.sipush 233, 3) := by decide +kernel
theorem dX8_duel_135 : decode prog_10_method_63_code 135 = .ok (.iconst 0, 1) := by decide +kernel
theorem dX8_duel_136 : decode prog_10_method_63_code 136 = .ok (.iastore, 1) := by decide +kernel
theorem dX8_duel_137 : decode prog_10_method_63_code 137 = .ok (.iinc 6 1, 3) := by decide +kernel
theorem dX8_duel_140 : decode prog_10_method_63_code 140 = .ok (.goto (-83), 3) := by decide +kernel
theorem dX8_duel_143 : decode prog_10_method_63_code 143 = .ok (.iload 5, 2) := by decide +kernel
theorem dX8_duel_145 : decode prog_10_method_63_code 145 = .ok (.ifCond .eq 13, 3) := by decide +kernel
theorem dX8_duel_148 : decode prog_10_method_63_code 148 = .ok (.aload_n 0, 1) := by decide +kernel
theorem dX8_duel_149 : decode prog_10_method_63_code 149 = .ok (.sipush 216, 3) := by decide +kernel
theorem dX8_duel_152 : decode prog_10_method_63_code 152 = .ok (.invokevirtual 193, 3) := by decide +kernel
theorem dX8_duel_155 : decode prog_10_method_63_code 155 = .ok (.goto 5, 3) := by decide +kernel
theorem dX8_duel_158 : decode prog_10_method_63_code 158 = .ok (.bipush (-4), 2) := by decide +kernel
theorem dX8_duel_160 : decode prog_10_method_63_code 160 = .ok (.istore 6, 2) := by decide +kernel
theorem dX8_duel_162 : decode prog_10_method_63_code 162 = .ok (.aload_n 0, 1) := by decide +kernel
theorem dX8_duel_163 : decode prog_10_method_63_code 163 = .ok (.getfield 50, 3) := by decide +kernel
theorem dX8_duel_166 : decode prog_10_method_63_code 166 = .ok (.iload_n 3, 1) := by decide +kernel
theorem dX8_duel_167 : decode prog_10_method_63_code 167 = .ok (.iload 5, 2) := by decide +kernel
theorem dX8_duel_169 : decode prog_10_method_63_code 169 = .ok (.ifCond .ne 7, 3) := by decide +kernel
theorem dX8_duel_172 : decode prog_10_method_63_code 172 = .ok (.iconst (-1), 1) := by decide +kernel
theorem dX8_duel_173 : decode prog_10_method_63_code 173 = .ok (.goto 16, 3) := by decide +kernel
theorem dX8_duel_176 : decode prog_10_method_63_code 176 = .ok (.iload 6, 2) := by decide +kernel
theorem dX8_duel_178 : decode prog_10_method_63_code 178 = .ok (.ifCond .ge 9, 3) := by decide +kernel
theorem dX8_duel_181 : decode prog_10_method_63_code 181 = .ok (.sipush 200, 3) := by decide +kernel
theorem dX8_duel_184 : decode prog_10_method_63_code 184 = .ok (.goto 5, 3) := by decide +kernel
theorem dX8_duel_187 : decode prog_10_method_63_code 187 = .ok (.iload 6, 2) := by decide +kernel
theorem dX8_duel_189 : decode prog_10_method_63_code 189 = .ok (.iastore, 1) := by decide +kernel
theorem dX8_duel_190 : decode prog_10_method_63_code 190 = .ok (.iinc 3 1, 3) := by decide +kernel
theorem dX8_duel_193 : decode prog_10_method_63_code 193 = .ok (.goto (-158), 3) := by decide +kernel
theorem dX8_duel_196 : decode prog_10_method_63_code 196 = .ok (.iload_n 1, 1) := by decide +kernel
theorem dX8_duel_197 : decode prog_10_method_63_code 197 = .ok (.iconst 1, 1) := by decide +kernel
theorem dX8_duel_198 : decode prog_10_method_63_code 198 = .ok (.isub, 1) := by decide +kernel
theorem dX8_duel_199 : decode prog_10_method_63_code 199 = .ok (.istore_n 3, 1) := by decide +kernel
theorem dX8_duel_200 : decode prog_10_method_63_code 200 = .ok (.iload_n 3, 1) := by decide +kernel
theorem dX8_duel_201 : decode prog_10_method_63_code 201 = .ok (.ifCond .lt 70, 3) := by decide +kernel
theorem dX8_duel_204 : decode prog_10_method_63_code 204 = .ok (.iload_n 2, 1) := by decide +kernel
theorem dX8_duel_205 : decode prog_10_method_63_code 205 = .ok (.iconst 3, 1) := by decide +kernel
theorem dX8_duel_206 : decode prog_10_method_63_code 206 = .ok (.idiv, 1) := by decide +kernel
theorem dX8_duel_207 : decode prog_10_method_63_code 207 = .ok (.istore_n 2, 1) := by decide +kernel
theorem dX8_duel_208 : decode prog_10_method_63_code 208 = .ok (.iconst 0, 1) := by decide +kernel
theorem dX8_duel_209 : decode prog_10_method_63_code 209 = .ok (.istore 4, 2) := by decide +kernel
theorem dX8_duel_211 : decode prog_10_method_63_code 211 = .ok (.iload 4, 2) := by decide +kernel
theorem dX8_duel_213 : decode prog_10_method_63_code 213 = .ok (.iload_n 2, 1) := by decide +kernel
theorem dX8_duel_214 : decode prog_10_method_63_code 214 = .ok (.if_icmp .ge 51, 3) := by decide +kernel
theorem dX8_duel_217 : decode prog_10_method_63_code 217 = .ok (.aload_n 0, 1) := by decide +kernel
theorem dX8_duel_218 : decode prog_10_method_63_code 218 = .ok (.getfield 50, 3) := by decide +kernel
theorem dX8_duel_221 : decode prog_10_method_63_code 221 = .ok (.iload 4, 2) := by decide +kernel
theorem dX8_duel_223 : decode prog_10_method_63_code 223 = .ok (.aload_n 0, 1) := by decide +kernel
theorem dX8_duel_224 : decode prog_10_method_63_code 224 = .ok (.getfield 50, 3) := by decide +kernel
theorem dX8_duel_227 : decode prog_10_method_63_code 227 = .ok (.iload 4, 2) := by decide +kernel
theorem dX8_duel_229 : decode prog_10_method_63_code 229 = .ok (.iaload, 1) := by decide +kernel
theorem dX8_duel_230 : decode prog_10_method_63_code 230 = .ok (.aload_n 0, 1) := by decide +kernel
theorem dX8_duel_231 : decode prog_10_method_63_code 231 = .ok (.getfield 50, 3) := by decide +kernel
theorem dX8_duel_234 : decode prog_10_method_63_code 234 = .ok (.iload 4, 2) := by decide +kernel
theorem dX8_duel_236 : decode prog_10_method_63_code 236 = .ok (.iload_n 2, 1) := by decide +kernel
theorem dX8_duel_237 : decode prog_10_method_63_code 237 = .ok (.iadd, 1) := by decide +kernel
theorem dX8_duel_238 : decode prog_10_method_63_code 238 = .ok (.iaload, 1) := by decide +kernel
theorem dX8_duel_239 : decode prog_10_method_63_code 239 = .ok (.aload_n 0, 1) := by decide +kernel
theorem dX8_duel_240 : decode prog_10_method_63_code 240 = .ok (.getfield 50, 3) := by decide +kernel
theorem dX8_duel_243 : decode prog_10_method_63_code 243 = .ok (.iload 4, 2) := by decide +kernel
theorem dX8_duel_245 : decode prog_10_method_63_code 245 = .ok (.iconst 2, 1) := by decide +kernel
theorem dX8_duel_246 : decode prog_10_method_63_code 246 = .ok (.iload_n 2, 1) := by decide +kernel
theorem dX8_duel_247 : decode prog_10_method_63_code 247 = .ok (.imul, 1) := by decide +kernel
theorem dX8_duel_248 : decode prog_10_method_63_code 248 = .ok (.iadd, 1) := by decide +kernel
theorem dX8_duel_249 : decode prog_10_method_63_code 249 = .ok (.iaload, 1) := by decide +kernel
theorem dX8_duel_250 : decode prog_10_method_63_code 250 = .ok (.iload_n 3, 1) := by decide +kernel
theorem dX8_duel_251 : decode prog_10_method_63_code 251 = .ok (.invokestatic 235, 3) := by decide +kernel
theorem dX8_duel_254 : decode prog_10_method_63_code 254 = .ok (.iload_n 3, 1) := by decide +kernel
theorem dX8_duel_255 : decode prog_10_method_63_code 255 = .ok (.invokestatic 235, 3) := by decide +kernel
theorem dX8_duel_258 : decode prog_10_method_63_code 258 = .ok (.iastore, 1) := by decide +kernel
theorem dX8_duel_259 : decode prog_10_method_63_code 259 = .ok (.iinc 4 1, 3) := by decide +kernel
theorem dX8_duel_262 : decode prog_10_method_63_code 262 = .ok (.goto (-51), 3) := by decide +kernel
theorem dX8_duel_265 : decode prog_10_method_63_code 265 = .ok (.iinc 3 (-1), 3) := by decide +kernel
theorem dX8_duel_268 : decode prog_10_method_63_code 268 = .ok (.goto (-68), 3) := by decide +kernel
theorem dX8_duel_271 : decode prog_10_method_63_code 271 = .ok (.aload_n 0, 1) := by decide +kernel
theorem dX8_duel_272 : decode prog_10_method_63_code 272 = .ok (.getfield 50, 3) := by decide +kernel
theorem dX8_duel_275 : decode prog_10_method_63_code 275 = .ok (.iconst 0, 1) := by decide +kernel
theorem dX8_duel_276 : decode prog_10_method_63_code 276 = .ok (.iaload, 1) := by decide +kernel
theorem dX8_duel_277 : decode prog_10_method_63_code 277 = .ok (.ireturn, 1) := by decide +kernel
theorem okM_X8_duel : okM mX8_duel 1 := ⟨tw1021, tw15, by decide, by decide, by decide +kernel⟩
abbrev KTX8_duel : Type := (XW → Nat → Int32 → Int32 → Int32 → Option (Int32 × XW)) × (XW → Nat → Int32 → Int32 → Int32 → Option (Int32 × XW)) × (XW → Nat → Int32 → Int32 → Int32 → Int32 → Int32 → Int32 → Option (Int32 × XW)) × (XW → Nat → Int32 → Int32 → Option (Int32 × XW)) × (XW → Nat → Int32 → Int32 → Int32 → Option (Int32 × XW))
def bX8_duel_189 (k : KTX8_duel) (w : XW) (l0 : Nat) (l1 : Int32) (l2 : Int32) (l3 : Int32) (s0 : Nat) (s1 : Int32) (s2 : Int32) : Option (Int32 × XW) :=
  (sI w 0 s0 s1 s2).bind fun w1 =>
  k.2.1 w1 l0 l1 l2 (l3 + (1 : Int32))
theorem BX8_duel_189 {K : CX} {l : Launch} {n0 k0 : Nat} {k : KTX8_duel} (hk0 : ∀ (w : XW) (l0 : Nat) (l1 : Int32) (l2 : Int32) (l3 : Int32) (q : Int32 × XW), k.1 w l0 l1 l2 l3 = some q → WP K l mX8_duel 7 162 n0 k0 (some (.int q.1)) q.2 18 [some (.ref l0), some (.int l1), some (.int l2), some (.int l3), none, none, none, none] [] w) (hk1 : ∀ (w : XW) (l0 : Nat) (l1 : Int32) (l2 : Int32) (l3 : Int32) (q : Int32 × XW), k.2.1 w l0 l1 l2 l3 = some q → WP K l mX8_duel 7 162 n0 k0 (some (.int q.1)) q.2 35 [some (.ref l0), some (.int l1), some (.int l2), some (.int l3), none, none, none, none] [] w) (hk2 : ∀ (w : XW) (l0 : Nat) (l1 : Int32) (l2 : Int32) (l3 : Int32) (l4 : Int32) (l5 : Int32) (l6 : Int32) (q : Int32 × XW), k.2.2.1 w l0 l1 l2 l3 l4 l5 l6 = some q → WP K l mX8_duel 7 162 n0 k0 (some (.int q.1)) q.2 57 [some (.ref l0), some (.int l1), some (.int l2), some (.int l3), some (.int l4), some (.int l5), some (.int l6), none] [] w) (hk3 : ∀ (w : XW) (l0 : Nat) (l2 : Int32) (l3 : Int32) (q : Int32 × XW), k.2.2.2.1 w l0 l2 l3 = some q → WP K l mX8_duel 7 162 n0 k0 (some (.int q.1)) q.2 200 [some (.ref l0), none, some (.int l2), some (.int l3), none, none, none, none] [] w) (hk4 : ∀ (w : XW) (l0 : Nat) (l2 : Int32) (l3 : Int32) (l4 : Int32) (q : Int32 × XW), k.2.2.2.2 w l0 l2 l3 l4 = some q → WP K l mX8_duel 7 162 n0 k0 (some (.int q.1)) q.2 211 [some (.ref l0), none, some (.int l2), some (.int l3), some (.int l4), none, none, none] [] w) {w : XW} {l0 : Nat} {l1 : Int32} {l2 : Int32} {l3 : Int32} {s0 : Nat} {s1 : Int32} {s2 : Int32} {q : Int32 × XW} (h0 : bX8_duel_189 k w l0 l1 l2 l3 s0 s1 s2 = some q) : WP K l mX8_duel 7 162 n0 k0 (some (.int q.1)) q.2 189 [some (.ref l0), some (.int l1), some (.int l2), some (.int l3), none, none, none, none] [.int s2, .int s1, .ref s0] w := by
  unfold bX8_duel_189 at h0
  obtain ⟨w1, e3, h2⟩ := Option.bind_eq_some_iff.mp h0
  clear h0
  refine wp_iast dX8_duel_189 e3 ?_
  refine wp_iinc (v := (l3 + (1 : Int32))) (L1 := [some (.ref l0), some (.int l1), some (.int l2), some (.int (l3 + (1 : Int32))), none, none, none, none]) dX8_duel_190 (Nat.le_of_ble_eq_true rfl) rfl (congrArg (fun z => l3 + z) (by decide)) rfl ?_
  refine wp_goto (tgt := 35) dX8_duel_193 (by decide) ?_
  exact WP.wk (hk1 _ _ _ _ _ _ h2) (And.intro rfl (And.intro rfl (And.intro rfl (And.intro rfl trivial))))
def bX8_duel_160 (k : KTX8_duel) (w : XW) (l0 : Nat) (l1 : Int32) (l2 : Int32) (l3 : Int32) (l5 : Int32) (s0 : Int32) : Option (Int32 × XW) :=
  (gR w l0 8 23).bind fun x1 =>
  if l5 = 0 then
  bX8_duel_189 k w l0 l1 l2 l3 x1 l3 (-1 : Int32)
  else
  if 0 ≤ s0 then
  bX8_duel_189 k w l0 l1 l2 l3 x1 l3 s0
  else
  bX8_duel_189 k w l0 l1 l2 l3 x1 l3 (200 : Int32)
theorem BX8_duel_160 {K : CX} {l : Launch} {n0 k0 : Nat} {k : KTX8_duel} (hk0 : ∀ (w : XW) (l0 : Nat) (l1 : Int32) (l2 : Int32) (l3 : Int32) (q : Int32 × XW), k.1 w l0 l1 l2 l3 = some q → WP K l mX8_duel 7 162 n0 k0 (some (.int q.1)) q.2 18 [some (.ref l0), some (.int l1), some (.int l2), some (.int l3), none, none, none, none] [] w) (hk1 : ∀ (w : XW) (l0 : Nat) (l1 : Int32) (l2 : Int32) (l3 : Int32) (q : Int32 × XW), k.2.1 w l0 l1 l2 l3 = some q → WP K l mX8_duel 7 162 n0 k0 (some (.int q.1)) q.2 35 [some (.ref l0), some (.int l1), some (.int l2), some (.int l3), none, none, none, none] [] w) (hk2 : ∀ (w : XW) (l0 : Nat) (l1 : Int32) (l2 : Int32) (l3 : Int32) (l4 : Int32) (l5 : Int32) (l6 : Int32) (q : Int32 × XW), k.2.2.1 w l0 l1 l2 l3 l4 l5 l6 = some q → WP K l mX8_duel 7 162 n0 k0 (some (.int q.1)) q.2 57 [some (.ref l0), some (.int l1), some (.int l2), some (.int l3), some (.int l4), some (.int l5), some (.int l6), none] [] w) (hk3 : ∀ (w : XW) (l0 : Nat) (l2 : Int32) (l3 : Int32) (q : Int32 × XW), k.2.2.2.1 w l0 l2 l3 = some q → WP K l mX8_duel 7 162 n0 k0 (some (.int q.1)) q.2 200 [some (.ref l0), none, some (.int l2), some (.int l3), none, none, none, none] [] w) (hk4 : ∀ (w : XW) (l0 : Nat) (l2 : Int32) (l3 : Int32) (l4 : Int32) (q : Int32 × XW), k.2.2.2.2 w l0 l2 l3 l4 = some q → WP K l mX8_duel 7 162 n0 k0 (some (.int q.1)) q.2 211 [some (.ref l0), none, some (.int l2), some (.int l3), some (.int l4), none, none, none] [] w) {w : XW} {l0 : Nat} {l1 : Int32} {l2 : Int32} {l3 : Int32} {l5 : Int32} {s0 : Int32} {q : Int32 × XW} (h0 : bX8_duel_160 k w l0 l1 l2 l3 l5 s0 = some q) : WP K l mX8_duel 7 162 n0 k0 (some (.int q.1)) q.2 160 [some (.ref l0), some (.int l1), some (.int l2), some (.int l3), none, some (.int l5), none, none] [.int s0] w := by
  unfold bX8_duel_160 at h0
  refine wp_istore (L1 := [some (.ref l0), some (.int l1), some (.int l2), some (.int l3), none, some (.int l5), some (.int s0), none]) dX8_duel_160 (Nat.le_of_ble_eq_true rfl) rfl ?_
  refine wp_aload_n dX8_duel_162 rfl ?_
  obtain ⟨x1, e3, h2⟩ := Option.bind_eq_some_iff.mp h0
  clear h0
  refine wp_getR okX8 (k := 23) (by decide) tw728 dX8_duel_163 e3 ?_
  refine wp_iload_n dX8_duel_166 rfl ?_
  refine wp_iload dX8_duel_167 rfl ?_
  refine wp_if_ne (tgt := 176) dX8_duel_169 (by decide) (fun c4 => ?_) (fun c4 => ?_)
  · rw [if_neg c4] at h2
    refine wp_iload dX8_duel_176 rfl ?_
    refine wp_if_ge (tgt := 187) dX8_duel_178 (by decide) (fun c5 => ?_) (fun c5 => ?_)
    · rw [if_pos c5] at h2
      refine wp_iload dX8_duel_187 rfl ?_
      exact WP.wk (BX8_duel_189 hk0 hk1 hk2 hk3 hk4 h2) (And.intro rfl (And.intro rfl (And.intro rfl (And.intro rfl trivial))))
    · rw [if_neg c5] at h2
      refine wp_sipush (v := (200 : Int32)) dX8_duel_181 (by decide) ?_
      refine wp_goto (tgt := 189) dX8_duel_184 (by decide) ?_
      exact WP.wk (BX8_duel_189 hk0 hk1 hk2 hk3 hk4 h2) (And.intro rfl (And.intro rfl (And.intro rfl (And.intro rfl trivial))))
  · rw [if_pos c4] at h2
    refine wp_iconst (v := (-1 : Int32)) dX8_duel_172 (by decide) ?_
    refine wp_goto (tgt := 189) dX8_duel_173 (by decide) ?_
    exact WP.wk (BX8_duel_189 hk0 hk1 hk2 hk3 hk4 h2) (And.intro rfl (And.intro rfl (And.intro rfl (And.intro rfl trivial))))
def bX8_duel_137 (k : KTX8_duel) (w : XW) (l0 : Nat) (l1 : Int32) (l2 : Int32) (l3 : Int32) (l4 : Int32) (l5 : Int32) (l6 : Int32) : Option (Int32 × XW) :=
  k.2.2.1 w l0 l1 l2 l3 l4 l5 (l6 + (1 : Int32))
theorem BX8_duel_137 {K : CX} {l : Launch} {n0 k0 : Nat} {k : KTX8_duel} (hk0 : ∀ (w : XW) (l0 : Nat) (l1 : Int32) (l2 : Int32) (l3 : Int32) (q : Int32 × XW), k.1 w l0 l1 l2 l3 = some q → WP K l mX8_duel 7 162 n0 k0 (some (.int q.1)) q.2 18 [some (.ref l0), some (.int l1), some (.int l2), some (.int l3), none, none, none, none] [] w) (hk1 : ∀ (w : XW) (l0 : Nat) (l1 : Int32) (l2 : Int32) (l3 : Int32) (q : Int32 × XW), k.2.1 w l0 l1 l2 l3 = some q → WP K l mX8_duel 7 162 n0 k0 (some (.int q.1)) q.2 35 [some (.ref l0), some (.int l1), some (.int l2), some (.int l3), none, none, none, none] [] w) (hk2 : ∀ (w : XW) (l0 : Nat) (l1 : Int32) (l2 : Int32) (l3 : Int32) (l4 : Int32) (l5 : Int32) (l6 : Int32) (q : Int32 × XW), k.2.2.1 w l0 l1 l2 l3 l4 l5 l6 = some q → WP K l mX8_duel 7 162 n0 k0 (some (.int q.1)) q.2 57 [some (.ref l0), some (.int l1), some (.int l2), some (.int l3), some (.int l4), some (.int l5), some (.int l6), none] [] w) (hk3 : ∀ (w : XW) (l0 : Nat) (l2 : Int32) (l3 : Int32) (q : Int32 × XW), k.2.2.2.1 w l0 l2 l3 = some q → WP K l mX8_duel 7 162 n0 k0 (some (.int q.1)) q.2 200 [some (.ref l0), none, some (.int l2), some (.int l3), none, none, none, none] [] w) (hk4 : ∀ (w : XW) (l0 : Nat) (l2 : Int32) (l3 : Int32) (l4 : Int32) (q : Int32 × XW), k.2.2.2.2 w l0 l2 l3 l4 = some q → WP K l mX8_duel 7 162 n0 k0 (some (.int q.1)) q.2 211 [some (.ref l0), none, some (.int l2), some (.int l3), some (.int l4), none, none, none] [] w) {w : XW} {l0 : Nat} {l1 : Int32} {l2 : Int32} {l3 : Int32} {l4 : Int32} {l5 : Int32} {l6 : Int32} {q : Int32 × XW} (h0 : bX8_duel_137 k w l0 l1 l2 l3 l4 l5 l6 = some q) : WP K l mX8_duel 7 162 n0 k0 (some (.int q.1)) q.2 137 [some (.ref l0), some (.int l1), some (.int l2), some (.int l3), some (.int l4), some (.int l5), some (.int l6), none] [] w := by
  unfold bX8_duel_137 at h0
  refine wp_iinc (v := (l6 + (1 : Int32))) (L1 := [some (.ref l0), some (.int l1), some (.int l2), some (.int l3), some (.int l4), some (.int l5), some (.int (l6 + (1 : Int32))), none]) dX8_duel_137 (Nat.le_of_ble_eq_true rfl) rfl (congrArg (fun z => l6 + z) (by decide)) rfl ?_
  refine wp_goto (tgt := 57) dX8_duel_140 (by decide) ?_
  exact WP.wk (hk2 _ _ _ _ _ _ _ _ _ h0) (And.intro rfl (And.intro rfl (And.intro rfl (And.intro rfl (And.intro rfl (And.intro rfl (And.intro rfl trivial)))))))
def bX8_duel_109 (k : KTX8_duel) (w : XW) (l0 : Nat) (l1 : Int32) (l2 : Int32) (l3 : Int32) (l4 : Int32) (l6 : Int32) (l7 : Int32) (s0 : Int32) : Option (Int32 × XW) :=
  (gR w l0 8 7).bind fun x1 =>
  (aI w 0 x1 (((216 : Int32) + l7) - (1 : Int32))).bind fun x4 =>
  (sI w 0 x1 (((216 : Int32) + l7) - (1 : Int32)) (x4 + (1 : Int32))).bind fun w7 =>
  (gR w7 l0 8 7).bind fun x10 =>
  (sI w7 0 x10 (233 : Int32) (0 : Int32)).bind fun w13 =>
  bX8_duel_137 k w13 l0 l1 l2 l3 l4 s0 l6
theorem BX8_duel_109 {K : CX} {l : Launch} {n0 k0 : Nat} {k : KTX8_duel} (hk0 : ∀ (w : XW) (l0 : Nat) (l1 : Int32) (l2 : Int32) (l3 : Int32) (q : Int32 × XW), k.1 w l0 l1 l2 l3 = some q → WP K l mX8_duel 7 162 n0 k0 (some (.int q.1)) q.2 18 [some (.ref l0), some (.int l1), some (.int l2), some (.int l3), none, none, none, none] [] w) (hk1 : ∀ (w : XW) (l0 : Nat) (l1 : Int32) (l2 : Int32) (l3 : Int32) (q : Int32 × XW), k.2.1 w l0 l1 l2 l3 = some q → WP K l mX8_duel 7 162 n0 k0 (some (.int q.1)) q.2 35 [some (.ref l0), some (.int l1), some (.int l2), some (.int l3), none, none, none, none] [] w) (hk2 : ∀ (w : XW) (l0 : Nat) (l1 : Int32) (l2 : Int32) (l3 : Int32) (l4 : Int32) (l5 : Int32) (l6 : Int32) (q : Int32 × XW), k.2.2.1 w l0 l1 l2 l3 l4 l5 l6 = some q → WP K l mX8_duel 7 162 n0 k0 (some (.int q.1)) q.2 57 [some (.ref l0), some (.int l1), some (.int l2), some (.int l3), some (.int l4), some (.int l5), some (.int l6), none] [] w) (hk3 : ∀ (w : XW) (l0 : Nat) (l2 : Int32) (l3 : Int32) (q : Int32 × XW), k.2.2.2.1 w l0 l2 l3 = some q → WP K l mX8_duel 7 162 n0 k0 (some (.int q.1)) q.2 200 [some (.ref l0), none, some (.int l2), some (.int l3), none, none, none, none] [] w) (hk4 : ∀ (w : XW) (l0 : Nat) (l2 : Int32) (l3 : Int32) (l4 : Int32) (q : Int32 × XW), k.2.2.2.2 w l0 l2 l3 l4 = some q → WP K l mX8_duel 7 162 n0 k0 (some (.int q.1)) q.2 211 [some (.ref l0), none, some (.int l2), some (.int l3), some (.int l4), none, none, none] [] w) {w : XW} {l0 : Nat} {l1 : Int32} {l2 : Int32} {l3 : Int32} {l4 : Int32} {l6 : Int32} {l7 : Int32} {s0 : Int32} {q : Int32 × XW} (h0 : bX8_duel_109 k w l0 l1 l2 l3 l4 l6 l7 s0 = some q) : WP K l mX8_duel 7 162 n0 k0 (some (.int q.1)) q.2 109 [some (.ref l0), some (.int l1), some (.int l2), some (.int l3), some (.int l4), none, some (.int l6), some (.int l7)] [.int s0] w := by
  unfold bX8_duel_109 at h0
  refine wp_istore (L1 := [some (.ref l0), some (.int l1), some (.int l2), some (.int l3), some (.int l4), some (.int s0), some (.int l6), some (.int l7)]) dX8_duel_109 (Nat.le_of_ble_eq_true rfl) rfl ?_
  refine wp_aload_n dX8_duel_111 rfl ?_
  obtain ⟨x1, e3, h2⟩ := Option.bind_eq_some_iff.mp h0
  clear h0
  refine wp_getR okX8 (k := 7) (by decide) tw712 dX8_duel_112 e3 ?_
  refine wp_sipush (v := (216 : Int32)) dX8_duel_115 (by decide) ?_
  refine wp_iload dX8_duel_118 rfl ?_
  refine wp_iadd dX8_duel_120 ?_
  refine wp_iconst (v := (1 : Int32)) dX8_duel_121 (by decide) ?_
  refine wp_isub dX8_duel_122 ?_
  refine wp_dup2 dX8_duel_123 rfl rfl ?_
  obtain ⟨x4, e6, h5⟩ := Option.bind_eq_some_iff.mp h2
  clear h2
  refine wp_iald dX8_duel_124 e6 ?_
  refine wp_iconst (v := (1 : Int32)) dX8_duel_125 (by decide) ?_
  refine wp_iadd dX8_duel_126 ?_
  obtain ⟨w7, e9, h8⟩ := Option.bind_eq_some_iff.mp h5
  clear h5
  refine wp_iast dX8_duel_127 e9 ?_
  refine wp_aload_n dX8_duel_128 rfl ?_
  obtain ⟨x10, e12, h11⟩ := Option.bind_eq_some_iff.mp h8
  clear h8
  refine wp_getR okX8 (k := 7) (by decide) tw712 dX8_duel_129 e12 ?_
  refine wp_sipush (v := (233 : Int32)) dX8_duel_132 (by decide) ?_
  refine wp_iconst (v := (0 : Int32)) dX8_duel_135 (by decide) ?_
  obtain ⟨w13, e15, h14⟩ := Option.bind_eq_some_iff.mp h11
  clear h11
  refine wp_iast dX8_duel_136 e15 ?_
  exact WP.wk (BX8_duel_137 hk0 hk1 hk2 hk3 hk4 h14) (And.intro rfl (And.intro rfl (And.intro rfl (And.intro rfl (And.intro rfl (And.intro rfl (And.intro rfl trivial)))))))
def bX8_duel_108 (k : KTX8_duel) (w : XW) (l0 : Nat) (l1 : Int32) (l2 : Int32) (l3 : Int32) (l4 : Int32) (l6 : Int32) (l7 : Int32) : Option (Int32 × XW) :=
  bX8_duel_109 k w l0 l1 l2 l3 l4 l6 l7 (0 : Int32)
theorem BX8_duel_108 {K : CX} {l : Launch} {n0 k0 : Nat} {k : KTX8_duel} (hk0 : ∀ (w : XW) (l0 : Nat) (l1 : Int32) (l2 : Int32) (l3 : Int32) (q : Int32 × XW), k.1 w l0 l1 l2 l3 = some q → WP K l mX8_duel 7 162 n0 k0 (some (.int q.1)) q.2 18 [some (.ref l0), some (.int l1), some (.int l2), some (.int l3), none, none, none, none] [] w) (hk1 : ∀ (w : XW) (l0 : Nat) (l1 : Int32) (l2 : Int32) (l3 : Int32) (q : Int32 × XW), k.2.1 w l0 l1 l2 l3 = some q → WP K l mX8_duel 7 162 n0 k0 (some (.int q.1)) q.2 35 [some (.ref l0), some (.int l1), some (.int l2), some (.int l3), none, none, none, none] [] w) (hk2 : ∀ (w : XW) (l0 : Nat) (l1 : Int32) (l2 : Int32) (l3 : Int32) (l4 : Int32) (l5 : Int32) (l6 : Int32) (q : Int32 × XW), k.2.2.1 w l0 l1 l2 l3 l4 l5 l6 = some q → WP K l mX8_duel 7 162 n0 k0 (some (.int q.1)) q.2 57 [some (.ref l0), some (.int l1), some (.int l2), some (.int l3), some (.int l4), some (.int l5), some (.int l6), none] [] w) (hk3 : ∀ (w : XW) (l0 : Nat) (l2 : Int32) (l3 : Int32) (q : Int32 × XW), k.2.2.2.1 w l0 l2 l3 = some q → WP K l mX8_duel 7 162 n0 k0 (some (.int q.1)) q.2 200 [some (.ref l0), none, some (.int l2), some (.int l3), none, none, none, none] [] w) (hk4 : ∀ (w : XW) (l0 : Nat) (l2 : Int32) (l3 : Int32) (l4 : Int32) (q : Int32 × XW), k.2.2.2.2 w l0 l2 l3 l4 = some q → WP K l mX8_duel 7 162 n0 k0 (some (.int q.1)) q.2 211 [some (.ref l0), none, some (.int l2), some (.int l3), some (.int l4), none, none, none] [] w) {w : XW} {l0 : Nat} {l1 : Int32} {l2 : Int32} {l3 : Int32} {l4 : Int32} {l6 : Int32} {l7 : Int32} {q : Int32 × XW} (h0 : bX8_duel_108 k w l0 l1 l2 l3 l4 l6 l7 = some q) : WP K l mX8_duel 7 162 n0 k0 (some (.int q.1)) q.2 108 [some (.ref l0), some (.int l1), some (.int l2), some (.int l3), some (.int l4), none, some (.int l6), some (.int l7)] [] w := by
  unfold bX8_duel_108 at h0
  refine wp_iconst (v := (0 : Int32)) dX8_duel_108 (by decide) ?_
  exact WP.wk (BX8_duel_109 hk0 hk1 hk2 hk3 hk4 h0) (And.intro rfl (And.intro rfl (And.intro rfl (And.intro rfl (And.intro rfl (And.intro rfl (And.intro rfl trivial)))))))
def hX8_duel_211 (k : KTX8_duel) (w : XW) (l0 : Nat) (l2 : Int32) (l3 : Int32) (l4 : Int32) : Option (Int32 × XW) :=
  if l2 ≤ l4 then
  k.2.2.2.1 w l0 l2 (l3 + (-1 : Int32))
  else
  (gR w l0 8 23).bind fun x2 =>
  (gR w l0 8 23).bind fun x5 =>
  (aI w 0 x5 l4).bind fun x8 =>
  (gR w l0 8 23).bind fun x11 =>
  (aI w 0 x11 (l4 + l2)).bind fun x14 =>
  (gR w l0 8 23).bind fun x17 =>
  (aI w 0 x17 (l4 + ((2 : Int32) * l2))).bind fun x20 =>
  (fX8_choice w x14 x20 l3).bind fun q23 =>
  (fX8_choice q23.2 x8 q23.1 l3).bind fun q26 =>
  (sI q26.2 0 x2 l4 q26.1).bind fun w29 =>
  k.2.2.2.2 w29 l0 l2 l3 (l4 + (1 : Int32))
theorem HX8_duel_211 {K : CX} {l : Launch} {n0 k0 : Nat} {k : KTX8_duel} (hk0 : ∀ (w : XW) (l0 : Nat) (l1 : Int32) (l2 : Int32) (l3 : Int32) (q : Int32 × XW), k.1 w l0 l1 l2 l3 = some q → WP K l mX8_duel 7 162 n0 k0 (some (.int q.1)) q.2 18 [some (.ref l0), some (.int l1), some (.int l2), some (.int l3), none, none, none, none] [] w) (hk1 : ∀ (w : XW) (l0 : Nat) (l1 : Int32) (l2 : Int32) (l3 : Int32) (q : Int32 × XW), k.2.1 w l0 l1 l2 l3 = some q → WP K l mX8_duel 7 162 n0 k0 (some (.int q.1)) q.2 35 [some (.ref l0), some (.int l1), some (.int l2), some (.int l3), none, none, none, none] [] w) (hk2 : ∀ (w : XW) (l0 : Nat) (l1 : Int32) (l2 : Int32) (l3 : Int32) (l4 : Int32) (l5 : Int32) (l6 : Int32) (q : Int32 × XW), k.2.2.1 w l0 l1 l2 l3 l4 l5 l6 = some q → WP K l mX8_duel 7 162 n0 k0 (some (.int q.1)) q.2 57 [some (.ref l0), some (.int l1), some (.int l2), some (.int l3), some (.int l4), some (.int l5), some (.int l6), none] [] w) (hk3 : ∀ (w : XW) (l0 : Nat) (l2 : Int32) (l3 : Int32) (q : Int32 × XW), k.2.2.2.1 w l0 l2 l3 = some q → WP K l mX8_duel 7 162 n0 k0 (some (.int q.1)) q.2 200 [some (.ref l0), none, some (.int l2), some (.int l3), none, none, none, none] [] w) (hk4 : ∀ (w : XW) (l0 : Nat) (l2 : Int32) (l3 : Int32) (l4 : Int32) (q : Int32 × XW), k.2.2.2.2 w l0 l2 l3 l4 = some q → WP K l mX8_duel 7 162 n0 k0 (some (.int q.1)) q.2 211 [some (.ref l0), none, some (.int l2), some (.int l3), some (.int l4), none, none, none] [] w) {w : XW} {l0 : Nat} {l2 : Int32} {l3 : Int32} {l4 : Int32} {q : Int32 × XW} (h0 : hX8_duel_211 k w l0 l2 l3 l4 = some q) : WP K l mX8_duel 7 162 n0 k0 (some (.int q.1)) q.2 211 [some (.ref l0), none, some (.int l2), some (.int l3), some (.int l4), none, none, none] [] w := by
  unfold hX8_duel_211 at h0
  refine wp_iload dX8_duel_211 rfl ?_
  refine wp_iload_n dX8_duel_213 rfl ?_
  refine wp_icmp_ge (tgt := 265) dX8_duel_214 (by decide) (fun c1 => ?_) (fun c1 => ?_)
  · rw [if_pos c1] at h0
    refine wp_iinc (v := (l3 + (-1 : Int32))) (L1 := [some (.ref l0), none, some (.int l2), some (.int (l3 + (-1 : Int32))), some (.int l4), none, none, none]) dX8_duel_265 (Nat.le_of_ble_eq_true rfl) rfl (congrArg (fun z => l3 + z) (by decide)) rfl ?_
    refine wp_goto (tgt := 200) dX8_duel_268 (by decide) ?_
    exact WP.wk (hk3 _ _ _ _ _ h0) (And.intro rfl (And.intro rfl (And.intro rfl trivial)))
  · rw [if_neg c1] at h0
    refine wp_aload_n dX8_duel_217 rfl ?_
    obtain ⟨x2, e4, h3⟩ := Option.bind_eq_some_iff.mp h0
    clear h0
    refine wp_getR okX8 (k := 23) (by decide) tw728 dX8_duel_218 e4 ?_
    refine wp_iload dX8_duel_221 rfl ?_
    refine wp_aload_n dX8_duel_223 rfl ?_
    obtain ⟨x5, e7, h6⟩ := Option.bind_eq_some_iff.mp h3
    clear h3
    refine wp_getR okX8 (k := 23) (by decide) tw728 dX8_duel_224 e7 ?_
    refine wp_iload dX8_duel_227 rfl ?_
    obtain ⟨x8, e10, h9⟩ := Option.bind_eq_some_iff.mp h6
    clear h6
    refine wp_iald dX8_duel_229 e10 ?_
    refine wp_aload_n dX8_duel_230 rfl ?_
    obtain ⟨x11, e13, h12⟩ := Option.bind_eq_some_iff.mp h9
    clear h9
    refine wp_getR okX8 (k := 23) (by decide) tw728 dX8_duel_231 e13 ?_
    refine wp_iload dX8_duel_234 rfl ?_
    refine wp_iload_n dX8_duel_236 rfl ?_
    refine wp_iadd dX8_duel_237 ?_
    obtain ⟨x14, e16, h15⟩ := Option.bind_eq_some_iff.mp h12
    clear h12
    refine wp_iald dX8_duel_238 e16 ?_
    refine wp_aload_n dX8_duel_239 rfl ?_
    obtain ⟨x17, e19, h18⟩ := Option.bind_eq_some_iff.mp h15
    clear h15
    refine wp_getR okX8 (k := 23) (by decide) tw728 dX8_duel_240 e19 ?_
    refine wp_iload dX8_duel_243 rfl ?_
    refine wp_iconst (v := (2 : Int32)) dX8_duel_245 (by decide) ?_
    refine wp_iload_n dX8_duel_246 rfl ?_
    refine wp_imul dX8_duel_247 ?_
    refine wp_iadd dX8_duel_248 ?_
    obtain ⟨x20, e22, h21⟩ := Option.bind_eq_some_iff.mp h18
    clear h18
    refine wp_iald dX8_duel_249 e22 ?_
    refine wp_iload_n dX8_duel_250 rfl ?_
    obtain ⟨q23, e25, h24⟩ := Option.bind_eq_some_iff.mp h21
    clear h21
    refine wp_Si (As := [.int x14, .int x20, .int l3]) (S := [.int x8, .int l4, .ref x2]) okM_X8_choice tw1024 tw1023 rfl ⟨(Nat.le_of_ble_eq_true rfl), (Nat.le_of_ble_eq_true rfl)⟩ (Nat.le_of_ble_eq_true rfl) rfl dX8_duel_251 (MX8_choice e25) ?_
    refine wp_iload_n dX8_duel_254 rfl ?_
    obtain ⟨q26, e28, h27⟩ := Option.bind_eq_some_iff.mp h24
    clear h24
    refine wp_Si (As := [.int x8, .int q23.1, .int l3]) (S := [.int l4, .ref x2]) okM_X8_choice tw1024 tw1023 rfl ⟨(Nat.le_of_ble_eq_true rfl), (Nat.le_of_ble_eq_true rfl)⟩ (Nat.le_of_ble_eq_true rfl) rfl dX8_duel_255 (MX8_choice e28) ?_
    obtain ⟨w29, e31, h30⟩ := Option.bind_eq_some_iff.mp h27
    clear h27
    refine wp_iast dX8_duel_258 e31 ?_
    refine wp_iinc (v := (l4 + (1 : Int32))) (L1 := [some (.ref l0), none, some (.int l2), some (.int l3), some (.int (l4 + (1 : Int32))), none, none, none]) dX8_duel_259 (Nat.le_of_ble_eq_true rfl) rfl (congrArg (fun z => l4 + z) (by decide)) rfl ?_
    refine wp_goto (tgt := 211) dX8_duel_262 (by decide) ?_
    exact WP.wk (hk4 _ _ _ _ _ _ h30) (And.intro rfl (And.intro rfl (And.intro rfl (And.intro rfl trivial))))
def hX8_duel_200 (k : KTX8_duel) (w : XW) (l0 : Nat) (l2 : Int32) (l3 : Int32) : Option (Int32 × XW) :=
  if l3 < 0 then
  (gR w l0 8 23).bind fun x2 =>
  (aI w 0 x2 (0 : Int32)).bind fun x5 =>
  some (x5, w)
  else
  k.2.2.2.2 w l0 (l2 / (3 : Int32)) l3 (0 : Int32)
theorem HX8_duel_200 {K : CX} {l : Launch} {n0 k0 : Nat} {k : KTX8_duel} (hk0 : ∀ (w : XW) (l0 : Nat) (l1 : Int32) (l2 : Int32) (l3 : Int32) (q : Int32 × XW), k.1 w l0 l1 l2 l3 = some q → WP K l mX8_duel 7 162 n0 k0 (some (.int q.1)) q.2 18 [some (.ref l0), some (.int l1), some (.int l2), some (.int l3), none, none, none, none] [] w) (hk1 : ∀ (w : XW) (l0 : Nat) (l1 : Int32) (l2 : Int32) (l3 : Int32) (q : Int32 × XW), k.2.1 w l0 l1 l2 l3 = some q → WP K l mX8_duel 7 162 n0 k0 (some (.int q.1)) q.2 35 [some (.ref l0), some (.int l1), some (.int l2), some (.int l3), none, none, none, none] [] w) (hk2 : ∀ (w : XW) (l0 : Nat) (l1 : Int32) (l2 : Int32) (l3 : Int32) (l4 : Int32) (l5 : Int32) (l6 : Int32) (q : Int32 × XW), k.2.2.1 w l0 l1 l2 l3 l4 l5 l6 = some q → WP K l mX8_duel 7 162 n0 k0 (some (.int q.1)) q.2 57 [some (.ref l0), some (.int l1), some (.int l2), some (.int l3), some (.int l4), some (.int l5), some (.int l6), none] [] w) (hk3 : ∀ (w : XW) (l0 : Nat) (l2 : Int32) (l3 : Int32) (q : Int32 × XW), k.2.2.2.1 w l0 l2 l3 = some q → WP K l mX8_duel 7 162 n0 k0 (some (.int q.1)) q.2 200 [some (.ref l0), none, some (.int l2), some (.int l3), none, none, none, none] [] w) (hk4 : ∀ (w : XW) (l0 : Nat) (l2 : Int32) (l3 : Int32) (l4 : Int32) (q : Int32 × XW), k.2.2.2.2 w l0 l2 l3 l4 = some q → WP K l mX8_duel 7 162 n0 k0 (some (.int q.1)) q.2 211 [some (.ref l0), none, some (.int l2), some (.int l3), some (.int l4), none, none, none] [] w) {w : XW} {l0 : Nat} {l2 : Int32} {l3 : Int32} {q : Int32 × XW} (h0 : hX8_duel_200 k w l0 l2 l3 = some q) : WP K l mX8_duel 7 162 n0 k0 (some (.int q.1)) q.2 200 [some (.ref l0), none, some (.int l2), some (.int l3), none, none, none, none] [] w := by
  unfold hX8_duel_200 at h0
  refine wp_iload_n dX8_duel_200 rfl ?_
  refine wp_if_lt (tgt := 271) dX8_duel_201 (by decide) (fun c1 => ?_) (fun c1 => ?_)
  · rw [if_pos c1] at h0
    refine wp_aload_n dX8_duel_271 rfl ?_
    obtain ⟨x2, e4, h3⟩ := Option.bind_eq_some_iff.mp h0
    clear h0
    refine wp_getR okX8 (k := 23) (by decide) tw728 dX8_duel_272 e4 ?_
    refine wp_iconst (v := (0 : Int32)) dX8_duel_275 (by decide) ?_
    obtain ⟨x5, e7, h6⟩ := Option.bind_eq_some_iff.mp h3
    clear h3
    refine wp_iald dX8_duel_276 e7 ?_
    cases h6
    exact wp_iret rfl dX8_duel_277
  · rw [if_neg c1] at h0
    refine wp_iload_n dX8_duel_204 rfl ?_
    refine wp_iconst (v := (3 : Int32)) dX8_duel_205 (by decide) ?_
    refine wp_idiv dX8_duel_206 (by decide) ?_
    refine wp_istore_n (L1 := [some (.ref l0), none, some (.int (l2 / (3 : Int32))), some (.int l3), none, none, none, none]) dX8_duel_207 (Nat.le_of_ble_eq_true rfl) rfl ?_
    refine wp_iconst (v := (0 : Int32)) dX8_duel_208 (by decide) ?_
    refine wp_istore (L1 := [some (.ref l0), none, some (.int (l2 / (3 : Int32))), some (.int l3), some (.int (0 : Int32)), none, none, none]) dX8_duel_209 (Nat.le_of_ble_eq_true rfl) rfl ?_
    exact WP.wk (hk4 _ _ _ _ _ _ h0) (And.intro rfl (And.intro rfl (And.intro rfl (And.intro rfl trivial))))
def hX8_duel_57 (k : KTX8_duel) (w : XW) (l0 : Nat) (l1 : Int32) (l2 : Int32) (l3 : Int32) (l4 : Int32) (l5 : Int32) (l6 : Int32) : Option (Int32 × XW) :=
  if l1 ≤ l6 then
  if l5 = 0 then
  bX8_duel_160 k w l0 l1 l2 l3 l5 (-4 : Int32)
  else
  (fX8_restsBy w l0 (216 : Int32)).bind fun q3 =>
  bX8_duel_160 k q3.2 l0 l1 l2 l3 l5 q3.1
  else
  if (irm l4 (3 : Int32)) ≤ 0 then
  bX8_duel_137 k w l0 l1 l2 l3 (l4 / (3 : Int32)) l5 l6
  else
  if l5 = 0 then
  bX8_duel_108 k w l0 l1 l2 l3 (l4 / (3 : Int32)) l6 (irm l4 (3 : Int32))
  else
  (gR w l0 8 7).bind fun x8 =>
  (aI w 0 x8 (((216 : Int32) + (irm l4 (3 : Int32))) - (1 : Int32))).bind fun x11 =>
  if (999 : Int32) ≤ x11 then
  bX8_duel_108 k w l0 l1 l2 l3 (l4 / (3 : Int32)) l6 (irm l4 (3 : Int32))
  else
  bX8_duel_109 k w l0 l1 l2 l3 (l4 / (3 : Int32)) l6 (irm l4 (3 : Int32)) (1 : Int32)
theorem HX8_duel_57 {K : CX} {l : Launch} {n0 k0 : Nat} {k : KTX8_duel} (hk0 : ∀ (w : XW) (l0 : Nat) (l1 : Int32) (l2 : Int32) (l3 : Int32) (q : Int32 × XW), k.1 w l0 l1 l2 l3 = some q → WP K l mX8_duel 7 162 n0 k0 (some (.int q.1)) q.2 18 [some (.ref l0), some (.int l1), some (.int l2), some (.int l3), none, none, none, none] [] w) (hk1 : ∀ (w : XW) (l0 : Nat) (l1 : Int32) (l2 : Int32) (l3 : Int32) (q : Int32 × XW), k.2.1 w l0 l1 l2 l3 = some q → WP K l mX8_duel 7 162 n0 k0 (some (.int q.1)) q.2 35 [some (.ref l0), some (.int l1), some (.int l2), some (.int l3), none, none, none, none] [] w) (hk2 : ∀ (w : XW) (l0 : Nat) (l1 : Int32) (l2 : Int32) (l3 : Int32) (l4 : Int32) (l5 : Int32) (l6 : Int32) (q : Int32 × XW), k.2.2.1 w l0 l1 l2 l3 l4 l5 l6 = some q → WP K l mX8_duel 7 162 n0 k0 (some (.int q.1)) q.2 57 [some (.ref l0), some (.int l1), some (.int l2), some (.int l3), some (.int l4), some (.int l5), some (.int l6), none] [] w) (hk3 : ∀ (w : XW) (l0 : Nat) (l2 : Int32) (l3 : Int32) (q : Int32 × XW), k.2.2.2.1 w l0 l2 l3 = some q → WP K l mX8_duel 7 162 n0 k0 (some (.int q.1)) q.2 200 [some (.ref l0), none, some (.int l2), some (.int l3), none, none, none, none] [] w) (hk4 : ∀ (w : XW) (l0 : Nat) (l2 : Int32) (l3 : Int32) (l4 : Int32) (q : Int32 × XW), k.2.2.2.2 w l0 l2 l3 l4 = some q → WP K l mX8_duel 7 162 n0 k0 (some (.int q.1)) q.2 211 [some (.ref l0), none, some (.int l2), some (.int l3), some (.int l4), none, none, none] [] w) {w : XW} {l0 : Nat} {l1 : Int32} {l2 : Int32} {l3 : Int32} {l4 : Int32} {l5 : Int32} {l6 : Int32} {q : Int32 × XW} (h0 : hX8_duel_57 k w l0 l1 l2 l3 l4 l5 l6 = some q) : WP K l mX8_duel 7 162 n0 k0 (some (.int q.1)) q.2 57 [some (.ref l0), some (.int l1), some (.int l2), some (.int l3), some (.int l4), some (.int l5), some (.int l6), none] [] w := by
  unfold hX8_duel_57 at h0
  refine wp_iload dX8_duel_57 rfl ?_
  refine wp_iload_n dX8_duel_59 rfl ?_
  refine wp_icmp_ge (tgt := 143) dX8_duel_60 (by decide) (fun c1 => ?_) (fun c1 => ?_)
  · rw [if_pos c1] at h0
    refine wp_iload dX8_duel_143 rfl ?_
    refine wp_if_eq (tgt := 158) dX8_duel_145 (by decide) (fun c2 => ?_) (fun c2 => ?_)
    · rw [if_pos c2] at h0
      refine wp_bipush (v := (-4 : Int32)) dX8_duel_158 (by decide) ?_
      exact WP.wk (BX8_duel_160 hk0 hk1 hk2 hk3 hk4 h0) (And.intro rfl (And.intro rfl (And.intro rfl (And.intro rfl (And.intro rfl trivial)))))
    · rw [if_neg c2] at h0
      refine wp_aload_n dX8_duel_148 rfl ?_
      refine wp_sipush (v := (216 : Int32)) dX8_duel_149 (by decide) ?_
      obtain ⟨q3, e5, h4⟩ := Option.bind_eq_some_iff.mp h0
      clear h0
      refine wp_Vi (As := [.int (216 : Int32)]) (S := []) okM_X8_restsBy tw932 twP_X8_restsBy tw930 (OX8_restsBy e5) rfl rfl rfl ⟨(Nat.le_of_ble_eq_true rfl), (Nat.le_of_ble_eq_true rfl)⟩ (Nat.le_of_ble_eq_true rfl) rfl dX8_duel_152 (MX8_restsBy e5) ?_
      refine wp_goto (tgt := 160) dX8_duel_155 (by decide) ?_
      exact WP.wk (BX8_duel_160 hk0 hk1 hk2 hk3 hk4 h4) (And.intro rfl (And.intro rfl (And.intro rfl (And.intro rfl (And.intro rfl trivial)))))
  · rw [if_neg c1] at h0
    refine wp_iload dX8_duel_63 rfl ?_
    refine wp_iconst (v := (3 : Int32)) dX8_duel_65 (by decide) ?_
    refine wp_irm dX8_duel_66 (by decide) ?_
    refine wp_istore (L1 := [some (.ref l0), some (.int l1), some (.int l2), some (.int l3), some (.int l4), some (.int l5), some (.int l6), some (.int (irm l4 (3 : Int32)))]) dX8_duel_67 (Nat.le_of_ble_eq_true rfl) rfl ?_
    refine wp_iload dX8_duel_69 rfl ?_
    refine wp_iconst (v := (3 : Int32)) dX8_duel_71 (by decide) ?_
    refine wp_idiv dX8_duel_72 (by decide) ?_
    refine wp_istore (L1 := [some (.ref l0), some (.int l1), some (.int l2), some (.int l3), some (.int (l4 / (3 : Int32))), some (.int l5), some (.int l6), some (.int (irm l4 (3 : Int32)))]) dX8_duel_73 (Nat.le_of_ble_eq_true rfl) rfl ?_
    refine wp_iload dX8_duel_75 rfl ?_
    refine wp_if_le (tgt := 137) dX8_duel_77 (by decide) (fun c6 => ?_) (fun c6 => ?_)
    · rw [if_pos c6] at h0
      exact WP.wk (BX8_duel_137 hk0 hk1 hk2 hk3 hk4 h0) (And.intro rfl (And.intro rfl (And.intro rfl (And.intro rfl (And.intro rfl (And.intro rfl (And.intro rfl trivial)))))))
    · rw [if_neg c6] at h0
      refine wp_iload dX8_duel_80 rfl ?_
      refine wp_if_eq (tgt := 108) dX8_duel_82 (by decide) (fun c7 => ?_) (fun c7 => ?_)
      · rw [if_pos c7] at h0
        exact WP.wk (BX8_duel_108 hk0 hk1 hk2 hk3 hk4 h0) (And.intro rfl (And.intro rfl (And.intro rfl (And.intro rfl (And.intro rfl (And.intro rfl (And.intro rfl trivial)))))))
      · rw [if_neg c7] at h0
        refine wp_aload_n dX8_duel_85 rfl ?_
        obtain ⟨x8, e10, h9⟩ := Option.bind_eq_some_iff.mp h0
        clear h0
        refine wp_getR okX8 (k := 7) (by decide) tw712 dX8_duel_86 e10 ?_
        refine wp_sipush (v := (216 : Int32)) dX8_duel_89 (by decide) ?_
        refine wp_iload dX8_duel_92 rfl ?_
        refine wp_iadd dX8_duel_94 ?_
        refine wp_iconst (v := (1 : Int32)) dX8_duel_95 (by decide) ?_
        refine wp_isub dX8_duel_96 ?_
        obtain ⟨x11, e13, h12⟩ := Option.bind_eq_some_iff.mp h9
        clear h9
        refine wp_iald dX8_duel_97 e13 ?_
        refine wp_sipush (v := (999 : Int32)) dX8_duel_98 (by decide) ?_
        refine wp_icmp_ge (tgt := 108) dX8_duel_101 (by decide) (fun c14 => ?_) (fun c14 => ?_)
        · rw [if_pos c14] at h12
          exact WP.wk (BX8_duel_108 hk0 hk1 hk2 hk3 hk4 h12) (And.intro rfl (And.intro rfl (And.intro rfl (And.intro rfl (And.intro rfl (And.intro rfl (And.intro rfl trivial)))))))
        · rw [if_neg c14] at h12
          refine wp_iconst (v := (1 : Int32)) dX8_duel_104 (by decide) ?_
          refine wp_goto (tgt := 109) dX8_duel_105 (by decide) ?_
          exact WP.wk (BX8_duel_109 hk0 hk1 hk2 hk3 hk4 h12) (And.intro rfl (And.intro rfl (And.intro rfl (And.intro rfl (And.intro rfl (And.intro rfl (And.intro rfl trivial)))))))
def hX8_duel_35 (k : KTX8_duel) (w : XW) (l0 : Nat) (l1 : Int32) (l2 : Int32) (l3 : Int32) : Option (Int32 × XW) :=
  if l2 ≤ l3 then
  k.2.2.2.1 w l0 l2 (l1 - (1 : Int32))
  else
  (fX8_copies w l0 (0 : Int32) (216 : Int32)).bind fun q2 =>
  k.2.2.1 q2 l0 l1 l2 l3 l3 (1 : Int32) (0 : Int32)
theorem HX8_duel_35 {K : CX} {l : Launch} {n0 k0 : Nat} {k : KTX8_duel} (hk0 : ∀ (w : XW) (l0 : Nat) (l1 : Int32) (l2 : Int32) (l3 : Int32) (q : Int32 × XW), k.1 w l0 l1 l2 l3 = some q → WP K l mX8_duel 7 162 n0 k0 (some (.int q.1)) q.2 18 [some (.ref l0), some (.int l1), some (.int l2), some (.int l3), none, none, none, none] [] w) (hk1 : ∀ (w : XW) (l0 : Nat) (l1 : Int32) (l2 : Int32) (l3 : Int32) (q : Int32 × XW), k.2.1 w l0 l1 l2 l3 = some q → WP K l mX8_duel 7 162 n0 k0 (some (.int q.1)) q.2 35 [some (.ref l0), some (.int l1), some (.int l2), some (.int l3), none, none, none, none] [] w) (hk2 : ∀ (w : XW) (l0 : Nat) (l1 : Int32) (l2 : Int32) (l3 : Int32) (l4 : Int32) (l5 : Int32) (l6 : Int32) (q : Int32 × XW), k.2.2.1 w l0 l1 l2 l3 l4 l5 l6 = some q → WP K l mX8_duel 7 162 n0 k0 (some (.int q.1)) q.2 57 [some (.ref l0), some (.int l1), some (.int l2), some (.int l3), some (.int l4), some (.int l5), some (.int l6), none] [] w) (hk3 : ∀ (w : XW) (l0 : Nat) (l2 : Int32) (l3 : Int32) (q : Int32 × XW), k.2.2.2.1 w l0 l2 l3 = some q → WP K l mX8_duel 7 162 n0 k0 (some (.int q.1)) q.2 200 [some (.ref l0), none, some (.int l2), some (.int l3), none, none, none, none] [] w) (hk4 : ∀ (w : XW) (l0 : Nat) (l2 : Int32) (l3 : Int32) (l4 : Int32) (q : Int32 × XW), k.2.2.2.2 w l0 l2 l3 l4 = some q → WP K l mX8_duel 7 162 n0 k0 (some (.int q.1)) q.2 211 [some (.ref l0), none, some (.int l2), some (.int l3), some (.int l4), none, none, none] [] w) {w : XW} {l0 : Nat} {l1 : Int32} {l2 : Int32} {l3 : Int32} {q : Int32 × XW} (h0 : hX8_duel_35 k w l0 l1 l2 l3 = some q) : WP K l mX8_duel 7 162 n0 k0 (some (.int q.1)) q.2 35 [some (.ref l0), some (.int l1), some (.int l2), some (.int l3), none, none, none, none] [] w := by
  unfold hX8_duel_35 at h0
  refine wp_iload_n dX8_duel_35 rfl ?_
  refine wp_iload_n dX8_duel_36 rfl ?_
  refine wp_icmp_ge (tgt := 196) dX8_duel_37 (by decide) (fun c1 => ?_) (fun c1 => ?_)
  · rw [if_pos c1] at h0
    refine wp_iload_n dX8_duel_196 rfl ?_
    refine wp_iconst (v := (1 : Int32)) dX8_duel_197 (by decide) ?_
    refine wp_isub dX8_duel_198 ?_
    refine wp_istore_n (L1 := [some (.ref l0), some (.int l1), some (.int l2), some (.int (l1 - (1 : Int32))), none, none, none, none]) dX8_duel_199 (Nat.le_of_ble_eq_true rfl) rfl ?_
    exact WP.wk (hk3 _ _ _ _ _ h0) (And.intro rfl (And.intro rfl (And.intro rfl trivial)))
  · rw [if_neg c1] at h0
    refine wp_aload_n dX8_duel_40 rfl ?_
    refine wp_iconst (v := (0 : Int32)) dX8_duel_41 (by decide) ?_
    refine wp_sipush (v := (216 : Int32)) dX8_duel_42 (by decide) ?_
    obtain ⟨q2, e4, h3⟩ := Option.bind_eq_some_iff.mp h0
    clear h0
    refine wp_Vv (As := [.int (0 : Int32), .int (216 : Int32)]) (S := []) okM_X8_copies tw877 twP_X8_copies tw875 (OX8_copies e4) rfl rfl rfl ⟨(Nat.le_of_ble_eq_true rfl), (Nat.le_of_ble_eq_true rfl)⟩ (Nat.le_of_ble_eq_true rfl) rfl dX8_duel_45 (MX8_copies e4) ?_
    refine wp_iload_n dX8_duel_48 rfl ?_
    refine wp_istore (L1 := [some (.ref l0), some (.int l1), some (.int l2), some (.int l3), some (.int l3), none, none, none]) dX8_duel_49 (Nat.le_of_ble_eq_true rfl) rfl ?_
    refine wp_iconst (v := (1 : Int32)) dX8_duel_51 (by decide) ?_
    refine wp_istore (L1 := [some (.ref l0), some (.int l1), some (.int l2), some (.int l3), some (.int l3), some (.int (1 : Int32)), none, none]) dX8_duel_52 (Nat.le_of_ble_eq_true rfl) rfl ?_
    refine wp_iconst (v := (0 : Int32)) dX8_duel_54 (by decide) ?_
    refine wp_istore (L1 := [some (.ref l0), some (.int l1), some (.int l2), some (.int l3), some (.int l3), some (.int (1 : Int32)), some (.int (0 : Int32)), none]) dX8_duel_55 (Nat.le_of_ble_eq_true rfl) rfl ?_
    exact WP.wk (hk2 _ _ _ _ _ _ _ _ _ h3) (And.intro rfl (And.intro rfl (And.intro rfl (And.intro rfl (And.intro rfl (And.intro rfl (And.intro rfl trivial)))))))
def hX8_duel_18 (k : KTX8_duel) (w : XW) (l0 : Nat) (l1 : Int32) (l2 : Int32) (l3 : Int32) : Option (Int32 × XW) :=
  if l1 ≤ l3 then
  k.2.1 w l0 l1 l2 (0 : Int32)
  else
  k.1 w l0 l1 (l2 * (3 : Int32)) (l3 + (1 : Int32))
theorem HX8_duel_18 {K : CX} {l : Launch} {n0 k0 : Nat} {k : KTX8_duel} (hk0 : ∀ (w : XW) (l0 : Nat) (l1 : Int32) (l2 : Int32) (l3 : Int32) (q : Int32 × XW), k.1 w l0 l1 l2 l3 = some q → WP K l mX8_duel 7 162 n0 k0 (some (.int q.1)) q.2 18 [some (.ref l0), some (.int l1), some (.int l2), some (.int l3), none, none, none, none] [] w) (hk1 : ∀ (w : XW) (l0 : Nat) (l1 : Int32) (l2 : Int32) (l3 : Int32) (q : Int32 × XW), k.2.1 w l0 l1 l2 l3 = some q → WP K l mX8_duel 7 162 n0 k0 (some (.int q.1)) q.2 35 [some (.ref l0), some (.int l1), some (.int l2), some (.int l3), none, none, none, none] [] w) (hk2 : ∀ (w : XW) (l0 : Nat) (l1 : Int32) (l2 : Int32) (l3 : Int32) (l4 : Int32) (l5 : Int32) (l6 : Int32) (q : Int32 × XW), k.2.2.1 w l0 l1 l2 l3 l4 l5 l6 = some q → WP K l mX8_duel 7 162 n0 k0 (some (.int q.1)) q.2 57 [some (.ref l0), some (.int l1), some (.int l2), some (.int l3), some (.int l4), some (.int l5), some (.int l6), none] [] w) (hk3 : ∀ (w : XW) (l0 : Nat) (l2 : Int32) (l3 : Int32) (q : Int32 × XW), k.2.2.2.1 w l0 l2 l3 = some q → WP K l mX8_duel 7 162 n0 k0 (some (.int q.1)) q.2 200 [some (.ref l0), none, some (.int l2), some (.int l3), none, none, none, none] [] w) (hk4 : ∀ (w : XW) (l0 : Nat) (l2 : Int32) (l3 : Int32) (l4 : Int32) (q : Int32 × XW), k.2.2.2.2 w l0 l2 l3 l4 = some q → WP K l mX8_duel 7 162 n0 k0 (some (.int q.1)) q.2 211 [some (.ref l0), none, some (.int l2), some (.int l3), some (.int l4), none, none, none] [] w) {w : XW} {l0 : Nat} {l1 : Int32} {l2 : Int32} {l3 : Int32} {q : Int32 × XW} (h0 : hX8_duel_18 k w l0 l1 l2 l3 = some q) : WP K l mX8_duel 7 162 n0 k0 (some (.int q.1)) q.2 18 [some (.ref l0), some (.int l1), some (.int l2), some (.int l3), none, none, none, none] [] w := by
  unfold hX8_duel_18 at h0
  refine wp_iload_n dX8_duel_18 rfl ?_
  refine wp_iload_n dX8_duel_19 rfl ?_
  refine wp_icmp_ge (tgt := 33) dX8_duel_20 (by decide) (fun c1 => ?_) (fun c1 => ?_)
  · rw [if_pos c1] at h0
    refine wp_iconst (v := (0 : Int32)) dX8_duel_33 (by decide) ?_
    refine wp_istore_n (L1 := [some (.ref l0), some (.int l1), some (.int l2), some (.int (0 : Int32)), none, none, none, none]) dX8_duel_34 (Nat.le_of_ble_eq_true rfl) rfl ?_
    exact WP.wk (hk1 _ _ _ _ _ _ h0) (And.intro rfl (And.intro rfl (And.intro rfl (And.intro rfl trivial))))
  · rw [if_neg c1] at h0
    refine wp_iload_n dX8_duel_23 rfl ?_
    refine wp_iconst (v := (3 : Int32)) dX8_duel_24 (by decide) ?_
    refine wp_imul dX8_duel_25 ?_
    refine wp_istore_n (L1 := [some (.ref l0), some (.int l1), some (.int (l2 * (3 : Int32))), some (.int l3), none, none, none, none]) dX8_duel_26 (Nat.le_of_ble_eq_true rfl) rfl ?_
    refine wp_iinc (v := (l3 + (1 : Int32))) (L1 := [some (.ref l0), some (.int l1), some (.int (l2 * (3 : Int32))), some (.int (l3 + (1 : Int32))), none, none, none, none]) dX8_duel_27 (Nat.le_of_ble_eq_true rfl) rfl (congrArg (fun z => l3 + z) (by decide)) rfl ?_
    refine wp_goto (tgt := 18) dX8_duel_30 (by decide) ?_
    exact WP.wk (hk0 _ _ _ _ _ _ h0) (And.intro rfl (And.intro rfl (And.intro rfl (And.intro rfl trivial))))
def eX8_duel (k : KTX8_duel) (w : XW) (l0 : Nat) (l1 : Int32) : Option (Int32 × XW) :=
  (fX8_in w (l1.toInt64) (0 : Int64) (4 : Int64)).bind fun q1 =>
  if q1.1 = 0 then
  some ((-1 : Int32), q1.2)
  else
  k.1 q1.2 l0 l1 (1 : Int32) (0 : Int32)
theorem EX8_duel {K : CX} {l : Launch} {n0 k0 : Nat} {k : KTX8_duel} (hk0 : ∀ (w : XW) (l0 : Nat) (l1 : Int32) (l2 : Int32) (l3 : Int32) (q : Int32 × XW), k.1 w l0 l1 l2 l3 = some q → WP K l mX8_duel 7 162 n0 k0 (some (.int q.1)) q.2 18 [some (.ref l0), some (.int l1), some (.int l2), some (.int l3), none, none, none, none] [] w) (hk1 : ∀ (w : XW) (l0 : Nat) (l1 : Int32) (l2 : Int32) (l3 : Int32) (q : Int32 × XW), k.2.1 w l0 l1 l2 l3 = some q → WP K l mX8_duel 7 162 n0 k0 (some (.int q.1)) q.2 35 [some (.ref l0), some (.int l1), some (.int l2), some (.int l3), none, none, none, none] [] w) (hk2 : ∀ (w : XW) (l0 : Nat) (l1 : Int32) (l2 : Int32) (l3 : Int32) (l4 : Int32) (l5 : Int32) (l6 : Int32) (q : Int32 × XW), k.2.2.1 w l0 l1 l2 l3 l4 l5 l6 = some q → WP K l mX8_duel 7 162 n0 k0 (some (.int q.1)) q.2 57 [some (.ref l0), some (.int l1), some (.int l2), some (.int l3), some (.int l4), some (.int l5), some (.int l6), none] [] w) (hk3 : ∀ (w : XW) (l0 : Nat) (l2 : Int32) (l3 : Int32) (q : Int32 × XW), k.2.2.2.1 w l0 l2 l3 = some q → WP K l mX8_duel 7 162 n0 k0 (some (.int q.1)) q.2 200 [some (.ref l0), none, some (.int l2), some (.int l3), none, none, none, none] [] w) (hk4 : ∀ (w : XW) (l0 : Nat) (l2 : Int32) (l3 : Int32) (l4 : Int32) (q : Int32 × XW), k.2.2.2.2 w l0 l2 l3 l4 = some q → WP K l mX8_duel 7 162 n0 k0 (some (.int q.1)) q.2 211 [some (.ref l0), none, some (.int l2), some (.int l3), some (.int l4), none, none, none] [] w) {w : XW} {l0 : Nat} {l1 : Int32} {q : Int32 × XW} (h0 : eX8_duel k w l0 l1 = some q) : WP K l mX8_duel 7 162 n0 k0 (some (.int q.1)) q.2 0 [some (.ref l0), some (.int l1), none, none, none, none, none, none] [] w := by
  unfold eX8_duel at h0
  refine wp_iload_n dX8_duel_0 rfl ?_
  refine wp_i2l dX8_duel_1 ?_
  refine wp_lconst (v := (0 : Int64)) dX8_duel_2 (by decide) ?_
  refine wp_ldc2 tw1022 dX8_duel_3 ?_
  obtain ⟨q1, e3, h2⟩ := Option.bind_eq_some_iff.mp h0
  clear h0
  refine wp_Si (As := [.long (l1.toInt64), .long (0 : Int64), .long (4 : Int64)]) (S := []) okM_X8_in tw785 tw784 rfl ⟨(Nat.le_of_ble_eq_true rfl), (Nat.le_of_ble_eq_true rfl)⟩ (Nat.le_of_ble_eq_true rfl) rfl dX8_duel_6 (MX8_in e3) ?_
  refine wp_if_ne (tgt := 14) dX8_duel_9 (by decide) (fun c4 => ?_) (fun c4 => ?_)
  · rw [if_neg c4] at h2
    refine wp_iconst (v := (1 : Int32)) dX8_duel_14 (by decide) ?_
    refine wp_istore_n (L1 := [some (.ref l0), some (.int l1), some (.int (1 : Int32)), none, none, none, none, none]) dX8_duel_15 (Nat.le_of_ble_eq_true rfl) rfl ?_
    refine wp_iconst (v := (0 : Int32)) dX8_duel_16 (by decide) ?_
    refine wp_istore_n (L1 := [some (.ref l0), some (.int l1), some (.int (1 : Int32)), some (.int (0 : Int32)), none, none, none, none]) dX8_duel_17 (Nat.le_of_ble_eq_true rfl) rfl ?_
    exact WP.wk (hk0 _ _ _ _ _ _ h2) (And.intro rfl (And.intro rfl (And.intro rfl (And.intro rfl trivial))))
  · rw [if_pos c4] at h2
    refine wp_iconst (v := (-1 : Int32)) dX8_duel_12 (by decide) ?_
    cases h2
    exact wp_iret rfl dX8_duel_13
def loX8_duel : Nat → KTX8_duel
  | 0 => (fun _ _ _ _ _ => none, fun _ _ _ _ _ => none, fun _ _ _ _ _ _ _ _ => none, fun _ _ _ _ => none, fun _ _ _ _ _ => none)
  | n + 1 => (hX8_duel_18 (loX8_duel n), hX8_duel_35 (loX8_duel n), hX8_duel_57 (loX8_duel n), hX8_duel_200 (loX8_duel n), hX8_duel_211 (loX8_duel n))
theorem LOX8_duel {K : CX} {l : Launch} {n0 k0 : Nat} : ∀ n : Nat, (∀ (w : XW) (l0 : Nat) (l1 : Int32) (l2 : Int32) (l3 : Int32) (q : Int32 × XW), (loX8_duel n).1 w l0 l1 l2 l3 = some q → WP K l mX8_duel 7 162 n0 k0 (some (.int q.1)) q.2 18 [some (.ref l0), some (.int l1), some (.int l2), some (.int l3), none, none, none, none] [] w) ∧ (∀ (w : XW) (l0 : Nat) (l1 : Int32) (l2 : Int32) (l3 : Int32) (q : Int32 × XW), (loX8_duel n).2.1 w l0 l1 l2 l3 = some q → WP K l mX8_duel 7 162 n0 k0 (some (.int q.1)) q.2 35 [some (.ref l0), some (.int l1), some (.int l2), some (.int l3), none, none, none, none] [] w) ∧ (∀ (w : XW) (l0 : Nat) (l1 : Int32) (l2 : Int32) (l3 : Int32) (l4 : Int32) (l5 : Int32) (l6 : Int32) (q : Int32 × XW), (loX8_duel n).2.2.1 w l0 l1 l2 l3 l4 l5 l6 = some q → WP K l mX8_duel 7 162 n0 k0 (some (.int q.1)) q.2 57 [some (.ref l0), some (.int l1), some (.int l2), some (.int l3), some (.int l4), some (.int l5), some (.int l6), none] [] w) ∧ (∀ (w : XW) (l0 : Nat) (l2 : Int32) (l3 : Int32) (q : Int32 × XW), (loX8_duel n).2.2.2.1 w l0 l2 l3 = some q → WP K l mX8_duel 7 162 n0 k0 (some (.int q.1)) q.2 200 [some (.ref l0), none, some (.int l2), some (.int l3), none, none, none, none] [] w) ∧ (∀ (w : XW) (l0 : Nat) (l2 : Int32) (l3 : Int32) (l4 : Int32) (q : Int32 × XW), (loX8_duel n).2.2.2.2 w l0 l2 l3 l4 = some q → WP K l mX8_duel 7 162 n0 k0 (some (.int q.1)) q.2 211 [some (.ref l0), none, some (.int l2), some (.int l3), some (.int l4), none, none, none] [] w) := by
  intro n
  induction n with
  | zero => exact ⟨fun _ _ _ _ _ q h => (by cases h), fun _ _ _ _ _ q h => (by cases h), fun _ _ _ _ _ _ _ _ q h => (by cases h), fun _ _ _ _ q h => (by cases h), fun _ _ _ _ _ q h => (by cases h)⟩
  | succ n ih => exact ⟨fun _ _ _ _ _ q h => HX8_duel_18 ih.1 ih.2.1 ih.2.2.1 ih.2.2.2.1 ih.2.2.2.2 h, fun _ _ _ _ _ q h => HX8_duel_35 ih.1 ih.2.1 ih.2.2.1 ih.2.2.2.1 ih.2.2.2.2 h, fun _ _ _ _ _ _ _ _ q h => HX8_duel_57 ih.1 ih.2.1 ih.2.2.1 ih.2.2.2.1 ih.2.2.2.2 h, fun _ _ _ _ q h => HX8_duel_200 ih.1 ih.2.1 ih.2.2.1 ih.2.2.2.1 ih.2.2.2.2 h, fun _ _ _ _ _ q h => HX8_duel_211 ih.1 ih.2.1 ih.2.2.1 ih.2.2.2.1 ih.2.2.2.2 h⟩
def fX8_duel (w : XW) (l0 : Nat) (l1 : Int32) : Option (Int32 × XW) := if isO w l0 8 = true then eX8_duel (loX8_duel FU) w l0 l1 else none
theorem OX8_duel {w : XW} {l0 : Nat} {l1 : Int32} {q : Int32 × XW} (h : fX8_duel w l0 l1 = some q) : isO w l0 8 = true := Decidable.byContradiction fun z => by unfold fX8_duel at h; rw [if_neg z] at h; cases h
theorem MX8_duel {K : CX} {l : Launch} {w : XW} {l0 : Nat} {l1 : Int32} {q : Int32 × XW} (h : fX8_duel w l0 l1 = some q) : MT K l mX8_duel 7 162 [.ref l0, .int l1] w (some (.int q.1)) q.2 := by
  have z := OX8_duel h
  unfold fX8_duel at h
  rw [if_pos z] at h
  exact MT.of (by decide) (Nat.le_of_ble_eq_true rfl) rfl (EX8_duel (LOX8_duel FU).1 (LOX8_duel FU).2.1 (LOX8_duel FU).2.2.1 (LOX8_duel FU).2.2.2.1 (LOX8_duel FU).2.2.2.2 h)
