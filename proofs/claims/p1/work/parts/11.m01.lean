/-! FractionRun$Text.<init>()V: frames 1, words 20 -/
abbrev mX6_init : MR := (⟨"FractionRun$Text", "<init>", "()V"⟩, prog_8_method_1_code, 1, none)
theorem dX6_init_0 : decode prog_8_method_1_code 0 = .ok (.aload_n 0, 1) := by decide +kernel
theorem dX6_init_1 : decode prog_8_method_1_code 1 = .ok (.invokespecial 3, 3) := by decide +kernel
theorem dX6_init_4 : decode prog_8_method_1_code 4 = .ok (.aload_n 0, 1) := by decide +kernel
theorem dX6_init_5 : decode prog_8_method_1_code 5 = .ok (.sipush 200, 3) := by decide +kernel
theorem dX6_init_8 : decode prog_8_method_1_code 8 = .ok (.newarray .char, 2) := by decide +kernel
theorem dX6_init_10 : decode prog_8_method_1_code 10 = .ok (.putfield 9, 3) := by decide +kernel
theorem dX6_init_13 : decode prog_8_method_1_code 13 = .ok (.return_, 1) := by decide +kernel
theorem okM_X6_init : okM mX6_init 0 := ⟨tw29, tw2, by decide, by decide, by decide +kernel⟩
def eX6_init (w : XW) (l0 : Nat) : Option XW :=
  (some (xpush w 200 (xi 1 200 (fun _ => 0)))).bind fun w1 =>
  (pV w1 l0 6 0 (.ref w.1)).bind fun w4 =>
  some w4
theorem EX6_init {K : CX} {l : Launch} {n0 k0 : Nat} {w : XW} {l0 : Nat} {q : XW} (h0 : eX6_init w l0 = some q) : WP K l mX6_init 1 20 n0 k0 none q 0 [some (.ref l0)] [] w := by
  unfold eX6_init at h0
  refine wp_aload_n dX6_init_0 rfl ?_
  refine wp_objI tw30 tw23 twObjCode ⟨(Nat.le_of_ble_eq_true rfl), (Nat.le_of_ble_eq_true rfl)⟩ rfl dX6_init_1 ?_
  refine wp_aload_n dX6_init_4 rfl ?_
  refine wp_sipush (v := (200 : Int32)) dX6_init_5 (by decide) ?_
  obtain ⟨w1, e3, h2⟩ := Option.bind_eq_some_iff.mp h0
  clear h0
  refine wp_newC (N := 200) tw40 dX6_init_8 (by decide) (by decide) (by decide) ?_
  rw [Option.some.inj e3]
  obtain ⟨w4, e6, h5⟩ := Option.bind_eq_some_iff.mp h2
  clear h2
  refine wp_putF okX6 (k := 0) (by decide) rfl rfl rfl tw31 dX6_init_10 rfl rfl e6 ?_
  cases h5
  exact wp_vret rfl dX6_init_13
def fX6_init (w : XW) (l0 : Nat) : Option XW := eX6_init w l0
theorem MX6_init {K : CX} {l : Launch} {w : XW} {l0 : Nat} {q : XW} (h : fX6_init w l0 = some q) : MT K l mX6_init 1 20 [.ref l0] w none q := by
  unfold fX6_init at h
  exact MT.of (by decide) (Nat.le_of_ble_eq_true rfl) rfl (EX6_init h)
/-! FractionRun$Reader.<init>()V: frames 1, words 20 -/
abbrev mX4_init : MR := (⟨"FractionRun$Reader", "<init>", "()V"⟩, prog_6_method_1_code, 1, none)
theorem dX4_init_0 : decode prog_6_method_1_code 0 = .ok (.aload_n 0, 1) := by decide +kernel
theorem dX4_init_1 : decode prog_6_method_1_code 1 = .ok (.invokespecial 3, 3) := by decide +kernel
theorem dX4_init_4 : decode prog_6_method_1_code 4 = .ok (.aload_n 0, 1) := by decide +kernel
theorem dX4_init_5 : decode prog_6_method_1_code 5 = .ok (.iconst 3, 1) := by decide +kernel
theorem dX4_init_6 : decode prog_6_method_1_code 6 = .ok (.newarray .int, 2) := by decide +kernel
theorem dX4_init_8 : decode prog_6_method_1_code 8 = .ok (.putfield 11, 3) := by decide +kernel
theorem dX4_init_11 : decode prog_6_method_1_code 11 = .ok (.return_, 1) := by decide +kernel
theorem okM_X4_init : okM mX4_init 0 := ⟨tw45, tw3, by decide, by decide, by decide +kernel⟩
def eX4_init (w : XW) (l0 : Nat) : Option XW :=
  (some (xpush w 3 (xi 0 3 (fun _ => 0)))).bind fun w1 =>
  (pV w1 l0 4 0 (.ref w.1)).bind fun w4 =>
  some w4
theorem EX4_init {K : CX} {l : Launch} {n0 k0 : Nat} {w : XW} {l0 : Nat} {q : XW} (h0 : eX4_init w l0 = some q) : WP K l mX4_init 1 20 n0 k0 none q 0 [some (.ref l0)] [] w := by
  unfold eX4_init at h0
  refine wp_aload_n dX4_init_0 rfl ?_
  refine wp_objI tw46 tw23 twObjCode ⟨(Nat.le_of_ble_eq_true rfl), (Nat.le_of_ble_eq_true rfl)⟩ rfl dX4_init_1 ?_
  refine wp_aload_n dX4_init_4 rfl ?_
  refine wp_iconst (v := (3 : Int32)) dX4_init_5 (by decide) ?_
  obtain ⟨w1, e3, h2⟩ := Option.bind_eq_some_iff.mp h0
  clear h0
  refine wp_newI (N := 3) tw51 dX4_init_6 (by decide) (by decide) (by decide) ?_
  rw [Option.some.inj e3]
  obtain ⟨w4, e6, h5⟩ := Option.bind_eq_some_iff.mp h2
  clear h2
  refine wp_putF okX4 (k := 0) (by decide) rfl rfl rfl tw47 dX4_init_8 rfl rfl e6 ?_
  cases h5
  exact wp_vret rfl dX4_init_11
def fX4_init (w : XW) (l0 : Nat) : Option XW := eX4_init w l0
theorem MX4_init {K : CX} {l : Launch} {w : XW} {l0 : Nat} {q : XW} (h : fX4_init w l0 = some q) : MT K l mX4_init 1 20 [.ref l0] w none q := by
  unfold fX4_init at h
  exact MT.of (by decide) (Nat.le_of_ble_eq_true rfl) rfl (EX4_init h)
/-! FractionRun$Fractions.<init>()V: frames 1, words 20 -/
abbrev mX1_init : MR := (⟨"FractionRun$Fractions", "<init>", "()V"⟩, prog_3_method_1_code, 1, none)
theorem dX1_init_0 : decode prog_3_method_1_code 0 = .ok (.aload_n 0, 1) := by decide +kernel
theorem dX1_init_1 : decode prog_3_method_1_code 1 = .ok (.invokespecial 3, 3) := by decide +kernel
theorem dX1_init_4 : decode prog_3_method_1_code 4 = .ok (.aload_n 0, 1) := by decide +kernel
theorem dX1_init_5 : decode prog_3_method_1_code 5 = .ok (.bipush 8, 2) := by decide +kernel
theorem dX1_init_7 : decode prog_3_method_1_code 7 = .ok (.newarray .int, 2) := by decide +kernel
theorem dX1_init_9 : decode prog_3_method_1_code 9 = .ok (.putfield 9, 3) := by decide +kernel
theorem dX1_init_12 : decode prog_3_method_1_code 12 = .ok (.aload_n 0, 1) := by decide +kernel
theorem dX1_init_13 : decode prog_3_method_1_code 13 = .ok (.bipush 8, 2) := by decide +kernel
theorem dX1_init_15 : decode prog_3_method_1_code 15 = .ok (.newarray .int, 2) := by decide +kernel
theorem dX1_init_17 : decode prog_3_method_1_code 17 = .ok (.putfield 15, 3) := by decide +kernel
theorem dX1_init_20 : decode prog_3_method_1_code 20 = .ok (.aload_n 0, 1) := by decide +kernel
theorem dX1_init_21 : decode prog_3_method_1_code 21 = .ok (.bipush 8, 2) := by decide +kernel
theorem dX1_init_23 : decode prog_3_method_1_code 23 = .ok (.newarray .int, 2) := by decide +kernel
theorem dX1_init_25 : decode prog_3_method_1_code 25 = .ok (.putfield 18, 3) := by decide +kernel
theorem dX1_init_28 : decode prog_3_method_1_code 28 = .ok (.aload_n 0, 1) := by decide +kernel
theorem dX1_init_29 : decode prog_3_method_1_code 29 = .ok (.bipush 48, 2) := by decide +kernel
theorem dX1_init_31 : decode prog_3_method_1_code 31 = .ok (.newarray .int, 2) := by decide +kernel
theorem dX1_init_33 : decode prog_3_method_1_code 33 = .ok (.putfield 21, 3) := by decide +kernel
theorem dX1_init_36 : decode prog_3_method_1_code 36 = .ok (.aload_n 0, 1) := by decide +kernel
theorem dX1_init_37 : decode prog_3_method_1_code 37 = .ok (.bipush 6, 2) := by decide +kernel
theorem dX1_init_39 : decode prog_3_method_1_code 39 = .ok (.newarray .int, 2) := by decide +kernel
theorem dX1_init_41 : decode prog_3_method_1_code 41 = .ok (.putfield 24, 3) := by decide +kernel
theorem dX1_init_44 : decode prog_3_method_1_code 44 = .ok (.return_, 1) := by decide +kernel
theorem okM_X1_init : okM mX1_init 0 := ⟨tw56, tw4, by decide, by decide, by decide +kernel⟩
def eX1_init (w : XW) (l0 : Nat) : Option XW :=
  (some (xpush w 8 (xi 0 8 (fun _ => 0)))).bind fun w1 =>
  (pV w1 l0 1 0 (.ref w.1)).bind fun w4 =>
  (some (xpush w4 8 (xi 0 8 (fun _ => 0)))).bind fun w7 =>
  (pV w7 l0 1 1 (.ref w4.1)).bind fun w10 =>
  (some (xpush w10 8 (xi 0 8 (fun _ => 0)))).bind fun w13 =>
  (pV w13 l0 1 2 (.ref w10.1)).bind fun w16 =>
  (some (xpush w16 48 (xi 0 48 (fun _ => 0)))).bind fun w19 =>
  (pV w19 l0 1 3 (.ref w16.1)).bind fun w22 =>
  (some (xpush w22 6 (xi 0 6 (fun _ => 0)))).bind fun w25 =>
  (pV w25 l0 1 4 (.ref w22.1)).bind fun w28 =>
  some w28
theorem EX1_init {K : CX} {l : Launch} {n0 k0 : Nat} {w : XW} {l0 : Nat} {q : XW} (h0 : eX1_init w l0 = some q) : WP K l mX1_init 1 20 n0 k0 none q 0 [some (.ref l0)] [] w := by
  unfold eX1_init at h0
  refine wp_aload_n dX1_init_0 rfl ?_
  refine wp_objI tw57 tw23 twObjCode ⟨(Nat.le_of_ble_eq_true rfl), (Nat.le_of_ble_eq_true rfl)⟩ rfl dX1_init_1 ?_
  refine wp_aload_n dX1_init_4 rfl ?_
  refine wp_bipush (v := (8 : Int32)) dX1_init_5 (by decide) ?_
  obtain ⟨w1, e3, h2⟩ := Option.bind_eq_some_iff.mp h0
  clear h0
  refine wp_newI (N := 8) tw51 dX1_init_7 (by decide) (by decide) (by decide) ?_
  rw [Option.some.inj e3]
  obtain ⟨w4, e6, h5⟩ := Option.bind_eq_some_iff.mp h2
  clear h2
  refine wp_putF okX1 (k := 0) (by decide) rfl rfl rfl tw58 dX1_init_9 rfl rfl e6 ?_
  refine wp_aload_n dX1_init_12 rfl ?_
  refine wp_bipush (v := (8 : Int32)) dX1_init_13 (by decide) ?_
  obtain ⟨w7, e9, h8⟩ := Option.bind_eq_some_iff.mp h5
  clear h5
  refine wp_newI (N := 8) tw51 dX1_init_15 (by decide) (by decide) (by decide) ?_
  rw [Option.some.inj e9]
  obtain ⟨w10, e12, h11⟩ := Option.bind_eq_some_iff.mp h8
  clear h8
  refine wp_putF okX1 (k := 1) (by decide) rfl rfl rfl tw61 dX1_init_17 rfl rfl e12 ?_
  refine wp_aload_n dX1_init_20 rfl ?_
  refine wp_bipush (v := (8 : Int32)) dX1_init_21 (by decide) ?_
  obtain ⟨w13, e15, h14⟩ := Option.bind_eq_some_iff.mp h11
  clear h11
  refine wp_newI (N := 8) tw51 dX1_init_23 (by decide) (by decide) (by decide) ?_
  rw [Option.some.inj e15]
  obtain ⟨w16, e18, h17⟩ := Option.bind_eq_some_iff.mp h14
  clear h14
  refine wp_putF okX1 (k := 2) (by decide) rfl rfl rfl tw63 dX1_init_25 rfl rfl e18 ?_
  refine wp_aload_n dX1_init_28 rfl ?_
  refine wp_bipush (v := (48 : Int32)) dX1_init_29 (by decide) ?_
  obtain ⟨w19, e21, h20⟩ := Option.bind_eq_some_iff.mp h17
  clear h17
  refine wp_newI (N := 48) tw51 dX1_init_31 (by decide) (by decide) (by decide) ?_
  rw [Option.some.inj e21]
  obtain ⟨w22, e24, h23⟩ := Option.bind_eq_some_iff.mp h20
  clear h20
  refine wp_putF okX1 (k := 3) (by decide) rfl rfl rfl tw65 dX1_init_33 rfl rfl e24 ?_
  refine wp_aload_n dX1_init_36 rfl ?_
  refine wp_bipush (v := (6 : Int32)) dX1_init_37 (by decide) ?_
  obtain ⟨w25, e27, h26⟩ := Option.bind_eq_some_iff.mp h23
  clear h23
  refine wp_newI (N := 6) tw51 dX1_init_39 (by decide) (by decide) (by decide) ?_
  rw [Option.some.inj e27]
  obtain ⟨w28, e30, h29⟩ := Option.bind_eq_some_iff.mp h26
  clear h26
  refine wp_putF okX1 (k := 4) (by decide) rfl rfl rfl tw68 dX1_init_41 rfl rfl e30 ?_
  cases h29
  exact wp_vret rfl dX1_init_44
def fX1_init (w : XW) (l0 : Nat) : Option XW := eX1_init w l0
theorem MX1_init {K : CX} {l : Launch} {w : XW} {l0 : Nat} {q : XW} (h : fX1_init w l0 = some q) : MT K l mX1_init 1 20 [.ref l0] w none q := by
  unfold fX1_init at h
  exact MT.of (by decide) (Nat.le_of_ble_eq_true rfl) rfl (EX1_init h)
/-! FractionRun$State.<init>()V: frames 1, words 20 -/
abbrev mX5_init : MR := (⟨"FractionRun$State", "<init>", "()V"⟩, prog_7_method_1_code, 1, none)
theorem dX5_init_0 : decode prog_7_method_1_code 0 = .ok (.aload_n 0, 1) := by decide +kernel
theorem dX5_init_1 : decode prog_7_method_1_code 1 = .ok (.invokespecial 3, 3) := by decide +kernel
theorem dX5_init_4 : decode prog_7_method_1_code 4 = .ok (.aload_n 0, 1) := by decide +kernel
theorem dX5_init_5 : decode prog_7_method_1_code 5 = .ok (.bipush 6, 2) := by decide +kernel
theorem dX5_init_7 : decode prog_7_method_1_code 7 = .ok (.newarray .int, 2) := by decide +kernel
theorem dX5_init_9 : decode prog_7_method_1_code 9 = .ok (.putfield 9, 3) := by decide +kernel
theorem dX5_init_12 : decode prog_7_method_1_code 12 = .ok (.aload_n 0, 1) := by decide +kernel
theorem dX5_init_13 : decode prog_7_method_1_code 13 = .ok (.bipush 8, 2) := by decide +kernel
theorem dX5_init_15 : decode prog_7_method_1_code 15 = .ok (.newarray .int, 2) := by decide +kernel
theorem dX5_init_17 : decode prog_7_method_1_code 17 = .ok (.putfield 15, 3) := by decide +kernel
theorem dX5_init_20 : decode prog_7_method_1_code 20 = .ok (.return_, 1) := by decide +kernel
theorem okM_X5_init : okM mX5_init 0 := ⟨tw90, tw5, by decide, by decide, by decide +kernel⟩
def eX5_init (w : XW) (l0 : Nat) : Option XW :=
  (some (xpush w 6 (xi 0 6 (fun _ => 0)))).bind fun w1 =>
  (pV w1 l0 5 0 (.ref w.1)).bind fun w4 =>
  (some (xpush w4 8 (xi 0 8 (fun _ => 0)))).bind fun w7 =>
  (pV w7 l0 5 1 (.ref w4.1)).bind fun w10 =>
  some w10
theorem EX5_init {K : CX} {l : Launch} {n0 k0 : Nat} {w : XW} {l0 : Nat} {q : XW} (h0 : eX5_init w l0 = some q) : WP K l mX5_init 1 20 n0 k0 none q 0 [some (.ref l0)] [] w := by
  unfold eX5_init at h0
  refine wp_aload_n dX5_init_0 rfl ?_
  refine wp_objI tw91 tw23 twObjCode ⟨(Nat.le_of_ble_eq_true rfl), (Nat.le_of_ble_eq_true rfl)⟩ rfl dX5_init_1 ?_
  refine wp_aload_n dX5_init_4 rfl ?_
  refine wp_bipush (v := (6 : Int32)) dX5_init_5 (by decide) ?_
  obtain ⟨w1, e3, h2⟩ := Option.bind_eq_some_iff.mp h0
  clear h0
  refine wp_newI (N := 6) tw51 dX5_init_7 (by decide) (by decide) (by decide) ?_
  rw [Option.some.inj e3]
  obtain ⟨w4, e6, h5⟩ := Option.bind_eq_some_iff.mp h2
  clear h2
  refine wp_putF okX5 (k := 0) (by decide) rfl rfl rfl tw92 dX5_init_9 rfl rfl e6 ?_
  refine wp_aload_n dX5_init_12 rfl ?_
  refine wp_bipush (v := (8 : Int32)) dX5_init_13 (by decide) ?_
  obtain ⟨w7, e9, h8⟩ := Option.bind_eq_some_iff.mp h5
  clear h5
  refine wp_newI (N := 8) tw51 dX5_init_15 (by decide) (by decide) (by decide) ?_
  rw [Option.some.inj e9]
  obtain ⟨w10, e12, h11⟩ := Option.bind_eq_some_iff.mp h8
  clear h8
  refine wp_putF okX5 (k := 1) (by decide) rfl rfl rfl tw95 dX5_init_17 rfl rfl e12 ?_
  cases h11
  exact wp_vret rfl dX5_init_20
def fX5_init (w : XW) (l0 : Nat) : Option XW := eX5_init w l0
theorem MX5_init {K : CX} {l : Launch} {w : XW} {l0 : Nat} {q : XW} (h : fX5_init w l0 = some q) : MT K l mX5_init 1 20 [.ref l0] w none q := by
  unfold fX5_init at h
  exact MT.of (by decide) (Nat.le_of_ble_eq_true rfl) rfl (EX5_init h)
/-! FractionRun$Past.<init>()V: frames 2, words 40 -/
abbrev mX3_init : MR := (⟨"FractionRun$Past", "<init>", "()V"⟩, prog_5_method_1_code, 2, none)
theorem dX3_init_0 : decode prog_5_method_1_code 0 = .ok (.aload_n 0, 1) := by decide +kernel
theorem dX3_init_1 : decode prog_5_method_1_code 1 = .ok (.invokespecial 3, 3) := by decide +kernel
theorem dX3_init_4 : decode prog_5_method_1_code 4 = .ok (.aload_n 0, 1) := by decide +kernel
theorem dX3_init_5 : decode prog_5_method_1_code 5 = .ok (.bipush 8, 2) := by decide +kernel
theorem dX3_init_7 : decode prog_5_method_1_code 7 = .ok (.anewarray 9, 3) := by decide +kernel
theorem dX3_init_10 : decode prog_5_method_1_code 10 = .ok (.putfield 11, 3) := by decide +kernel
theorem dX3_init_13 : decode prog_5_method_1_code 13 = .ok (.iconst 0, 1) := by decide +kernel
theorem dX3_init_14 : decode prog_5_method_1_code 14 = .ok (.istore_n 1, 1) := by decide +kernel
theorem dX3_init_15 : decode prog_5_method_1_code 15 = .ok (.iload_n 1, 1) := by decide +kernel
theorem dX3_init_16 : decode prog_5_method_1_code 16 = .ok (.bipush 8, 2) := by decide +kernel
theorem dX3_init_18 : decode prog_5_method_1_code 18 = .ok (.if_icmp .ge 22, 3) := by decide +kernel
theorem dX3_init_21 : decode prog_5_method_1_code 21 = .ok (.aload_n 0, 1) := by decide +kernel
theorem dX3_init_22 : decode prog_5_method_1_code 22 = .ok (.getfield 11, 3) := by decide +kernel
theorem dX3_init_25 : decode prog_5_method_1_code 25 = .ok (.iload_n 1, 1) := by decide +kernel
theorem dX3_init_26 : decode prog_5_method_1_code 26 = .ok (.new 9, 3) := by decide +kernel
theorem dX3_init_29 : decode prog_5_method_1_code 29 = .ok (.dup, 1) := by decide +kernel
theorem dX3_init_30 : decode prog_5_method_1_code 30 = .ok (.invokespecial 17, 3) := by decide +kernel
theorem dX3_init_33 : decode prog_5_method_1_code 33 = .ok (.aastore, 1) := by decide +kernel
theorem dX3_init_34 : decode prog_5_method_1_code 34 = .ok (.iinc 1 1, 3) := by decide +kernel
theorem dX3_init_37 : decode prog_5_method_1_code 37 = .ok (.goto (-22), 3) := by decide +kernel
theorem dX3_init_40 : decode prog_5_method_1_code 40 = .ok (.return_, 1) := by decide +kernel
theorem okM_X3_init : okM mX3_init 0 := ⟨tw128, tw6, by decide, by decide, by decide +kernel⟩
abbrev KTX3_init : Type := (XW → Nat → Int32 → Option XW)
def hX3_init_15 (k : KTX3_init) (w : XW) (l0 : Nat) (l1 : Int32) : Option XW :=
  if (8 : Int32) ≤ l1 then
  some w
  else
  (gR w l0 3 0).bind fun x2 =>
  (some (xpush w 7 (xo 5 [.null, .null, .int 0, .int 0, .int 0, .int 0, .int 0]))).bind fun w5 =>
  (fX5_init w5 w.1).bind fun q8 =>
  (sR q8 0 x2 l1 w.1 5).bind fun w11 =>
  k w11 l0 (l1 + (1 : Int32))
theorem HX3_init_15 {K : CX} {l : Launch} {n0 k0 : Nat} {k : KTX3_init} (hk0 : ∀ (w : XW) (l0 : Nat) (l1 : Int32) (q : XW), k w l0 l1 = some q → WP K l mX3_init 2 40 n0 k0 none q 15 [some (.ref l0), some (.int l1)] [] w) {w : XW} {l0 : Nat} {l1 : Int32} {q : XW} (h0 : hX3_init_15 k w l0 l1 = some q) : WP K l mX3_init 2 40 n0 k0 none q 15 [some (.ref l0), some (.int l1)] [] w := by
  unfold hX3_init_15 at h0
  refine wp_iload_n dX3_init_15 rfl ?_
  refine wp_bipush (v := (8 : Int32)) dX3_init_16 (by decide) ?_
  refine wp_icmp_ge (tgt := 40) dX3_init_18 (by decide) (fun c1 => ?_) (fun c1 => ?_)
  · rw [if_pos c1] at h0
    cases h0
    exact wp_vret rfl dX3_init_40
  · rw [if_neg c1] at h0
    refine wp_aload_n dX3_init_21 rfl ?_
    obtain ⟨x2, e4, h3⟩ := Option.bind_eq_some_iff.mp h0
    clear h0
    refine wp_getR okX3 (k := 0) (by decide) tw133 dX3_init_22 e4 ?_
    refine wp_iload_n dX3_init_25 rfl ?_
    obtain ⟨w5, e7, h6⟩ := Option.bind_eq_some_iff.mp h3
    clear h3
    refine wp_new (fs := [.null, .null, .int 0, .int 0, .int 0, .int 0, .int 0]) okX5 tw130 tw87 tw5 dX3_init_26 (by decide +kernel) rfl ?_
    rw [Option.some.inj e7]
    refine wp_dup dX3_init_29 rfl ?_
    obtain ⟨q8, e10, h9⟩ := Option.bind_eq_some_iff.mp h6
    clear h6
    refine wp_callIN (As := []) (S := [.ref w.1, .int l1, .ref x2]) okM_X5_init rfl tw89 rfl (by decide) rfl ⟨(Nat.le_of_ble_eq_true rfl), (Nat.le_of_ble_eq_true rfl)⟩ (Nat.le_of_ble_eq_true rfl) rfl dX3_init_30 (MX5_init e10) ?_
    obtain ⟨w11, e13, h12⟩ := Option.bind_eq_some_iff.mp h9
    clear h9
    refine wp_aast (t := 0) (ec := 5) rfl rfl dX3_init_33 e13 ?_
    refine wp_iinc (v := (l1 + (1 : Int32))) (L1 := [some (.ref l0), some (.int (l1 + (1 : Int32)))]) dX3_init_34 (Nat.le_of_ble_eq_true rfl) rfl (congrArg (fun z => l1 + z) (by decide)) rfl ?_
    refine wp_goto (tgt := 15) dX3_init_37 (by decide) ?_
    exact WP.wk (hk0 _ _ _ _ h12) (And.intro rfl (And.intro rfl trivial))
def eX3_init (k : KTX3_init) (w : XW) (l0 : Nat) : Option XW :=
  (some (xpush w 8 (xr 0 8 (fun _ => none)))).bind fun w1 =>
  (pV w1 l0 3 0 (.ref w.1)).bind fun w4 =>
  k w4 l0 (0 : Int32)
theorem EX3_init {K : CX} {l : Launch} {n0 k0 : Nat} {k : KTX3_init} (hk0 : ∀ (w : XW) (l0 : Nat) (l1 : Int32) (q : XW), k w l0 l1 = some q → WP K l mX3_init 2 40 n0 k0 none q 15 [some (.ref l0), some (.int l1)] [] w) {w : XW} {l0 : Nat} {q : XW} (h0 : eX3_init k w l0 = some q) : WP K l mX3_init 2 40 n0 k0 none q 0 [some (.ref l0), none] [] w := by
  unfold eX3_init at h0
  refine wp_aload_n dX3_init_0 rfl ?_
  refine wp_objI tw129 tw23 twObjCode ⟨(Nat.le_of_ble_eq_true rfl), (Nat.le_of_ble_eq_true rfl)⟩ rfl dX3_init_1 ?_
  refine wp_aload_n dX3_init_4 rfl ?_
  refine wp_bipush (v := (8 : Int32)) dX3_init_5 (by decide) ?_
  obtain ⟨w1, e3, h2⟩ := Option.bind_eq_some_iff.mp h0
  clear h0
  refine wp_newQ (t := 0) (N := 8) rfl (fun U hU => hU.2.2.2.2.1) tw130 dX3_init_7 (by decide) (by decide) (by decide) ?_
  rw [Option.some.inj e3]
  obtain ⟨w4, e6, h5⟩ := Option.bind_eq_some_iff.mp h2
  clear h2
  refine wp_putF okX3 (k := 0) (by decide) rfl rfl rfl tw133 dX3_init_10 rfl rfl e6 ?_
  refine wp_iconst (v := (0 : Int32)) dX3_init_13 (by decide) ?_
  refine wp_istore_n (L1 := [some (.ref l0), some (.int (0 : Int32))]) dX3_init_14 (Nat.le_of_ble_eq_true rfl) rfl ?_
  exact WP.wk (hk0 _ _ _ _ h5) (And.intro rfl (And.intro rfl trivial))
def loX3_init : Nat → KTX3_init
  | 0 => fun _ _ _ => none
  | n + 1 => hX3_init_15 (loX3_init n)
theorem LOX3_init {K : CX} {l : Launch} {n0 k0 : Nat} : ∀ n : Nat, (∀ (w : XW) (l0 : Nat) (l1 : Int32) (q : XW), (loX3_init n) w l0 l1 = some q → WP K l mX3_init 2 40 n0 k0 none q 15 [some (.ref l0), some (.int l1)] [] w) := by
  intro n
  induction n with
  | zero => exact fun _ _ _ q h => (by cases h)
  | succ n ih => exact fun _ _ _ q h => HX3_init_15 ih h
def fX3_init (w : XW) (l0 : Nat) : Option XW := eX3_init (loX3_init FU) w l0
theorem MX3_init {K : CX} {l : Launch} {w : XW} {l0 : Nat} {q : XW} (h : fX3_init w l0 = some q) : MT K l mX3_init 2 40 [.ref l0] w none q := by
  unfold fX3_init at h
  exact MT.of (by decide) (Nat.le_of_ble_eq_true rfl) rfl (EX3_init (LOX3_init FU) h)
/-! FractionRun$Kept.<init>()V: frames 2, words 40 -/
abbrev mX2_init : MR := (⟨"FractionRun$Kept", "<init>", "()V"⟩, prog_4_method_1_code, 2, none)
theorem dX2_init_0 : decode prog_4_method_1_code 0 = .ok (.aload_n 0, 1) := by decide +kernel
theorem dX2_init_1 : decode prog_4_method_1_code 1 = .ok (.invokespecial 3, 3) := by decide +kernel
theorem dX2_init_4 : decode prog_4_method_1_code 4 = .ok (.aload_n 0, 1) := by decide +kernel
theorem dX2_init_5 : decode prog_4_method_1_code 5 = .ok (.iconst 2, 1) := by decide +kernel
theorem dX2_init_6 : decode prog_4_method_1_code 6 = .ok (.anewarray 9, 3) := by decide +kernel
theorem dX2_init_9 : decode prog_4_method_1_code 9 = .ok (.putfield 11, 3) := by decide +kernel
theorem dX2_init_12 : decode prog_4_method_1_code 12 = .ok (.aload_n 0, 1) := by decide +kernel
theorem dX2_init_13 : decode prog_4_method_1_code 13 = .ok (.iconst 2, 1) := by decide +kernel
theorem dX2_init_14 : decode prog_4_method_1_code 14 = .ok (.anewarray 17, 3) := by decide +kernel
theorem dX2_init_17 : decode prog_4_method_1_code 17 = .ok (.putfield 19, 3) := by decide +kernel
theorem dX2_init_20 : decode prog_4_method_1_code 20 = .ok (.iconst 0, 1) := by decide +kernel
theorem dX2_init_21 : decode prog_4_method_1_code 21 = .ok (.istore_n 1, 1) := by decide +kernel
theorem dX2_init_22 : decode prog_4_method_1_code 22 = .ok (.iload_n 1, 1) := by decide +kernel
theorem dX2_init_23 : decode prog_4_method_1_code 23 = .ok (.iconst 2, 1) := by decide +kernel
theorem dX2_init_24 : decode prog_4_method_1_code 24 = .ok (.if_icmp .ge 35, 3) := by decide +kernel
theorem dX2_init_27 : decode prog_4_method_1_code 27 = .ok (.aload_n 0, 1) := by decide +kernel
theorem dX2_init_28 : decode prog_4_method_1_code 28 = .ok (.getfield 11, 3) := by decide +kernel
theorem dX2_init_31 : decode prog_4_method_1_code 31 = .ok (.iload_n 1, 1) := by decide +kernel
theorem dX2_init_32 : decode prog_4_method_1_code 32 = .ok (.new 9, 3) := by decide +kernel
theorem dX2_init_35 : decode prog_4_method_1_code 35 = .ok (.dup, 1) := by decide +kernel
theorem dX2_init_36 : decode prog_4_method_1_code 36 = .ok (.invokespecial 23, 3) := by decide +kernel
theorem dX2_init_39 : decode prog_4_method_1_code 39 = .ok (.aastore, 1) := by decide +kernel
theorem dX2_init_40 : decode prog_4_method_1_code 40 = .ok (.aload_n 0, 1) := by decide +kernel
theorem dX2_init_41 : decode prog_4_method_1_code 41 = .ok (.getfield 19, 3) := by decide +kernel
theorem dX2_init_44 : decode prog_4_method_1_code 44 = .ok (.iload_n 1, 1) := by decide +kernel
theorem dX2_init_45 : decode prog_4_method_1_code 45 = .ok (.new 17, 3) := by decide +kernel
theorem dX2_init_48 : decode prog_4_method_1_code 48 = .ok (.dup, 1) := by decide +kernel
theorem dX2_init_49 : decode prog_4_method_1_code 49 = .ok (.invokespecial 24, 3) := by decide +kernel
theorem dX2_init_52 : decode prog_4_method_1_code 52 = .ok (.aastore, 1) := by decide +kernel
theorem dX2_init_53 : decode prog_4_method_1_code 53 = .ok (.iinc 1 1, 3) := by decide +kernel
theorem dX2_init_56 : decode prog_4_method_1_code 56 = .ok (.goto (-34), 3) := by decide +kernel
theorem dX2_init_59 : decode prog_4_method_1_code 59 = .ok (.return_, 1) := by decide +kernel
theorem okM_X2_init : okM mX2_init 0 := ⟨tw148, tw7, by decide, by decide, by decide +kernel⟩
abbrev KTX2_init : Type := (XW → Nat → Int32 → Option XW)
def hX2_init_22 (k : KTX2_init) (w : XW) (l0 : Nat) (l1 : Int32) : Option XW :=
  if (2 : Int32) ≤ l1 then
  some w
  else
  (gR w l0 2 0).bind fun x2 =>
  (some (xpush w 7 (xo 5 [.null, .null, .int 0, .int 0, .int 0, .int 0, .int 0]))).bind fun w5 =>
  (fX5_init w5 w.1).bind fun q8 =>
  (sR q8 0 x2 l1 w.1 5).bind fun w11 =>
  (gR w11 l0 2 1).bind fun x14 =>
  (some (xpush w11 2 (xo 6 [.null, .int 0]))).bind fun w17 =>
  (fX6_init w17 w11.1).bind fun q20 =>
  (sR q20 1 x14 l1 w11.1 6).bind fun w23 =>
  k w23 l0 (l1 + (1 : Int32))
theorem HX2_init_22 {K : CX} {l : Launch} {n0 k0 : Nat} {k : KTX2_init} (hk0 : ∀ (w : XW) (l0 : Nat) (l1 : Int32) (q : XW), k w l0 l1 = some q → WP K l mX2_init 2 40 n0 k0 none q 22 [some (.ref l0), some (.int l1)] [] w) {w : XW} {l0 : Nat} {l1 : Int32} {q : XW} (h0 : hX2_init_22 k w l0 l1 = some q) : WP K l mX2_init 2 40 n0 k0 none q 22 [some (.ref l0), some (.int l1)] [] w := by
  unfold hX2_init_22 at h0
  refine wp_iload_n dX2_init_22 rfl ?_
  refine wp_iconst (v := (2 : Int32)) dX2_init_23 (by decide) ?_
  refine wp_icmp_ge (tgt := 59) dX2_init_24 (by decide) (fun c1 => ?_) (fun c1 => ?_)
  · rw [if_pos c1] at h0
    cases h0
    exact wp_vret rfl dX2_init_59
  · rw [if_neg c1] at h0
    refine wp_aload_n dX2_init_27 rfl ?_
    obtain ⟨x2, e4, h3⟩ := Option.bind_eq_some_iff.mp h0
    clear h0
    refine wp_getR okX2 (k := 0) (by decide) tw155 dX2_init_28 e4 ?_
    refine wp_iload_n dX2_init_31 rfl ?_
    obtain ⟨w5, e7, h6⟩ := Option.bind_eq_some_iff.mp h3
    clear h3
    refine wp_new (fs := [.null, .null, .int 0, .int 0, .int 0, .int 0, .int 0]) okX5 tw150 tw87 tw5 dX2_init_32 (by decide +kernel) rfl ?_
    rw [Option.some.inj e7]
    refine wp_dup dX2_init_35 rfl ?_
    obtain ⟨q8, e10, h9⟩ := Option.bind_eq_some_iff.mp h6
    clear h6
    refine wp_callIN (As := []) (S := [.ref w.1, .int l1, .ref x2]) okM_X5_init rfl tw89 rfl (by decide) rfl ⟨(Nat.le_of_ble_eq_true rfl), (Nat.le_of_ble_eq_true rfl)⟩ (Nat.le_of_ble_eq_true rfl) rfl dX2_init_36 (MX5_init e10) ?_
    obtain ⟨w11, e13, h12⟩ := Option.bind_eq_some_iff.mp h9
    clear h9
    refine wp_aast (t := 0) (ec := 5) rfl rfl dX2_init_39 e13 ?_
    refine wp_aload_n dX2_init_40 rfl ?_
    obtain ⟨x14, e16, h15⟩ := Option.bind_eq_some_iff.mp h12
    clear h12
    refine wp_getR okX2 (k := 1) (by decide) tw156 dX2_init_41 e16 ?_
    refine wp_iload_n dX2_init_44 rfl ?_
    obtain ⟨w17, e19, h18⟩ := Option.bind_eq_some_iff.mp h15
    clear h15
    refine wp_new (fs := [.null, .int 0]) okX6 tw151 tw26 tw2 dX2_init_45 (by decide +kernel) rfl ?_
    rw [Option.some.inj e19]
    refine wp_dup dX2_init_48 rfl ?_
    obtain ⟨q20, e22, h21⟩ := Option.bind_eq_some_iff.mp h18
    clear h18
    refine wp_callIN (As := []) (S := [.ref w11.1, .int l1, .ref x14]) okM_X6_init rfl tw28 rfl (by decide) rfl ⟨(Nat.le_of_ble_eq_true rfl), (Nat.le_of_ble_eq_true rfl)⟩ (Nat.le_of_ble_eq_true rfl) rfl dX2_init_49 (MX6_init e22) ?_
    obtain ⟨w23, e25, h24⟩ := Option.bind_eq_some_iff.mp h21
    clear h21
    refine wp_aast (t := 1) (ec := 6) rfl rfl dX2_init_52 e25 ?_
    refine wp_iinc (v := (l1 + (1 : Int32))) (L1 := [some (.ref l0), some (.int (l1 + (1 : Int32)))]) dX2_init_53 (Nat.le_of_ble_eq_true rfl) rfl (congrArg (fun z => l1 + z) (by decide)) rfl ?_
    refine wp_goto (tgt := 22) dX2_init_56 (by decide) ?_
    exact WP.wk (hk0 _ _ _ _ h24) (And.intro rfl (And.intro rfl trivial))
def eX2_init (k : KTX2_init) (w : XW) (l0 : Nat) : Option XW :=
  (some (xpush w 2 (xr 0 2 (fun _ => none)))).bind fun w1 =>
  (pV w1 l0 2 0 (.ref w.1)).bind fun w4 =>
  (some (xpush w4 2 (xr 1 2 (fun _ => none)))).bind fun w7 =>
  (pV w7 l0 2 1 (.ref w4.1)).bind fun w10 =>
  k w10 l0 (0 : Int32)
theorem EX2_init {K : CX} {l : Launch} {n0 k0 : Nat} {k : KTX2_init} (hk0 : ∀ (w : XW) (l0 : Nat) (l1 : Int32) (q : XW), k w l0 l1 = some q → WP K l mX2_init 2 40 n0 k0 none q 22 [some (.ref l0), some (.int l1)] [] w) {w : XW} {l0 : Nat} {q : XW} (h0 : eX2_init k w l0 = some q) : WP K l mX2_init 2 40 n0 k0 none q 0 [some (.ref l0), none] [] w := by
  unfold eX2_init at h0
  refine wp_aload_n dX2_init_0 rfl ?_
  refine wp_objI tw149 tw23 twObjCode ⟨(Nat.le_of_ble_eq_true rfl), (Nat.le_of_ble_eq_true rfl)⟩ rfl dX2_init_1 ?_
  refine wp_aload_n dX2_init_4 rfl ?_
  refine wp_iconst (v := (2 : Int32)) dX2_init_5 (by decide) ?_
  obtain ⟨w1, e3, h2⟩ := Option.bind_eq_some_iff.mp h0
  clear h0
  refine wp_newQ (t := 0) (N := 2) rfl (fun U hU => hU.2.2.2.2.1) tw150 dX2_init_6 (by decide) (by decide) (by decide) ?_
  rw [Option.some.inj e3]
  obtain ⟨w4, e6, h5⟩ := Option.bind_eq_some_iff.mp h2
  clear h2
  refine wp_putF okX2 (k := 0) (by decide) rfl rfl rfl tw155 dX2_init_9 rfl rfl e6 ?_
  refine wp_aload_n dX2_init_12 rfl ?_
  refine wp_iconst (v := (2 : Int32)) dX2_init_13 (by decide) ?_
  obtain ⟨w7, e9, h8⟩ := Option.bind_eq_some_iff.mp h5
  clear h5
  refine wp_newQ (t := 1) (N := 2) rfl (fun U hU => hU.2.2.2.2.2.1) tw151 dX2_init_14 (by decide) (by decide) (by decide) ?_
  rw [Option.some.inj e9]
  obtain ⟨w10, e12, h11⟩ := Option.bind_eq_some_iff.mp h8
  clear h8
  refine wp_putF okX2 (k := 1) (by decide) rfl rfl rfl tw156 dX2_init_17 rfl rfl e12 ?_
  refine wp_iconst (v := (0 : Int32)) dX2_init_20 (by decide) ?_
  refine wp_istore_n (L1 := [some (.ref l0), some (.int (0 : Int32))]) dX2_init_21 (Nat.le_of_ble_eq_true rfl) rfl ?_
  exact WP.wk (hk0 _ _ _ _ h11) (And.intro rfl (And.intro rfl trivial))
def loX2_init : Nat → KTX2_init
  | 0 => fun _ _ _ => none
  | n + 1 => hX2_init_22 (loX2_init n)
theorem LOX2_init {K : CX} {l : Launch} {n0 k0 : Nat} : ∀ n : Nat, (∀ (w : XW) (l0 : Nat) (l1 : Int32) (q : XW), (loX2_init n) w l0 l1 = some q → WP K l mX2_init 2 40 n0 k0 none q 22 [some (.ref l0), some (.int l1)] [] w) := by
  intro n
  induction n with
  | zero => exact fun _ _ _ q h => (by cases h)
  | succ n ih => exact fun _ _ _ q h => HX2_init_22 ih h
def fX2_init (w : XW) (l0 : Nat) : Option XW := eX2_init (loX2_init FU) w l0
theorem MX2_init {K : CX} {l : Launch} {w : XW} {l0 : Nat} {q : XW} (h : fX2_init w l0 = some q) : MT K l mX2_init 2 40 [.ref l0] w none q := by
  unfold fX2_init at h
  exact MT.of (by decide) (Nat.le_of_ble_eq_true rfl) rfl (EX2_init (LOX2_init FU) h)
/-! FractionRun$Course.<init>()V: frames 1, words 20 -/
abbrev mX0_init : MR := (⟨"FractionRun$Course", "<init>", "()V"⟩, prog_2_method_1_code, 1, none)
theorem dX0_init_0 : decode prog_2_method_1_code 0 = .ok (.aload_n 0, 1) := by decide +kernel
theorem dX0_init_1 : decode prog_2_method_1_code 1 = .ok (.invokespecial 3, 3) := by decide +kernel
theorem dX0_init_4 : decode prog_2_method_1_code 4 = .ok (.aload_n 0, 1) := by decide +kernel
theorem dX0_init_5 : decode prog_2_method_1_code 5 = .ok (.sipush 201, 3) := by decide +kernel
theorem dX0_init_8 : decode prog_2_method_1_code 8 = .ok (.newarray .long, 2) := by decide +kernel
theorem dX0_init_10 : decode prog_2_method_1_code 10 = .ok (.putfield 9, 3) := by decide +kernel
theorem dX0_init_13 : decode prog_2_method_1_code 13 = .ok (.aload_n 0, 1) := by decide +kernel
theorem dX0_init_14 : decode prog_2_method_1_code 14 = .ok (.sipush 201, 3) := by decide +kernel
theorem dX0_init_17 : decode prog_2_method_1_code 17 = .ok (.newarray .int, 2) := by decide +kernel
theorem dX0_init_19 : decode prog_2_method_1_code 19 = .ok (.putfield 15, 3) := by decide +kernel
theorem dX0_init_22 : decode prog_2_method_1_code 22 = .ok (.return_, 1) := by decide +kernel
theorem okM_X0_init : okM mX0_init 0 := ⟨tw170, tw8, by decide, by decide, by decide +kernel⟩
def eX0_init (w : XW) (l0 : Nat) : Option XW :=
  (some (xpush w 201 (xl 201 (fun _ => 0)))).bind fun w1 =>
  (pV w1 l0 0 0 (.ref w.1)).bind fun w4 =>
  (some (xpush w4 201 (xi 0 201 (fun _ => 0)))).bind fun w7 =>
  (pV w7 l0 0 1 (.ref w4.1)).bind fun w10 =>
  some w10
theorem EX0_init {K : CX} {l : Launch} {n0 k0 : Nat} {w : XW} {l0 : Nat} {q : XW} (h0 : eX0_init w l0 = some q) : WP K l mX0_init 1 20 n0 k0 none q 0 [some (.ref l0)] [] w := by
  unfold eX0_init at h0
  refine wp_aload_n dX0_init_0 rfl ?_
  refine wp_objI tw171 tw23 twObjCode ⟨(Nat.le_of_ble_eq_true rfl), (Nat.le_of_ble_eq_true rfl)⟩ rfl dX0_init_1 ?_
  refine wp_aload_n dX0_init_4 rfl ?_
  refine wp_sipush (v := (201 : Int32)) dX0_init_5 (by decide) ?_
  obtain ⟨w1, e3, h2⟩ := Option.bind_eq_some_iff.mp h0
  clear h0
  refine wp_newJ (N := 201) tw179 dX0_init_8 (by decide) (by decide) (by decide) ?_
  rw [Option.some.inj e3]
  obtain ⟨w4, e6, h5⟩ := Option.bind_eq_some_iff.mp h2
  clear h2
  refine wp_putF okX0 (k := 0) (by decide) rfl rfl rfl tw172 dX0_init_10 rfl rfl e6 ?_
  refine wp_aload_n dX0_init_13 rfl ?_
  refine wp_sipush (v := (201 : Int32)) dX0_init_14 (by decide) ?_
  obtain ⟨w7, e9, h8⟩ := Option.bind_eq_some_iff.mp h5
  clear h5
  refine wp_newI (N := 201) tw51 dX0_init_17 (by decide) (by decide) (by decide) ?_
  rw [Option.some.inj e9]
  obtain ⟨w10, e12, h11⟩ := Option.bind_eq_some_iff.mp h8
  clear h8
  refine wp_putF okX0 (k := 1) (by decide) rfl rfl rfl tw173 dX0_init_19 rfl rfl e12 ?_
  cases h11
  exact wp_vret rfl dX0_init_22
def fX0_init (w : XW) (l0 : Nat) : Option XW := eX0_init w l0
theorem MX0_init {K : CX} {l : Launch} {w : XW} {l0 : Nat} {q : XW} (h : fX0_init w l0 = some q) : MT K l mX0_init 1 20 [.ref l0] w none q := by
  unfold fX0_init at h
  exact MT.of (by decide) (Nat.le_of_ble_eq_true rfl) rfl (EX0_init h)
/-! java/lang/String.coder()B: frames 1, words 20 -/
abbrev mJ0_coder_7d493 : MR := (⟨"java/lang/String", "coder", "()B"⟩, prog_13_method_152_code, 1, (some .byte))
theorem dJ0_coder_7d493_0 : decode prog_13_method_152_code 0 = .ok (.getstatic 38, 3) := by decide +kernel
theorem dJ0_coder_7d493_3 : decode prog_13_method_152_code 3 = .ok (.ifCond .eq 10, 3) := by decide +kernel
theorem dJ0_coder_7d493_6 : decode prog_13_method_152_code 6 = .ok (.aload_n 0, 1) := by decide +kernel
theorem dJ0_coder_7d493_7 : decode prog_13_method_152_code 7 = .ok (.getfield 15, 3) := by decide +kernel
theorem dJ0_coder_7d493_10 : decode prog_13_method_152_code 10 = .ok (.goto 4, 3) := by decide +kernel
theorem dJ0_coder_7d493_13 : decode prog_13_method_152_code 13 = .ok (.iconst 1, 1) := by decide +kernel
theorem dJ0_coder_7d493_14 : decode prog_13_method_152_code 14 = .ok (.ireturn, 1) := by decide +kernel
theorem okM_J0_coder_7d493 : okM mJ0_coder_7d493 0 := ⟨tw188, tw9, by decide, by decide, by decide +kernel⟩
def bJ0_coder_7d493_14 (w : XW) (s0 : Int32) : Option (Int32 × XW) :=
  if vp_nar .byte s0 = s0 then some (s0, w) else none
theorem BJ0_coder_7d493_14 {K : CX} {l : Launch} {n0 k0 : Nat} {w : XW} {s0 : Int32} {q : Int32 × XW} (h0 : bJ0_coder_7d493_14 w s0 = some q) : WP K l mJ0_coder_7d493 1 20 n0 k0 (some (.int q.1)) q.2 14 [none] [.int s0] w := by
  unfold bJ0_coder_7d493_14 at h0
  have c1 : vp_nar .byte s0 = s0 := Decidable.byContradiction fun z => by rw [if_neg z] at h0; cases h0
  rw [if_pos c1] at h0
  cases h0
  exact wp_zret rfl (nb_n c1) dJ0_coder_7d493_14
def eJ0_coder_7d493 (w : XW) : Option (Int32 × XW) :=
  if (1 : Int32) = 0 then
  bJ0_coder_7d493_14 w (1 : Int32)
  else
  bJ0_coder_7d493_14 w (0 : Int32)
theorem EJ0_coder_7d493 {K : CX} {l : Launch} {n0 k0 : Nat} {w : XW} {q : Int32 × XW} (h0 : eJ0_coder_7d493 w = some q) : WP K l mJ0_coder_7d493 1 20 n0 k0 (some (.int q.1)) q.2 0 [some (.float 2)] [] w := by
  unfold eJ0_coder_7d493 at h0
  refine wp_gets (v := .int 1) (fun U hU => hU.2.2.2.2.2.2.2.2.2.2.2.1) tw189 dJ0_coder_7d493_0 ?_
  refine wp_if_eq (tgt := 13) dJ0_coder_7d493_3 (by decide) (fun c1 => ?_) (fun c1 => ?_)
  · rw [if_pos c1] at h0
    refine wp_iconst (v := (1 : Int32)) dJ0_coder_7d493_13 (by decide) ?_
    exact WP.wk (BJ0_coder_7d493_14 h0) trivial
  · rw [if_neg c1] at h0
    refine wp_xload_n dJ0_coder_7d493_6 rfl ?_
    refine wp_xcoder tw1057 dJ0_coder_7d493_7 ?_
    refine wp_goto (tgt := 14) dJ0_coder_7d493_10 (by decide) ?_
    exact WP.wk (BJ0_coder_7d493_14 h0) trivial
def fJ0_coder_7d493 (w : XW) : Option (Int32 × XW) := eJ0_coder_7d493 w
theorem MJ0_coder_7d493 {K : CX} {l : Launch} {w : XW} {q : Int32 × XW} (h : fJ0_coder_7d493 w = some q) : MT K l mJ0_coder_7d493 1 20 [.float 2] w (some (.int q.1)) q.2 := by
  unfold fJ0_coder_7d493 at h
  exact MT.of (by decide) (Nat.le_of_ble_eq_true rfl) rfl (EJ0_coder_7d493 h)
/-! java/lang/String.length()I: frames 2, words 40 -/
abbrev mJ0_length_8abf5 : MR := (⟨"java/lang/String", "length", "()I"⟩, prog_13_method_54_code, 1, (some .int))
theorem dJ0_length_8abf5_0 : decode prog_13_method_54_code 0 = .ok (.aload_n 0, 1) := by decide +kernel
theorem dJ0_length_8abf5_1 : decode prog_13_method_54_code 1 = .ok (.getfield 9, 3) := by decide +kernel
theorem dJ0_length_8abf5_4 : decode prog_13_method_54_code 4 = .ok (.arraylength, 1) := by decide +kernel
theorem dJ0_length_8abf5_5 : decode prog_13_method_54_code 5 = .ok (.aload_n 0, 1) := by decide +kernel
theorem dJ0_length_8abf5_6 : decode prog_13_method_54_code 6 = .ok (.invokevirtual 335, 3) := by decide +kernel
theorem dJ0_length_8abf5_9 : decode prog_13_method_54_code 9 = .ok (.ishr, 1) := by decide +kernel
theorem dJ0_length_8abf5_10 : decode prog_13_method_54_code 10 = .ok (.ireturn, 1) := by decide +kernel
theorem okM_J0_length_8abf5 : okM mJ0_length_8abf5 0 := ⟨tw184, tw9, by decide, by decide, by decide +kernel⟩
def eJ0_length_8abf5 (w : XW) : Option (Int32 × XW) :=
  (fJ0_coder_7d493 w).bind fun q1 =>
  some (((53 : Int32) >>> (q1.1 &&& 31)), q1.2)
theorem EJ0_length_8abf5 {K : CX} {l : Launch} {n0 k0 : Nat} {w : XW} {q : Int32 × XW} (h0 : eJ0_length_8abf5 w = some q) : WP K l mJ0_length_8abf5 2 40 n0 k0 (some (.int q.1)) q.2 0 [some (.float 2)] [] w := by
  unfold eJ0_length_8abf5 at h0
  refine wp_xload_n dJ0_length_8abf5_0 rfl ?_
  refine wp_xvalue tw1056 dJ0_length_8abf5_1 ?_
  refine wp_xlen (v := 53) (by decide) dJ0_length_8abf5_4 ?_
  refine wp_xload_n dJ0_length_8abf5_5 rfl ?_
  obtain ⟨q1, e3, h2⟩ := Option.bind_eq_some_iff.mp h0
  clear h0
  refine wp_Xi (As := []) (S := [.int (53 : Int32)]) okM_J0_coder_7d493 rfl tw186 tw187 tw185 rfl ⟨(Nat.le_of_ble_eq_true rfl), (Nat.le_of_ble_eq_true rfl)⟩ (Nat.le_of_ble_eq_true rfl) rfl dJ0_length_8abf5_6 (MJ0_coder_7d493 e3) ?_
  refine wp_ishr dJ0_length_8abf5_9 ?_
  cases h2
  exact wp_iret rfl dJ0_length_8abf5_10
def fJ0_length_8abf5 (w : XW) : Option (Int32 × XW) := eJ0_length_8abf5 w
theorem MJ0_length_8abf5 {K : CX} {l : Launch} {w : XW} {q : Int32 × XW} (h : fJ0_length_8abf5 w = some q) : MT K l mJ0_length_8abf5 2 40 [.float 2] w (some (.int q.1)) q.2 := by
  unfold fJ0_length_8abf5 at h
  exact MT.of (by decide) (Nat.le_of_ble_eq_true rfl) rfl (EJ0_length_8abf5 h)
/-! FractionRun$Fractions.powerIn(II)I: frames 1, words 20 -/
abbrev mX1_powerIn : MR := (⟨"FractionRun$Fractions", "powerIn", "(II)I"⟩, prog_3_method_7_code, 5, (some .int))
theorem dX1_powerIn_0 : decode prog_3_method_7_code 0 = .ok (.iload_n 0, 1) := by decide +kernel
theorem dX1_powerIn_1 : decode prog_3_method_7_code 1 = .ok (.istore_n 2, 1) := by decide +kernel
theorem dX1_powerIn_2 : decode prog_3_method_7_code 2 = .ok (.iconst 0, 1) := by decide +kernel
theorem dX1_powerIn_3 : decode prog_3_method_7_code 3 = .ok (.istore_n 3, 1) := by decide +kernel
theorem dX1_powerIn_4 : decode prog_3_method_7_code 4 = .ok (.iconst 0, 1) := by decide +kernel
theorem dX1_powerIn_5 : decode prog_3_method_7_code 5 = .ok (.istore 4, 2) := by decide +kernel
theorem dX1_powerIn_7 : decode prog_3_method_7_code 7 = .ok (.iload 4, 2) := by decide +kernel
theorem dX1_powerIn_9 : decode prog_3_method_7_code 9 = .ok (.bipush 10, 2) := by decide +kernel
theorem dX1_powerIn_11 : decode prog_3_method_7_code 11 = .ok (.if_icmp .ge 30, 3) := by decide +kernel
theorem dX1_powerIn_14 : decode prog_3_method_7_code 14 = .ok (.iload_n 2, 1) := by decide +kernel
theorem dX1_powerIn_15 : decode prog_3_method_7_code 15 = .ok (.getstatic 51, 3) := by decide +kernel
theorem dX1_powerIn_18 : decode prog_3_method_7_code 18 = .ok (.iload_n 1, 1) := by decide +kernel
theorem dX1_powerIn_19 : decode prog_3_method_7_code 19 = .ok (.iaload, 1) := by decide +kernel
theorem dX1_powerIn_20 : decode prog_3_method_7_code 20 = .ok (.irem, 1) := by decide +kernel
theorem dX1_powerIn_21 : decode prog_3_method_7_code 21 = .ok (.ifCond .ne 20, 3) := by decide +kernel
theorem dX1_powerIn_24 : decode prog_3_method_7_code 24 = .ok (.iload_n 2, 1) := by decide +kernel
theorem dX1_powerIn_25 : decode prog_3_method_7_code 25 = .ok (.getstatic 51, 3) := by decide +kernel
theorem dX1_powerIn_28 : decode prog_3_method_7_code 28 = .ok (.iload_n 1, 1) := by decide +kernel
theorem dX1_powerIn_29 : decode prog_3_method_7_code 29 = .ok (.iaload, 1) := by decide +kernel
theorem dX1_powerIn_30 : decode prog_3_method_7_code 30 = .ok (.idiv, 1) := by decide +kernel
theorem dX1_powerIn_31 : decode prog_3_method_7_code 31 = .ok (.istore_n 2, 1) := by decide +kernel
theorem dX1_powerIn_32 : decode prog_3_method_7_code 32 = .ok (.iinc 3 1, 3) := by decide +kernel
theorem dX1_powerIn_35 : decode prog_3_method_7_code 35 = .ok (.iinc 4 1, 3) := by decide +kernel
theorem dX1_powerIn_38 : decode prog_3_method_7_code 38 = .ok (.goto (-31), 3) := by decide +kernel
theorem dX1_powerIn_41 : decode prog_3_method_7_code 41 = .ok (.iload_n 3, 1) := by decide +kernel
theorem dX1_powerIn_42 : decode prog_3_method_7_code 42 = .ok (.ireturn, 1) := by decide +kernel
theorem okM_X1_powerIn : okM mX1_powerIn 2 := ⟨tw250, tw4, by decide, by decide, by decide +kernel⟩
abbrev KTX1_powerIn : Type := (XW → Int32 → Int32 → Int32 → Int32 → Option (Int32 × XW))
def bX1_powerIn_41 (k : KTX1_powerIn) (w : XW) (l3 : Int32) : Option (Int32 × XW) :=
  some (l3, w)
theorem BX1_powerIn_41 {K : CX} {l : Launch} {n0 k0 : Nat} {k : KTX1_powerIn} (hk0 : ∀ (w : XW) (l1 : Int32) (l2 : Int32) (l3 : Int32) (l4 : Int32) (q : Int32 × XW), k w l1 l2 l3 l4 = some q → WP K l mX1_powerIn 1 20 n0 k0 (some (.int q.1)) q.2 7 [none, some (.int l1), some (.int l2), some (.int l3), some (.int l4)] [] w) {w : XW} {l3 : Int32} {q : Int32 × XW} (h0 : bX1_powerIn_41 k w l3 = some q) : WP K l mX1_powerIn 1 20 n0 k0 (some (.int q.1)) q.2 41 [none, none, none, some (.int l3), none] [] w := by
  unfold bX1_powerIn_41 at h0
  refine wp_iload_n dX1_powerIn_41 rfl ?_
  cases h0
  exact wp_iret rfl dX1_powerIn_42
def hX1_powerIn_7 (k : KTX1_powerIn) (w : XW) (l1 : Int32) (l2 : Int32) (l3 : Int32) (l4 : Int32) : Option (Int32 × XW) :=
  if (10 : Int32) ≤ l4 then
  bX1_powerIn_41 k w l3
  else
  (pI l1).bind fun x2 =>
  if x2 = 0 then none else
  if (irm l2 x2) = 0 then
  (pI l1).bind fun x8 =>
  if x8 = 0 then none else
  k w l1 (l2 / x8) (l3 + (1 : Int32)) (l4 + (1 : Int32))
  else
  bX1_powerIn_41 k w l3
theorem HX1_powerIn_7 {K : CX} {l : Launch} {n0 k0 : Nat} {k : KTX1_powerIn} (hk0 : ∀ (w : XW) (l1 : Int32) (l2 : Int32) (l3 : Int32) (l4 : Int32) (q : Int32 × XW), k w l1 l2 l3 l4 = some q → WP K l mX1_powerIn 1 20 n0 k0 (some (.int q.1)) q.2 7 [none, some (.int l1), some (.int l2), some (.int l3), some (.int l4)] [] w) {w : XW} {l1 : Int32} {l2 : Int32} {l3 : Int32} {l4 : Int32} {q : Int32 × XW} (h0 : hX1_powerIn_7 k w l1 l2 l3 l4 = some q) : WP K l mX1_powerIn 1 20 n0 k0 (some (.int q.1)) q.2 7 [none, some (.int l1), some (.int l2), some (.int l3), some (.int l4)] [] w := by
  unfold hX1_powerIn_7 at h0
  refine wp_iload dX1_powerIn_7 rfl ?_
  refine wp_bipush (v := (10 : Int32)) dX1_powerIn_9 (by decide) ?_
  refine wp_icmp_ge (tgt := 41) dX1_powerIn_11 (by decide) (fun c1 => ?_) (fun c1 => ?_)
  · rw [if_pos c1] at h0
    exact WP.wk (BX1_powerIn_41 hk0 h0) (And.intro rfl trivial)
  · rw [if_neg c1] at h0
    refine wp_iload_n dX1_powerIn_14 rfl ?_
    refine wp_primesN rfl dX1_powerIn_15 ?_
    refine wp_iload_n dX1_powerIn_18 rfl ?_
    obtain ⟨x2, e4, h3⟩ := Option.bind_eq_some_iff.mp h0
    clear h0
    refine wp_pald dX1_powerIn_19 e4 ?_
    have c5 : ¬ x2 = 0 := by intro z; rw [if_pos z] at h3; cases h3
    rw [if_neg c5] at h3
    have h6 := h3; clear h3
    refine wp_irm dX1_powerIn_20 c5 ?_
    refine wp_if_ne (tgt := 41) dX1_powerIn_21 (by decide) (fun c7 => ?_) (fun c7 => ?_)
    · rw [if_neg c7] at h6
      exact WP.wk (BX1_powerIn_41 hk0 h6) (And.intro rfl trivial)
    · rw [if_pos c7] at h6
      refine wp_iload_n dX1_powerIn_24 rfl ?_
      refine wp_primesN rfl dX1_powerIn_25 ?_
      refine wp_iload_n dX1_powerIn_28 rfl ?_
      obtain ⟨x8, e10, h9⟩ := Option.bind_eq_some_iff.mp h6
      clear h6
      refine wp_pald dX1_powerIn_29 e10 ?_
      have c11 : ¬ x8 = 0 := by intro z; rw [if_pos z] at h9; cases h9
      rw [if_neg c11] at h9
      have h12 := h9; clear h9
      refine wp_idiv dX1_powerIn_30 c11 ?_
      refine wp_istore_n (L1 := [none, some (.int l1), some (.int (l2 / x8)), some (.int l3), some (.int l4)]) dX1_powerIn_31 (Nat.le_of_ble_eq_true rfl) rfl ?_
      refine wp_iinc (v := (l3 + (1 : Int32))) (L1 := [none, some (.int l1), some (.int (l2 / x8)), some (.int (l3 + (1 : Int32))), some (.int l4)]) dX1_powerIn_32 (Nat.le_of_ble_eq_true rfl) rfl (congrArg (fun z => l3 + z) (by decide)) rfl ?_
      refine wp_iinc (v := (l4 + (1 : Int32))) (L1 := [none, some (.int l1), some (.int (l2 / x8)), some (.int (l3 + (1 : Int32))), some (.int (l4 + (1 : Int32)))]) dX1_powerIn_35 (Nat.le_of_ble_eq_true rfl) rfl (congrArg (fun z => l4 + z) (by decide)) rfl ?_
      refine wp_goto (tgt := 7) dX1_powerIn_38 (by decide) ?_
      exact WP.wk (hk0 _ _ _ _ _ _ h12) (And.intro rfl (And.intro rfl (And.intro rfl (And.intro rfl trivial))))
def eX1_powerIn (k : KTX1_powerIn) (w : XW) (l0 : Int32) (l1 : Int32) : Option (Int32 × XW) :=
  k w l1 l0 (0 : Int32) (0 : Int32)
theorem EX1_powerIn {K : CX} {l : Launch} {n0 k0 : Nat} {k : KTX1_powerIn} (hk0 : ∀ (w : XW) (l1 : Int32) (l2 : Int32) (l3 : Int32) (l4 : Int32) (q : Int32 × XW), k w l1 l2 l3 l4 = some q → WP K l mX1_powerIn 1 20 n0 k0 (some (.int q.1)) q.2 7 [none, some (.int l1), some (.int l2), some (.int l3), some (.int l4)] [] w) {w : XW} {l0 : Int32} {l1 : Int32} {q : Int32 × XW} (h0 : eX1_powerIn k w l0 l1 = some q) : WP K l mX1_powerIn 1 20 n0 k0 (some (.int q.1)) q.2 0 [some (.int l0), some (.int l1), none, none, none] [] w := by
  unfold eX1_powerIn at h0
  refine wp_iload_n dX1_powerIn_0 rfl ?_
  refine wp_istore_n (L1 := [some (.int l0), some (.int l1), some (.int l0), none, none]) dX1_powerIn_1 (Nat.le_of_ble_eq_true rfl) rfl ?_
  refine wp_iconst (v := (0 : Int32)) dX1_powerIn_2 (by decide) ?_
  refine wp_istore_n (L1 := [some (.int l0), some (.int l1), some (.int l0), some (.int (0 : Int32)), none]) dX1_powerIn_3 (Nat.le_of_ble_eq_true rfl) rfl ?_
  refine wp_iconst (v := (0 : Int32)) dX1_powerIn_4 (by decide) ?_
  refine wp_istore (L1 := [some (.int l0), some (.int l1), some (.int l0), some (.int (0 : Int32)), some (.int (0 : Int32))]) dX1_powerIn_5 (Nat.le_of_ble_eq_true rfl) rfl ?_
  exact WP.wk (hk0 _ _ _ _ _ _ h0) (And.intro rfl (And.intro rfl (And.intro rfl (And.intro rfl trivial))))
def loX1_powerIn : Nat → KTX1_powerIn
  | 0 => fun _ _ _ _ _ => none
  | n + 1 => hX1_powerIn_7 (loX1_powerIn n)
theorem LOX1_powerIn {K : CX} {l : Launch} {n0 k0 : Nat} : ∀ n : Nat, (∀ (w : XW) (l1 : Int32) (l2 : Int32) (l3 : Int32) (l4 : Int32) (q : Int32 × XW), (loX1_powerIn n) w l1 l2 l3 l4 = some q → WP K l mX1_powerIn 1 20 n0 k0 (some (.int q.1)) q.2 7 [none, some (.int l1), some (.int l2), some (.int l3), some (.int l4)] [] w) := by
  intro n
  induction n with
  | zero => exact fun _ _ _ _ _ q h => (by cases h)
  | succ n ih => exact fun _ _ _ _ _ q h => HX1_powerIn_7 ih h
def fX1_powerIn (w : XW) (l0 : Int32) (l1 : Int32) : Option (Int32 × XW) := eX1_powerIn (loX1_powerIn FU) w l0 l1
theorem MX1_powerIn {K : CX} {l : Launch} {w : XW} {l0 : Int32} {l1 : Int32} {q : Int32 × XW} (h : fX1_powerIn w l0 l1 = some q) : MT K l mX1_powerIn 1 20 [.int l0, .int l1] w (some (.int q.1)) q.2 := by
  unfold fX1_powerIn at h
  exact MT.of (by decide) (Nat.le_of_ble_eq_true rfl) rfl (EX1_powerIn (LOX1_powerIn FU) h)
/-! FractionRun$Fractions.isOfPrimes(I)Z: frames 2, words 44 -/
abbrev mX1_isOfPrimes : MR := (⟨"FractionRun$Fractions", "isOfPrimes", "(I)Z"⟩, prog_3_method_6_code, 4, (some .boolean))
theorem dX1_isOfPrimes_0 : decode prog_3_method_6_code 0 = .ok (.iload_n 0, 1) := by decide +kernel
theorem dX1_isOfPrimes_1 : decode prog_3_method_6_code 1 = .ok (.iconst 1, 1) := by decide +kernel
theorem dX1_isOfPrimes_2 : decode prog_3_method_6_code 2 = .ok (.if_icmp .lt 10, 3) := by decide +kernel
theorem dX1_isOfPrimes_5 : decode prog_3_method_6_code 5 = .ok (.iload_n 0, 1) := by decide +kernel
theorem dX1_isOfPrimes_6 : decode prog_3_method_6_code 6 = .ok (.sipush 999, 3) := by decide +kernel
theorem dX1_isOfPrimes_9 : decode prog_3_method_6_code 9 = .ok (.if_icmp .le 5, 3) := by decide +kernel
theorem dX1_isOfPrimes_12 : decode prog_3_method_6_code 12 = .ok (.iconst 0, 1) := by decide +kernel
theorem dX1_isOfPrimes_13 : decode prog_3_method_6_code 13 = .ok (.ireturn, 1) := by decide +kernel
theorem dX1_isOfPrimes_14 : decode prog_3_method_6_code 14 = .ok (.iload_n 0, 1) := by decide +kernel
theorem dX1_isOfPrimes_15 : decode prog_3_method_6_code 15 = .ok (.istore_n 1, 1) := by decide +kernel
theorem dX1_isOfPrimes_16 : decode prog_3_method_6_code 16 = .ok (.iconst 0, 1) := by decide +kernel
theorem dX1_isOfPrimes_17 : decode prog_3_method_6_code 17 = .ok (.istore_n 2, 1) := by decide +kernel
theorem dX1_isOfPrimes_18 : decode prog_3_method_6_code 18 = .ok (.iload_n 2, 1) := by decide +kernel
theorem dX1_isOfPrimes_19 : decode prog_3_method_6_code 19 = .ok (.bipush 6, 2) := by decide +kernel
theorem dX1_isOfPrimes_21 : decode prog_3_method_6_code 21 = .ok (.if_icmp .ge 33, 3) := by decide +kernel
theorem dX1_isOfPrimes_24 : decode prog_3_method_6_code 24 = .ok (.iload_n 0, 1) := by decide +kernel
theorem dX1_isOfPrimes_25 : decode prog_3_method_6_code 25 = .ok (.iload_n 2, 1) := by decide +kernel
theorem dX1_isOfPrimes_26 : decode prog_3_method_6_code 26 = .ok (.invokestatic 42, 3) := by decide +kernel
theorem dX1_isOfPrimes_29 : decode prog_3_method_6_code 29 = .ok (.istore_n 3, 1) := by decide +kernel
theorem dX1_isOfPrimes_30 : decode prog_3_method_6_code 30 = .ok (.iload_n 3, 1) := by decide +kernel
theorem dX1_isOfPrimes_31 : decode prog_3_method_6_code 31 = .ok (.ifCond .le 17, 3) := by decide +kernel
theorem dX1_isOfPrimes_34 : decode prog_3_method_6_code 34 = .ok (.iload_n 1, 1) := by decide +kernel
theorem dX1_isOfPrimes_35 : decode prog_3_method_6_code 35 = .ok (.getstatic 51, 3) := by decide +kernel
theorem dX1_isOfPrimes_38 : decode prog_3_method_6_code 38 = .ok (.iload_n 2, 1) := by decide +kernel
theorem dX1_isOfPrimes_39 : decode prog_3_method_6_code 39 = .ok (.iaload, 1) := by decide +kernel
theorem dX1_isOfPrimes_40 : decode prog_3_method_6_code 40 = .ok (.idiv, 1) := by decide +kernel
theorem dX1_isOfPrimes_41 : decode prog_3_method_6_code 41 = .ok (.istore_n 1, 1) := by decide +kernel
theorem dX1_isOfPrimes_42 : decode prog_3_method_6_code 42 = .ok (.iinc 3 (-1), 3) := by decide +kernel
theorem dX1_isOfPrimes_45 : decode prog_3_method_6_code 45 = .ok (.goto (-15), 3) := by decide +kernel
theorem dX1_isOfPrimes_48 : decode prog_3_method_6_code 48 = .ok (.iinc 2 1, 3) := by decide +kernel
theorem dX1_isOfPrimes_51 : decode prog_3_method_6_code 51 = .ok (.goto (-33), 3) := by decide +kernel
theorem dX1_isOfPrimes_54 : decode prog_3_method_6_code 54 = .ok (.iload_n 1, 1) := by decide +kernel
theorem dX1_isOfPrimes_55 : decode prog_3_method_6_code 55 = .ok (.iconst 1, 1) := by decide +kernel
theorem dX1_isOfPrimes_56 : decode prog_3_method_6_code 56 = .ok (.if_icmp .ne 7, 3) := by decide +kernel
theorem dX1_isOfPrimes_59 : decode prog_3_method_6_code 59 = .ok (.iconst 1, 1) := by decide +kernel
theorem dX1_isOfPrimes_60 : decode prog_3_method_6_code 60 = .ok (.goto 4, 3) := by decide +kernel
theorem dX1_isOfPrimes_63 : decode prog_3_method_6_code 63 = .ok (.iconst 0, 1) := by decide +kernel
theorem dX1_isOfPrimes_64 : decode prog_3_method_6_code 64 = .ok (.ireturn, 1) := by decide +kernel
theorem okM_X1_isOfPrimes : okM mX1_isOfPrimes 1 := ⟨tw247, tw4, by decide, by decide, by decide +kernel⟩
abbrev KTX1_isOfPrimes : Type := (XW → Int32 → Int32 → Int32 → Option (Int32 × XW)) × (XW → Int32 → Int32 → Int32 → Int32 → Option (Int32 × XW))
def bX1_isOfPrimes_64 (k : KTX1_isOfPrimes) (w : XW) (s0 : Int32) : Option (Int32 × XW) :=
  if s0 &&& 1 = s0 then some (s0, w) else none
theorem BX1_isOfPrimes_64 {K : CX} {l : Launch} {n0 k0 : Nat} {k : KTX1_isOfPrimes} (hk0 : ∀ (w : XW) (l0 : Int32) (l1 : Int32) (l2 : Int32) (q : Int32 × XW), k.1 w l0 l1 l2 = some q → WP K l mX1_isOfPrimes 2 44 n0 k0 (some (.int q.1)) q.2 18 [some (.int l0), some (.int l1), some (.int l2), none] [] w) (hk1 : ∀ (w : XW) (l0 : Int32) (l1 : Int32) (l2 : Int32) (l3 : Int32) (q : Int32 × XW), k.2 w l0 l1 l2 l3 = some q → WP K l mX1_isOfPrimes 2 44 n0 k0 (some (.int q.1)) q.2 30 [some (.int l0), some (.int l1), some (.int l2), some (.int l3)] [] w) {w : XW} {s0 : Int32} {q : Int32 × XW} (h0 : bX1_isOfPrimes_64 k w s0 = some q) : WP K l mX1_isOfPrimes 2 44 n0 k0 (some (.int q.1)) q.2 64 [none, none, none, none] [.int s0] w := by
  unfold bX1_isOfPrimes_64 at h0
  have c1 : s0 &&& 1 = s0 := Decidable.byContradiction fun z => by rw [if_neg z] at h0; cases h0
  rw [if_pos c1] at h0
  cases h0
  exact wp_zret rfl (zb_n c1) dX1_isOfPrimes_64
def bX1_isOfPrimes_12 (k : KTX1_isOfPrimes) (w : XW) : Option (Int32 × XW) :=
  some ((0 : Int32), w)
theorem BX1_isOfPrimes_12 {K : CX} {l : Launch} {n0 k0 : Nat} {k : KTX1_isOfPrimes} (hk0 : ∀ (w : XW) (l0 : Int32) (l1 : Int32) (l2 : Int32) (q : Int32 × XW), k.1 w l0 l1 l2 = some q → WP K l mX1_isOfPrimes 2 44 n0 k0 (some (.int q.1)) q.2 18 [some (.int l0), some (.int l1), some (.int l2), none] [] w) (hk1 : ∀ (w : XW) (l0 : Int32) (l1 : Int32) (l2 : Int32) (l3 : Int32) (q : Int32 × XW), k.2 w l0 l1 l2 l3 = some q → WP K l mX1_isOfPrimes 2 44 n0 k0 (some (.int q.1)) q.2 30 [some (.int l0), some (.int l1), some (.int l2), some (.int l3)] [] w) {w : XW} {q : Int32 × XW} (h0 : bX1_isOfPrimes_12 k w = some q) : WP K l mX1_isOfPrimes 2 44 n0 k0 (some (.int q.1)) q.2 12 [none, none, none, none] [] w := by
  unfold bX1_isOfPrimes_12 at h0
  refine wp_iconst (v := (0 : Int32)) dX1_isOfPrimes_12 (by decide) ?_
  cases h0
  exact wp_zret (x := (0 : Int32)) rfl narrow_b0 dX1_isOfPrimes_13
def hX1_isOfPrimes_30 (k : KTX1_isOfPrimes) (w : XW) (l0 : Int32) (l1 : Int32) (l2 : Int32) (l3 : Int32) : Option (Int32 × XW) :=
  if l3 ≤ 0 then
  k.1 w l0 l1 (l2 + (1 : Int32))
  else
  (pI l2).bind fun x2 =>
  if x2 = 0 then none else
  k.2 w l0 (l1 / x2) l2 (l3 + (-1 : Int32))
theorem HX1_isOfPrimes_30 {K : CX} {l : Launch} {n0 k0 : Nat} {k : KTX1_isOfPrimes} (hk0 : ∀ (w : XW) (l0 : Int32) (l1 : Int32) (l2 : Int32) (q : Int32 × XW), k.1 w l0 l1 l2 = some q → WP K l mX1_isOfPrimes 2 44 n0 k0 (some (.int q.1)) q.2 18 [some (.int l0), some (.int l1), some (.int l2), none] [] w) (hk1 : ∀ (w : XW) (l0 : Int32) (l1 : Int32) (l2 : Int32) (l3 : Int32) (q : Int32 × XW), k.2 w l0 l1 l2 l3 = some q → WP K l mX1_isOfPrimes 2 44 n0 k0 (some (.int q.1)) q.2 30 [some (.int l0), some (.int l1), some (.int l2), some (.int l3)] [] w) {w : XW} {l0 : Int32} {l1 : Int32} {l2 : Int32} {l3 : Int32} {q : Int32 × XW} (h0 : hX1_isOfPrimes_30 k w l0 l1 l2 l3 = some q) : WP K l mX1_isOfPrimes 2 44 n0 k0 (some (.int q.1)) q.2 30 [some (.int l0), some (.int l1), some (.int l2), some (.int l3)] [] w := by
  unfold hX1_isOfPrimes_30 at h0
  refine wp_iload_n dX1_isOfPrimes_30 rfl ?_
  refine wp_if_le (tgt := 48) dX1_isOfPrimes_31 (by decide) (fun c1 => ?_) (fun c1 => ?_)
  · rw [if_pos c1] at h0
    refine wp_iinc (v := (l2 + (1 : Int32))) (L1 := [some (.int l0), some (.int l1), some (.int (l2 + (1 : Int32))), some (.int l3)]) dX1_isOfPrimes_48 (Nat.le_of_ble_eq_true rfl) rfl (congrArg (fun z => l2 + z) (by decide)) rfl ?_
    refine wp_goto (tgt := 18) dX1_isOfPrimes_51 (by decide) ?_
    exact WP.wk (hk0 _ _ _ _ _ h0) (And.intro rfl (And.intro rfl (And.intro rfl trivial)))
  · rw [if_neg c1] at h0
    refine wp_iload_n dX1_isOfPrimes_34 rfl ?_
    refine wp_primesN rfl dX1_isOfPrimes_35 ?_
    refine wp_iload_n dX1_isOfPrimes_38 rfl ?_
    obtain ⟨x2, e4, h3⟩ := Option.bind_eq_some_iff.mp h0
    clear h0
    refine wp_pald dX1_isOfPrimes_39 e4 ?_
    have c5 : ¬ x2 = 0 := by intro z; rw [if_pos z] at h3; cases h3
    rw [if_neg c5] at h3
    have h6 := h3; clear h3
    refine wp_idiv dX1_isOfPrimes_40 c5 ?_
    refine wp_istore_n (L1 := [some (.int l0), some (.int (l1 / x2)), some (.int l2), some (.int l3)]) dX1_isOfPrimes_41 (Nat.le_of_ble_eq_true rfl) rfl ?_
    refine wp_iinc (v := (l3 + (-1 : Int32))) (L1 := [some (.int l0), some (.int (l1 / x2)), some (.int l2), some (.int (l3 + (-1 : Int32)))]) dX1_isOfPrimes_42 (Nat.le_of_ble_eq_true rfl) rfl (congrArg (fun z => l3 + z) (by decide)) rfl ?_
    refine wp_goto (tgt := 30) dX1_isOfPrimes_45 (by decide) ?_
    exact WP.wk (hk1 _ _ _ _ _ _ h6) (And.intro rfl (And.intro rfl (And.intro rfl (And.intro rfl trivial))))
def hX1_isOfPrimes_18 (k : KTX1_isOfPrimes) (w : XW) (l0 : Int32) (l1 : Int32) (l2 : Int32) : Option (Int32 × XW) :=
  if (6 : Int32) ≤ l2 then
  if l1 = (1 : Int32) then
  bX1_isOfPrimes_64 k w (1 : Int32)
  else
  bX1_isOfPrimes_64 k w (0 : Int32)
  else
  (fX1_powerIn w l0 l2).bind fun q3 =>
  k.2 q3.2 l0 l1 l2 q3.1
theorem HX1_isOfPrimes_18 {K : CX} {l : Launch} {n0 k0 : Nat} {k : KTX1_isOfPrimes} (hk0 : ∀ (w : XW) (l0 : Int32) (l1 : Int32) (l2 : Int32) (q : Int32 × XW), k.1 w l0 l1 l2 = some q → WP K l mX1_isOfPrimes 2 44 n0 k0 (some (.int q.1)) q.2 18 [some (.int l0), some (.int l1), some (.int l2), none] [] w) (hk1 : ∀ (w : XW) (l0 : Int32) (l1 : Int32) (l2 : Int32) (l3 : Int32) (q : Int32 × XW), k.2 w l0 l1 l2 l3 = some q → WP K l mX1_isOfPrimes 2 44 n0 k0 (some (.int q.1)) q.2 30 [some (.int l0), some (.int l1), some (.int l2), some (.int l3)] [] w) {w : XW} {l0 : Int32} {l1 : Int32} {l2 : Int32} {q : Int32 × XW} (h0 : hX1_isOfPrimes_18 k w l0 l1 l2 = some q) : WP K l mX1_isOfPrimes 2 44 n0 k0 (some (.int q.1)) q.2 18 [some (.int l0), some (.int l1), some (.int l2), none] [] w := by
  unfold hX1_isOfPrimes_18 at h0
  refine wp_iload_n dX1_isOfPrimes_18 rfl ?_
  refine wp_bipush (v := (6 : Int32)) dX1_isOfPrimes_19 (by decide) ?_
  refine wp_icmp_ge (tgt := 54) dX1_isOfPrimes_21 (by decide) (fun c1 => ?_) (fun c1 => ?_)
  · rw [if_pos c1] at h0
    refine wp_iload_n dX1_isOfPrimes_54 rfl ?_
    refine wp_iconst (v := (1 : Int32)) dX1_isOfPrimes_55 (by decide) ?_
    refine wp_icmp_ne (tgt := 63) dX1_isOfPrimes_56 (by decide) (fun c2 => ?_) (fun c2 => ?_)
    · rw [if_neg c2] at h0
      refine wp_iconst (v := (0 : Int32)) dX1_isOfPrimes_63 (by decide) ?_
      exact WP.wk (BX1_isOfPrimes_64 hk0 hk1 h0) trivial
    · rw [if_pos c2] at h0
      refine wp_iconst (v := (1 : Int32)) dX1_isOfPrimes_59 (by decide) ?_
      refine wp_goto (tgt := 64) dX1_isOfPrimes_60 (by decide) ?_
      exact WP.wk (BX1_isOfPrimes_64 hk0 hk1 h0) trivial
  · rw [if_neg c1] at h0
    refine wp_iload_n dX1_isOfPrimes_24 rfl ?_
    refine wp_iload_n dX1_isOfPrimes_25 rfl ?_
    obtain ⟨q3, e5, h4⟩ := Option.bind_eq_some_iff.mp h0
    clear h0
    refine wp_Si (As := [.int l0, .int l2]) (S := []) okM_X1_powerIn tw249 tw248 rfl ⟨(Nat.le_of_ble_eq_true rfl), (Nat.le_of_ble_eq_true rfl)⟩ (Nat.le_of_ble_eq_true rfl) rfl dX1_isOfPrimes_26 (MX1_powerIn e5) ?_
    refine wp_istore_n (L1 := [some (.int l0), some (.int l1), some (.int l2), some (.int q3.1)]) dX1_isOfPrimes_29 (Nat.le_of_ble_eq_true rfl) rfl ?_
    exact WP.wk (hk1 _ _ _ _ _ _ h4) (And.intro rfl (And.intro rfl (And.intro rfl (And.intro rfl trivial))))
def eX1_isOfPrimes (k : KTX1_isOfPrimes) (w : XW) (l0 : Int32) : Option (Int32 × XW) :=
  if l0 < (1 : Int32) then
  bX1_isOfPrimes_12 k w
  else
  if l0 ≤ (999 : Int32) then
  k.1 w l0 l0 (0 : Int32)
  else
  bX1_isOfPrimes_12 k w
theorem EX1_isOfPrimes {K : CX} {l : Launch} {n0 k0 : Nat} {k : KTX1_isOfPrimes} (hk0 : ∀ (w : XW) (l0 : Int32) (l1 : Int32) (l2 : Int32) (q : Int32 × XW), k.1 w l0 l1 l2 = some q → WP K l mX1_isOfPrimes 2 44 n0 k0 (some (.int q.1)) q.2 18 [some (.int l0), some (.int l1), some (.int l2), none] [] w) (hk1 : ∀ (w : XW) (l0 : Int32) (l1 : Int32) (l2 : Int32) (l3 : Int32) (q : Int32 × XW), k.2 w l0 l1 l2 l3 = some q → WP K l mX1_isOfPrimes 2 44 n0 k0 (some (.int q.1)) q.2 30 [some (.int l0), some (.int l1), some (.int l2), some (.int l3)] [] w) {w : XW} {l0 : Int32} {q : Int32 × XW} (h0 : eX1_isOfPrimes k w l0 = some q) : WP K l mX1_isOfPrimes 2 44 n0 k0 (some (.int q.1)) q.2 0 [some (.int l0), none, none, none] [] w := by
  unfold eX1_isOfPrimes at h0
  refine wp_iload_n dX1_isOfPrimes_0 rfl ?_
  refine wp_iconst (v := (1 : Int32)) dX1_isOfPrimes_1 (by decide) ?_
  refine wp_icmp_lt (tgt := 12) dX1_isOfPrimes_2 (by decide) (fun c1 => ?_) (fun c1 => ?_)
  · rw [if_pos c1] at h0
    exact WP.wk (BX1_isOfPrimes_12 hk0 hk1 h0) trivial
  · rw [if_neg c1] at h0
    refine wp_iload_n dX1_isOfPrimes_5 rfl ?_
    refine wp_sipush (v := (999 : Int32)) dX1_isOfPrimes_6 (by decide) ?_
    refine wp_icmp_le (tgt := 14) dX1_isOfPrimes_9 (by decide) (fun c2 => ?_) (fun c2 => ?_)
    · rw [if_pos c2] at h0
      refine wp_iload_n dX1_isOfPrimes_14 rfl ?_
      refine wp_istore_n (L1 := [some (.int l0), some (.int l0), none, none]) dX1_isOfPrimes_15 (Nat.le_of_ble_eq_true rfl) rfl ?_
      refine wp_iconst (v := (0 : Int32)) dX1_isOfPrimes_16 (by decide) ?_
      refine wp_istore_n (L1 := [some (.int l0), some (.int l0), some (.int (0 : Int32)), none]) dX1_isOfPrimes_17 (Nat.le_of_ble_eq_true rfl) rfl ?_
      exact WP.wk (hk0 _ _ _ _ _ h0) (And.intro rfl (And.intro rfl (And.intro rfl trivial)))
    · rw [if_neg c2] at h0
      exact WP.wk (BX1_isOfPrimes_12 hk0 hk1 h0) trivial
def loX1_isOfPrimes : Nat → KTX1_isOfPrimes
  | 0 => (fun _ _ _ _ => none, fun _ _ _ _ _ => none)
  | n + 1 => (hX1_isOfPrimes_18 (loX1_isOfPrimes n), hX1_isOfPrimes_30 (loX1_isOfPrimes n))
theorem LOX1_isOfPrimes {K : CX} {l : Launch} {n0 k0 : Nat} : ∀ n : Nat, (∀ (w : XW) (l0 : Int32) (l1 : Int32) (l2 : Int32) (q : Int32 × XW), (loX1_isOfPrimes n).1 w l0 l1 l2 = some q → WP K l mX1_isOfPrimes 2 44 n0 k0 (some (.int q.1)) q.2 18 [some (.int l0), some (.int l1), some (.int l2), none] [] w) ∧ (∀ (w : XW) (l0 : Int32) (l1 : Int32) (l2 : Int32) (l3 : Int32) (q : Int32 × XW), (loX1_isOfPrimes n).2 w l0 l1 l2 l3 = some q → WP K l mX1_isOfPrimes 2 44 n0 k0 (some (.int q.1)) q.2 30 [some (.int l0), some (.int l1), some (.int l2), some (.int l3)] [] w) := by
  intro n
  induction n with
  | zero => exact ⟨fun _ _ _ _ q h => (by cases h), fun _ _ _ _ _ q h => (by cases h)⟩
  | succ n ih => exact ⟨fun _ _ _ _ q h => HX1_isOfPrimes_18 ih.1 ih.2 h, fun _ _ _ _ _ q h => HX1_isOfPrimes_30 ih.1 ih.2 h⟩
def fX1_isOfPrimes (w : XW) (l0 : Int32) : Option (Int32 × XW) := eX1_isOfPrimes (loX1_isOfPrimes FU) w l0
theorem MX1_isOfPrimes {K : CX} {l : Launch} {w : XW} {l0 : Int32} {q : Int32 × XW} (h : fX1_isOfPrimes w l0 = some q) : MT K l mX1_isOfPrimes 2 44 [.int l0] w (some (.int q.1)) q.2 := by
  unfold fX1_isOfPrimes at h
  exact MT.of (by decide) (Nat.le_of_ble_eq_true rfl) rfl (EX1_isOfPrimes (LOX1_isOfPrimes FU).1 (LOX1_isOfPrimes FU).2 h)
/-! FractionRun$Fractions.startAt(I)Z: frames 3, words 67 -/
abbrev mX1_startAt : MR := (⟨"FractionRun$Fractions", "startAt", "(I)Z"⟩, prog_3_method_4_code, 3, (some .boolean))
theorem dX1_startAt_0 : decode prog_3_method_4_code 0 = .ok (.iload_n 1, 1) := by decide +kernel
theorem dX1_startAt_1 : decode prog_3_method_4_code 1 = .ok (.invokestatic 35, 3) := by decide +kernel
theorem dX1_startAt_4 : decode prog_3_method_4_code 4 = .ok (.ifCond .ne 5, 3) := by decide +kernel
theorem dX1_startAt_7 : decode prog_3_method_4_code 7 = .ok (.iconst 0, 1) := by decide +kernel
theorem dX1_startAt_8 : decode prog_3_method_4_code 8 = .ok (.ireturn, 1) := by decide +kernel
theorem dX1_startAt_9 : decode prog_3_method_4_code 9 = .ok (.iconst 0, 1) := by decide +kernel
theorem dX1_startAt_10 : decode prog_3_method_4_code 10 = .ok (.istore_n 2, 1) := by decide +kernel
theorem dX1_startAt_11 : decode prog_3_method_4_code 11 = .ok (.iload_n 2, 1) := by decide +kernel
theorem dX1_startAt_12 : decode prog_3_method_4_code 12 = .ok (.bipush 6, 2) := by decide +kernel
theorem dX1_startAt_14 : decode prog_3_method_4_code 14 = .ok (.if_icmp .ge 20, 3) := by decide +kernel
theorem dX1_startAt_17 : decode prog_3_method_4_code 17 = .ok (.aload_n 0, 1) := by decide +kernel
theorem dX1_startAt_18 : decode prog_3_method_4_code 18 = .ok (.getfield 24, 3) := by decide +kernel
theorem dX1_startAt_21 : decode prog_3_method_4_code 21 = .ok (.iload_n 2, 1) := by decide +kernel
theorem dX1_startAt_22 : decode prog_3_method_4_code 22 = .ok (.iload_n 1, 1) := by decide +kernel
theorem dX1_startAt_23 : decode prog_3_method_4_code 23 = .ok (.iload_n 2, 1) := by decide +kernel
theorem dX1_startAt_24 : decode prog_3_method_4_code 24 = .ok (.invokestatic 42, 3) := by decide +kernel
theorem dX1_startAt_27 : decode prog_3_method_4_code 27 = .ok (.iastore, 1) := by decide +kernel
theorem dX1_startAt_28 : decode prog_3_method_4_code 28 = .ok (.iinc 2 1, 3) := by decide +kernel
theorem dX1_startAt_31 : decode prog_3_method_4_code 31 = .ok (.goto (-20), 3) := by decide +kernel
theorem dX1_startAt_34 : decode prog_3_method_4_code 34 = .ok (.iconst 1, 1) := by decide +kernel
theorem dX1_startAt_35 : decode prog_3_method_4_code 35 = .ok (.ireturn, 1) := by decide +kernel
theorem okM_X1_startAt : okM mX1_startAt 1 := ⟨tw244, tw4, by decide, by decide, by decide +kernel⟩
abbrev KTX1_startAt : Type := (XW → Nat → Int32 → Int32 → Option (Int32 × XW))
def hX1_startAt_11 (k : KTX1_startAt) (w : XW) (l0 : Nat) (l1 : Int32) (l2 : Int32) : Option (Int32 × XW) :=
  if (6 : Int32) ≤ l2 then
  some ((1 : Int32), w)
  else
  (gR w l0 1 4).bind fun x2 =>
  (fX1_powerIn w l1 l2).bind fun q5 =>
  (sI q5.2 0 x2 l2 q5.1).bind fun w8 =>
  k w8 l0 l1 (l2 + (1 : Int32))
theorem HX1_startAt_11 {K : CX} {l : Launch} {n0 k0 : Nat} {k : KTX1_startAt} (hk0 : ∀ (w : XW) (l0 : Nat) (l1 : Int32) (l2 : Int32) (q : Int32 × XW), k w l0 l1 l2 = some q → WP K l mX1_startAt 3 67 n0 k0 (some (.int q.1)) q.2 11 [some (.ref l0), some (.int l1), some (.int l2)] [] w) {w : XW} {l0 : Nat} {l1 : Int32} {l2 : Int32} {q : Int32 × XW} (h0 : hX1_startAt_11 k w l0 l1 l2 = some q) : WP K l mX1_startAt 3 67 n0 k0 (some (.int q.1)) q.2 11 [some (.ref l0), some (.int l1), some (.int l2)] [] w := by
  unfold hX1_startAt_11 at h0
  refine wp_iload_n dX1_startAt_11 rfl ?_
  refine wp_bipush (v := (6 : Int32)) dX1_startAt_12 (by decide) ?_
  refine wp_icmp_ge (tgt := 34) dX1_startAt_14 (by decide) (fun c1 => ?_) (fun c1 => ?_)
  · rw [if_pos c1] at h0
    refine wp_iconst (v := (1 : Int32)) dX1_startAt_34 (by decide) ?_
    cases h0
    exact wp_zret (x := (1 : Int32)) rfl narrow_b1 dX1_startAt_35
  · rw [if_neg c1] at h0
    refine wp_aload_n dX1_startAt_17 rfl ?_
    obtain ⟨x2, e4, h3⟩ := Option.bind_eq_some_iff.mp h0
    clear h0
    refine wp_getR okX1 (k := 4) (by decide) tw68 dX1_startAt_18 e4 ?_
    refine wp_iload_n dX1_startAt_21 rfl ?_
    refine wp_iload_n dX1_startAt_22 rfl ?_
    refine wp_iload_n dX1_startAt_23 rfl ?_
    obtain ⟨q5, e7, h6⟩ := Option.bind_eq_some_iff.mp h3
    clear h3
    refine wp_Si (As := [.int l1, .int l2]) (S := [.int l2, .ref x2]) okM_X1_powerIn tw249 tw248 rfl ⟨(Nat.le_of_ble_eq_true rfl), (Nat.le_of_ble_eq_true rfl)⟩ (Nat.le_of_ble_eq_true rfl) rfl dX1_startAt_24 (MX1_powerIn e7) ?_
    obtain ⟨w8, e10, h9⟩ := Option.bind_eq_some_iff.mp h6
    clear h6
    refine wp_iast dX1_startAt_27 e10 ?_
    refine wp_iinc (v := (l2 + (1 : Int32))) (L1 := [some (.ref l0), some (.int l1), some (.int (l2 + (1 : Int32)))]) dX1_startAt_28 (Nat.le_of_ble_eq_true rfl) rfl (congrArg (fun z => l2 + z) (by decide)) rfl ?_
    refine wp_goto (tgt := 11) dX1_startAt_31 (by decide) ?_
    exact WP.wk (hk0 _ _ _ _ _ h9) (And.intro rfl (And.intro rfl (And.intro rfl trivial)))
def eX1_startAt (k : KTX1_startAt) (w : XW) (l0 : Nat) (l1 : Int32) : Option (Int32 × XW) :=
  (fX1_isOfPrimes w l1).bind fun q1 =>
  if q1.1 = 0 then
  some ((0 : Int32), q1.2)
  else
  k q1.2 l0 l1 (0 : Int32)
theorem EX1_startAt {K : CX} {l : Launch} {n0 k0 : Nat} {k : KTX1_startAt} (hk0 : ∀ (w : XW) (l0 : Nat) (l1 : Int32) (l2 : Int32) (q : Int32 × XW), k w l0 l1 l2 = some q → WP K l mX1_startAt 3 67 n0 k0 (some (.int q.1)) q.2 11 [some (.ref l0), some (.int l1), some (.int l2)] [] w) {w : XW} {l0 : Nat} {l1 : Int32} {q : Int32 × XW} (h0 : eX1_startAt k w l0 l1 = some q) : WP K l mX1_startAt 3 67 n0 k0 (some (.int q.1)) q.2 0 [some (.ref l0), some (.int l1), none] [] w := by
  unfold eX1_startAt at h0
  refine wp_iload_n dX1_startAt_0 rfl ?_
  obtain ⟨q1, e3, h2⟩ := Option.bind_eq_some_iff.mp h0
  clear h0
  refine wp_Si (As := [.int l1]) (S := []) okM_X1_isOfPrimes tw246 tw245 rfl ⟨(Nat.le_of_ble_eq_true rfl), (Nat.le_of_ble_eq_true rfl)⟩ (Nat.le_of_ble_eq_true rfl) rfl dX1_startAt_1 (MX1_isOfPrimes e3) ?_
  refine wp_if_ne (tgt := 9) dX1_startAt_4 (by decide) (fun c4 => ?_) (fun c4 => ?_)
  · rw [if_neg c4] at h2
    refine wp_iconst (v := (0 : Int32)) dX1_startAt_9 (by decide) ?_
    refine wp_istore_n (L1 := [some (.ref l0), some (.int l1), some (.int (0 : Int32))]) dX1_startAt_10 (Nat.le_of_ble_eq_true rfl) rfl ?_
    exact WP.wk (hk0 _ _ _ _ _ h2) (And.intro rfl (And.intro rfl (And.intro rfl trivial)))
  · rw [if_pos c4] at h2
    refine wp_iconst (v := (0 : Int32)) dX1_startAt_7 (by decide) ?_
    cases h2
    exact wp_zret (x := (0 : Int32)) rfl narrow_b0 dX1_startAt_8
def loX1_startAt : Nat → KTX1_startAt
  | 0 => fun _ _ _ _ => none
  | n + 1 => hX1_startAt_11 (loX1_startAt n)
theorem LOX1_startAt {K : CX} {l : Launch} {n0 k0 : Nat} : ∀ n : Nat, (∀ (w : XW) (l0 : Nat) (l1 : Int32) (l2 : Int32) (q : Int32 × XW), (loX1_startAt n) w l0 l1 l2 = some q → WP K l mX1_startAt 3 67 n0 k0 (some (.int q.1)) q.2 11 [some (.ref l0), some (.int l1), some (.int l2)] [] w) := by
  intro n
  induction n with
  | zero => exact fun _ _ _ _ q h => (by cases h)
  | succ n ih => exact fun _ _ _ _ q h => HX1_startAt_11 ih h
def fX1_startAt (w : XW) (l0 : Nat) (l1 : Int32) : Option (Int32 × XW) := if isO w l0 1 = true then eX1_startAt (loX1_startAt FU) w l0 l1 else none
theorem OX1_startAt {w : XW} {l0 : Nat} {l1 : Int32} {q : Int32 × XW} (h : fX1_startAt w l0 l1 = some q) : isO w l0 1 = true := Decidable.byContradiction fun z => by unfold fX1_startAt at h; rw [if_neg z] at h; cases h
theorem MX1_startAt {K : CX} {l : Launch} {w : XW} {l0 : Nat} {l1 : Int32} {q : Int32 × XW} (h : fX1_startAt w l0 l1 = some q) : MT K l mX1_startAt 3 67 [.ref l0, .int l1] w (some (.int q.1)) q.2 := by
  have z := OX1_startAt h
  unfold fX1_startAt at h
  rw [if_pos z] at h
  exact MT.of (by decide) (Nat.le_of_ble_eq_true rfl) rfl (EX1_startAt (LOX1_startAt FU) h)
/-! FractionRun$Fractions.clear()V: frames 4, words 89 -/
abbrev mX1_clear : MR := (⟨"FractionRun$Fractions", "clear", "()V"⟩, prog_3_method_2_code, 1, none)
theorem dX1_clear_0 : decode prog_3_method_2_code 0 = .ok (.aload_n 0, 1) := by decide +kernel
theorem dX1_clear_1 : decode prog_3_method_2_code 1 = .ok (.iconst 0, 1) := by decide +kernel
theorem dX1_clear_2 : decode prog_3_method_2_code 2 = .ok (.putfield 27, 3) := by decide +kernel
theorem dX1_clear_5 : decode prog_3_method_2_code 5 = .ok (.aload_n 0, 1) := by decide +kernel
theorem dX1_clear_6 : decode prog_3_method_2_code 6 = .ok (.iconst 1, 1) := by decide +kernel
theorem dX1_clear_7 : decode prog_3_method_2_code 7 = .ok (.invokevirtual 31, 3) := by decide +kernel
theorem dX1_clear_10 : decode prog_3_method_2_code 10 = .ok (.pop, 1) := by decide +kernel
theorem dX1_clear_11 : decode prog_3_method_2_code 11 = .ok (.return_, 1) := by decide +kernel
theorem okM_X1_clear : okM mX1_clear 0 := ⟨tw240, tw4, by decide, by decide, by decide +kernel⟩
def eX1_clear (w : XW) (l0 : Nat) : Option XW :=
  (pV w l0 1 5 (.int (0 : Int32))).bind fun w1 =>
  (fX1_startAt w1 l0 (1 : Int32)).bind fun q4 =>
  some q4.2
theorem EX1_clear {K : CX} {l : Launch} {n0 k0 : Nat} {w : XW} {l0 : Nat} {q : XW} (h0 : eX1_clear w l0 = some q) : WP K l mX1_clear 4 89 n0 k0 none q 0 [some (.ref l0)] [] w := by
  unfold eX1_clear at h0
  refine wp_aload_n dX1_clear_0 rfl ?_
  refine wp_iconst (v := (0 : Int32)) dX1_clear_1 (by decide) ?_
  obtain ⟨w1, e3, h2⟩ := Option.bind_eq_some_iff.mp h0
  clear h0
  refine wp_putV okX1 (k := 5) (by decide) rfl tw70 dX1_clear_2 rfl rfl e3 ?_
  refine wp_aload_n dX1_clear_5 rfl ?_
  refine wp_iconst (v := (1 : Int32)) dX1_clear_6 (by decide) ?_
  obtain ⟨q4, e6, h5⟩ := Option.bind_eq_some_iff.mp h2
  clear h2
  refine wp_Vi (As := [.int (1 : Int32)]) (S := []) okM_X1_startAt tw242 tw243 tw241 (OX1_startAt e6) rfl rfl rfl ⟨(Nat.le_of_ble_eq_true rfl), (Nat.le_of_ble_eq_true rfl)⟩ (Nat.le_of_ble_eq_true rfl) rfl dX1_clear_7 (MX1_startAt e6) ?_
  refine wp_pop dX1_clear_10 rfl ?_
  cases h5
  exact wp_vret rfl dX1_clear_11
def fX1_clear (w : XW) (l0 : Nat) : Option XW := if isO w l0 1 = true then eX1_clear w l0 else none
theorem OX1_clear {w : XW} {l0 : Nat} {q : XW} (h : fX1_clear w l0 = some q) : isO w l0 1 = true := Decidable.byContradiction fun z => by unfold fX1_clear at h; rw [if_neg z] at h; cases h
theorem MX1_clear {K : CX} {l : Launch} {w : XW} {l0 : Nat} {q : XW} (h : fX1_clear w l0 = some q) : MT K l mX1_clear 4 89 [.ref l0] w none q := by
  have z := OX1_clear h
  unfold fX1_clear at h
  rw [if_pos z] at h
  exact MT.of (by decide) (Nat.le_of_ble_eq_true rfl) rfl (EX1_clear h)
/-! FractionRun$Text.letterAt(I)C: frames 1, words 20 -/
abbrev mX6_letterAt : MR := (⟨"FractionRun$Text", "letterAt", "(I)C"⟩, prog_8_method_4_code, 2, (some .char))
theorem dX6_letterAt_0 : decode prog_8_method_4_code 0 = .ok (.iload_n 1, 1) := by decide +kernel
theorem dX6_letterAt_1 : decode prog_8_method_4_code 1 = .ok (.ifCond .lt 20, 3) := by decide +kernel
theorem dX6_letterAt_4 : decode prog_8_method_4_code 4 = .ok (.iload_n 1, 1) := by decide +kernel
theorem dX6_letterAt_5 : decode prog_8_method_4_code 5 = .ok (.aload_n 0, 1) := by decide +kernel
theorem dX6_letterAt_6 : decode prog_8_method_4_code 6 = .ok (.getfield 15, 3) := by decide +kernel
theorem dX6_letterAt_9 : decode prog_8_method_4_code 9 = .ok (.if_icmp .ge 12, 3) := by decide +kernel
theorem dX6_letterAt_12 : decode prog_8_method_4_code 12 = .ok (.aload_n 0, 1) := by decide +kernel
theorem dX6_letterAt_13 : decode prog_8_method_4_code 13 = .ok (.getfield 9, 3) := by decide +kernel
theorem dX6_letterAt_16 : decode prog_8_method_4_code 16 = .ok (.iload_n 1, 1) := by decide +kernel
theorem dX6_letterAt_17 : decode prog_8_method_4_code 17 = .ok (.caload, 1) := by decide +kernel
theorem dX6_letterAt_18 : decode prog_8_method_4_code 18 = .ok (.goto 4, 3) := by decide +kernel
theorem dX6_letterAt_21 : decode prog_8_method_4_code 21 = .ok (.iconst 0, 1) := by decide +kernel
theorem dX6_letterAt_22 : decode prog_8_method_4_code 22 = .ok (.ireturn, 1) := by decide +kernel
theorem okM_X6_letterAt : okM mX6_letterAt 1 := ⟨tw260, tw2, by decide, by decide, by decide +kernel⟩
def bX6_letterAt_22 (w : XW) (s0 : Int32) : Option (Int32 × XW) :=
  if vp_nar .char s0 = s0 then some (s0, w) else none
theorem BX6_letterAt_22 {K : CX} {l : Launch} {n0 k0 : Nat} {w : XW} {s0 : Int32} {q : Int32 × XW} (h0 : bX6_letterAt_22 w s0 = some q) : WP K l mX6_letterAt 1 20 n0 k0 (some (.int q.1)) q.2 22 [none, none] [.int s0] w := by
  unfold bX6_letterAt_22 at h0
  have c1 : vp_nar .char s0 = s0 := Decidable.byContradiction fun z => by rw [if_neg z] at h0; cases h0
  rw [if_pos c1] at h0
  cases h0
  exact wp_zret rfl (nc_n c1) dX6_letterAt_22
def bX6_letterAt_21 (w : XW) : Option (Int32 × XW) :=
  bX6_letterAt_22 w (0 : Int32)
theorem BX6_letterAt_21 {K : CX} {l : Launch} {n0 k0 : Nat} {w : XW} {q : Int32 × XW} (h0 : bX6_letterAt_21 w = some q) : WP K l mX6_letterAt 1 20 n0 k0 (some (.int q.1)) q.2 21 [none, none] [] w := by
  unfold bX6_letterAt_21 at h0
  refine wp_iconst (v := (0 : Int32)) dX6_letterAt_21 (by decide) ?_
  exact WP.wk (BX6_letterAt_22 h0) trivial
def eX6_letterAt (w : XW) (l0 : Nat) (l1 : Int32) : Option (Int32 × XW) :=
  if l1 < 0 then
  bX6_letterAt_21 w
  else
  (gI w l0 6 1).bind fun x2 =>
  if x2 ≤ l1 then
  bX6_letterAt_21 w
  else
  (gR w l0 6 0).bind fun x6 =>
  (aI w 1 x6 l1).bind fun x9 =>
  bX6_letterAt_22 w x9
theorem EX6_letterAt {K : CX} {l : Launch} {n0 k0 : Nat} {w : XW} {l0 : Nat} {l1 : Int32} {q : Int32 × XW} (h0 : eX6_letterAt w l0 l1 = some q) : WP K l mX6_letterAt 1 20 n0 k0 (some (.int q.1)) q.2 0 [some (.ref l0), some (.int l1)] [] w := by
  unfold eX6_letterAt at h0
  refine wp_iload_n dX6_letterAt_0 rfl ?_
  refine wp_if_lt (tgt := 21) dX6_letterAt_1 (by decide) (fun c1 => ?_) (fun c1 => ?_)
  · rw [if_pos c1] at h0
    exact WP.wk (BX6_letterAt_21 h0) trivial
  · rw [if_neg c1] at h0
    refine wp_iload_n dX6_letterAt_4 rfl ?_
    refine wp_aload_n dX6_letterAt_5 rfl ?_
    obtain ⟨x2, e4, h3⟩ := Option.bind_eq_some_iff.mp h0
    clear h0
    refine wp_getI okX6 (k := 1) (by decide) tw32 dX6_letterAt_6 e4 ?_
    refine wp_icmp_ge (tgt := 21) dX6_letterAt_9 (by decide) (fun c5 => ?_) (fun c5 => ?_)
    · rw [if_pos c5] at h3
      exact WP.wk (BX6_letterAt_21 h3) trivial
    · rw [if_neg c5] at h3
      refine wp_aload_n dX6_letterAt_12 rfl ?_
      obtain ⟨x6, e8, h7⟩ := Option.bind_eq_some_iff.mp h3
      clear h3
      refine wp_getR okX6 (k := 0) (by decide) tw31 dX6_letterAt_13 e8 ?_
      refine wp_iload_n dX6_letterAt_16 rfl ?_
      obtain ⟨x9, e11, h10⟩ := Option.bind_eq_some_iff.mp h7
      clear h7
      refine wp_cald dX6_letterAt_17 e11 ?_
      refine wp_goto (tgt := 22) dX6_letterAt_18 (by decide) ?_
      exact WP.wk (BX6_letterAt_22 h10) trivial
def fX6_letterAt (w : XW) (l0 : Nat) (l1 : Int32) : Option (Int32 × XW) := if isO w l0 6 = true then eX6_letterAt w l0 l1 else none
theorem OX6_letterAt {w : XW} {l0 : Nat} {l1 : Int32} {q : Int32 × XW} (h : fX6_letterAt w l0 l1 = some q) : isO w l0 6 = true := Decidable.byContradiction fun z => by unfold fX6_letterAt at h; rw [if_neg z] at h; cases h
theorem MX6_letterAt {K : CX} {l : Launch} {w : XW} {l0 : Nat} {l1 : Int32} {q : Int32 × XW} (h : fX6_letterAt w l0 l1 = some q) : MT K l mX6_letterAt 1 20 [.ref l0, .int l1] w (some (.int q.1)) q.2 := by
  have z := OX6_letterAt h
  unfold fX6_letterAt at h
  rw [if_pos z] at h
  exact MT.of (by decide) (Nat.le_of_ble_eq_true rfl) rfl (EX6_letterAt h)
/-! FractionRun$Reader.isFigure(C)Z: frames 1, words 20 -/
abbrev mX4_isFigure : MR := (⟨"FractionRun$Reader", "isFigure", "(C)Z"⟩, prog_6_method_6_code, 1, (some .boolean))
theorem dX4_isFigure_0 : decode prog_6_method_6_code 0 = .ok (.iload_n 0, 1) := by decide +kernel
theorem dX4_isFigure_1 : decode prog_6_method_6_code 1 = .ok (.bipush 48, 2) := by decide +kernel
theorem dX4_isFigure_3 : decode prog_6_method_6_code 3 = .ok (.if_icmp .lt 13, 3) := by decide +kernel
theorem dX4_isFigure_6 : decode prog_6_method_6_code 6 = .ok (.iload_n 0, 1) := by decide +kernel
theorem dX4_isFigure_7 : decode prog_6_method_6_code 7 = .ok (.bipush 57, 2) := by decide +kernel
theorem dX4_isFigure_9 : decode prog_6_method_6_code 9 = .ok (.if_icmp .gt 7, 3) := by decide +kernel
theorem dX4_isFigure_12 : decode prog_6_method_6_code 12 = .ok (.iconst 1, 1) := by decide +kernel
theorem dX4_isFigure_13 : decode prog_6_method_6_code 13 = .ok (.goto 4, 3) := by decide +kernel
theorem dX4_isFigure_16 : decode prog_6_method_6_code 16 = .ok (.iconst 0, 1) := by decide +kernel
theorem dX4_isFigure_17 : decode prog_6_method_6_code 17 = .ok (.ireturn, 1) := by decide +kernel
theorem okM_X4_isFigure : okM mX4_isFigure 1 := ⟨tw271, tw3, by decide, by decide, by decide +kernel⟩
def bX4_isFigure_17 (w : XW) (s0 : Int32) : Option (Int32 × XW) :=
  if s0 &&& 1 = s0 then some (s0, w) else none
theorem BX4_isFigure_17 {K : CX} {l : Launch} {n0 k0 : Nat} {w : XW} {s0 : Int32} {q : Int32 × XW} (h0 : bX4_isFigure_17 w s0 = some q) : WP K l mX4_isFigure 1 20 n0 k0 (some (.int q.1)) q.2 17 [none] [.int s0] w := by
  unfold bX4_isFigure_17 at h0
  have c1 : s0 &&& 1 = s0 := Decidable.byContradiction fun z => by rw [if_neg z] at h0; cases h0
  rw [if_pos c1] at h0
  cases h0
  exact wp_zret rfl (zb_n c1) dX4_isFigure_17
def bX4_isFigure_16 (w : XW) : Option (Int32 × XW) :=
  bX4_isFigure_17 w (0 : Int32)
theorem BX4_isFigure_16 {K : CX} {l : Launch} {n0 k0 : Nat} {w : XW} {q : Int32 × XW} (h0 : bX4_isFigure_16 w = some q) : WP K l mX4_isFigure 1 20 n0 k0 (some (.int q.1)) q.2 16 [none] [] w := by
  unfold bX4_isFigure_16 at h0
  refine wp_iconst (v := (0 : Int32)) dX4_isFigure_16 (by decide) ?_
  exact WP.wk (BX4_isFigure_17 h0) trivial
def eX4_isFigure (w : XW) (l0 : Int32) : Option (Int32 × XW) :=
  if l0 < (48 : Int32) then
  bX4_isFigure_16 w
  else
  if (57 : Int32) < l0 then
  bX4_isFigure_16 w
  else
  bX4_isFigure_17 w (1 : Int32)
theorem EX4_isFigure {K : CX} {l : Launch} {n0 k0 : Nat} {w : XW} {l0 : Int32} {q : Int32 × XW} (h0 : eX4_isFigure w l0 = some q) : WP K l mX4_isFigure 1 20 n0 k0 (some (.int q.1)) q.2 0 [some (.int l0)] [] w := by
  unfold eX4_isFigure at h0
  refine wp_iload_n dX4_isFigure_0 rfl ?_
  refine wp_bipush (v := (48 : Int32)) dX4_isFigure_1 (by decide) ?_
  refine wp_icmp_lt (tgt := 16) dX4_isFigure_3 (by decide) (fun c1 => ?_) (fun c1 => ?_)
  · rw [if_pos c1] at h0
    exact WP.wk (BX4_isFigure_16 h0) trivial
  · rw [if_neg c1] at h0
    refine wp_iload_n dX4_isFigure_6 rfl ?_
    refine wp_bipush (v := (57 : Int32)) dX4_isFigure_7 (by decide) ?_
    refine wp_icmp_gt (tgt := 16) dX4_isFigure_9 (by decide) (fun c2 => ?_) (fun c2 => ?_)
    · rw [if_pos c2] at h0
      exact WP.wk (BX4_isFigure_16 h0) trivial
    · rw [if_neg c2] at h0
      refine wp_iconst (v := (1 : Int32)) dX4_isFigure_12 (by decide) ?_
      refine wp_goto (tgt := 17) dX4_isFigure_13 (by decide) ?_
      exact WP.wk (BX4_isFigure_17 h0) trivial
def fX4_isFigure (w : XW) (l0 : Int32) : Option (Int32 × XW) := eX4_isFigure w l0
theorem MX4_isFigure {K : CX} {l : Launch} {w : XW} {l0 : Int32} {q : Int32 × XW} (h : fX4_isFigure w l0 = some q) : MT K l mX4_isFigure 1 20 [.int l0] w (some (.int q.1)) q.2 := by
  unfold fX4_isFigure at h
  exact MT.of (by decide) (Nat.le_of_ble_eq_true rfl) rfl (EX4_isFigure h)
/-! FractionRun$Reader.readFigures(LFractionRun$Text;II)I: frames 2, words 41 -/
abbrev mX4_readFigures : MR := (⟨"FractionRun$Reader", "readFigures", "(LFractionRun$Text;II)I"⟩, prog_6_method_5_code, 7, (some .int))
theorem dX4_readFigures_0 : decode prog_6_method_5_code 0 = .ok (.iconst 0, 1) := by decide +kernel
theorem dX4_readFigures_1 : decode prog_6_method_5_code 1 = .ok (.istore 4, 2) := by decide +kernel
theorem dX4_readFigures_3 : decode prog_6_method_5_code 3 = .ok (.iload_n 2, 1) := by decide +kernel
theorem dX4_readFigures_4 : decode prog_6_method_5_code 4 = .ok (.istore 5, 2) := by decide +kernel
theorem dX4_readFigures_6 : decode prog_6_method_5_code 6 = .ok (.iconst 0, 1) := by decide +kernel
theorem dX4_readFigures_7 : decode prog_6_method_5_code 7 = .ok (.istore 6, 2) := by decide +kernel
theorem dX4_readFigures_9 : decode prog_6_method_5_code 9 = .ok (.iload 6, 2) := by decide +kernel
theorem dX4_readFigures_11 : decode prog_6_method_5_code 11 = .ok (.iconst 3, 1) := by decide +kernel
theorem dX4_readFigures_12 : decode prog_6_method_5_code 12 = .ok (.if_icmp .ge 41, 3) := by decide +kernel
theorem dX4_readFigures_15 : decode prog_6_method_5_code 15 = .ok (.aload_n 1, 1) := by decide +kernel
theorem dX4_readFigures_16 : decode prog_6_method_5_code 16 = .ok (.iload 5, 2) := by decide +kernel
theorem dX4_readFigures_18 : decode prog_6_method_5_code 18 = .ok (.invokevirtual 30, 3) := by decide +kernel
theorem dX4_readFigures_21 : decode prog_6_method_5_code 21 = .ok (.invokestatic 49, 3) := by decide +kernel
theorem dX4_readFigures_24 : decode prog_6_method_5_code 24 = .ok (.ifCond .eq 29, 3) := by decide +kernel
theorem dX4_readFigures_27 : decode prog_6_method_5_code 27 = .ok (.bipush 10, 2) := by decide +kernel
theorem dX4_readFigures_29 : decode prog_6_method_5_code 29 = .ok (.iload 4, 2) := by decide +kernel
theorem dX4_readFigures_31 : decode prog_6_method_5_code 31 = .ok (.imul, 1) := by decide +kernel
theorem dX4_readFigures_32 : decode prog_6_method_5_code 32 = .ok (.aload_n 1, 1) := by decide +kernel
theorem dX4_readFigures_33 : decode prog_6_method_5_code 33 = .ok (.iload 5, 2) := by decide +kernel
theorem dX4_readFigures_35 : decode prog_6_method_5_code 35 = .ok (.invokevirtual 30, 3) := by decide +kernel
theorem dX4_readFigures_38 : decode prog_6_method_5_code 38 = .ok (.bipush 48, 2) := by decide +kernel
theorem dX4_readFigures_40 : decode prog_6_method_5_code 40 = .ok (.isub, 1) := by decide +kernel
theorem dX4_readFigures_41 : decode prog_6_method_5_code 41 = .ok (.iadd, 1) := by decide +kernel
theorem dX4_readFigures_42 : decode prog_6_method_5_code 42 = .ok (.istore 4, 2) := by decide +kernel
theorem dX4_readFigures_44 : decode prog_6_method_5_code 44 = .ok (.iinc 5 1, 3) := by decide +kernel
theorem dX4_readFigures_47 : decode prog_6_method_5_code 47 = .ok (.iinc 6 1, 3) := by decide +kernel
theorem dX4_readFigures_50 : decode prog_6_method_5_code 50 = .ok (.goto (-41), 3) := by decide +kernel
theorem dX4_readFigures_53 : decode prog_6_method_5_code 53 = .ok (.aload_n 0, 1) := by decide +kernel
theorem dX4_readFigures_54 : decode prog_6_method_5_code 54 = .ok (.getfield 11, 3) := by decide +kernel
theorem dX4_readFigures_57 : decode prog_6_method_5_code 57 = .ok (.iload_n 3, 1) := by decide +kernel
theorem dX4_readFigures_58 : decode prog_6_method_5_code 58 = .ok (.iload 4, 2) := by decide +kernel
theorem dX4_readFigures_60 : decode prog_6_method_5_code 60 = .ok (.iastore, 1) := by decide +kernel
theorem dX4_readFigures_61 : decode prog_6_method_5_code 61 = .ok (.iload 5, 2) := by decide +kernel
theorem dX4_readFigures_63 : decode prog_6_method_5_code 63 = .ok (.ireturn, 1) := by decide +kernel
theorem okM_X4_readFigures : okM mX4_readFigures 3 := ⟨tw268, tw3, by decide, by decide, by decide +kernel⟩
abbrev KTX4_readFigures : Type := (XW → Nat → Nat → Int32 → Int32 → Int32 → Int32 → Option (Int32 × XW))
def bX4_readFigures_53 (k : KTX4_readFigures) (w : XW) (l0 : Nat) (l3 : Int32) (l4 : Int32) (l5 : Int32) : Option (Int32 × XW) :=
  (gR w l0 4 0).bind fun x1 =>
  (sI w 0 x1 l3 l4).bind fun w4 =>
  some (l5, w4)
theorem BX4_readFigures_53 {K : CX} {l : Launch} {n0 k0 : Nat} {k : KTX4_readFigures} (hk0 : ∀ (w : XW) (l0 : Nat) (l1 : Nat) (l3 : Int32) (l4 : Int32) (l5 : Int32) (l6 : Int32) (q : Int32 × XW), k w l0 l1 l3 l4 l5 l6 = some q → WP K l mX4_readFigures 2 41 n0 k0 (some (.int q.1)) q.2 9 [some (.ref l0), some (.ref l1), none, some (.int l3), some (.int l4), some (.int l5), some (.int l6)] [] w) {w : XW} {l0 : Nat} {l3 : Int32} {l4 : Int32} {l5 : Int32} {q : Int32 × XW} (h0 : bX4_readFigures_53 k w l0 l3 l4 l5 = some q) : WP K l mX4_readFigures 2 41 n0 k0 (some (.int q.1)) q.2 53 [some (.ref l0), none, none, some (.int l3), some (.int l4), some (.int l5), none] [] w := by
  unfold bX4_readFigures_53 at h0
  refine wp_aload_n dX4_readFigures_53 rfl ?_
  obtain ⟨x1, e3, h2⟩ := Option.bind_eq_some_iff.mp h0
  clear h0
  refine wp_getR okX4 (k := 0) (by decide) tw47 dX4_readFigures_54 e3 ?_
  refine wp_iload_n dX4_readFigures_57 rfl ?_
  refine wp_iload dX4_readFigures_58 rfl ?_
  obtain ⟨w4, e6, h5⟩ := Option.bind_eq_some_iff.mp h2
  clear h2
  refine wp_iast dX4_readFigures_60 e6 ?_
  refine wp_iload dX4_readFigures_61 rfl ?_
  cases h5
  exact wp_iret rfl dX4_readFigures_63
def hX4_readFigures_9 (k : KTX4_readFigures) (w : XW) (l0 : Nat) (l1 : Nat) (l3 : Int32) (l4 : Int32) (l5 : Int32) (l6 : Int32) : Option (Int32 × XW) :=
  if (3 : Int32) ≤ l6 then
  bX4_readFigures_53 k w l0 l3 l4 l5
  else
  (fX6_letterAt w l1 l5).bind fun q2 =>
  (fX4_isFigure q2.2 q2.1).bind fun q5 =>
  if q5.1 = 0 then
  bX4_readFigures_53 k q5.2 l0 l3 l4 l5
  else
  (fX6_letterAt q5.2 l1 l5).bind fun q9 =>
  k q9.2 l0 l1 l3 (((10 : Int32) * l4) + (q9.1 - (48 : Int32))) (l5 + (1 : Int32)) (l6 + (1 : Int32))
theorem HX4_readFigures_9 {K : CX} {l : Launch} {n0 k0 : Nat} {k : KTX4_readFigures} (hk0 : ∀ (w : XW) (l0 : Nat) (l1 : Nat) (l3 : Int32) (l4 : Int32) (l5 : Int32) (l6 : Int32) (q : Int32 × XW), k w l0 l1 l3 l4 l5 l6 = some q → WP K l mX4_readFigures 2 41 n0 k0 (some (.int q.1)) q.2 9 [some (.ref l0), some (.ref l1), none, some (.int l3), some (.int l4), some (.int l5), some (.int l6)] [] w) {w : XW} {l0 : Nat} {l1 : Nat} {l3 : Int32} {l4 : Int32} {l5 : Int32} {l6 : Int32} {q : Int32 × XW} (h0 : hX4_readFigures_9 k w l0 l1 l3 l4 l5 l6 = some q) : WP K l mX4_readFigures 2 41 n0 k0 (some (.int q.1)) q.2 9 [some (.ref l0), some (.ref l1), none, some (.int l3), some (.int l4), some (.int l5), some (.int l6)] [] w := by
  unfold hX4_readFigures_9 at h0
  refine wp_iload dX4_readFigures_9 rfl ?_
  refine wp_iconst (v := (3 : Int32)) dX4_readFigures_11 (by decide) ?_
  refine wp_icmp_ge (tgt := 53) dX4_readFigures_12 (by decide) (fun c1 => ?_) (fun c1 => ?_)
  · rw [if_pos c1] at h0
    exact WP.wk (BX4_readFigures_53 hk0 h0) (And.intro rfl (And.intro rfl (And.intro rfl (And.intro rfl trivial))))
  · rw [if_neg c1] at h0
    refine wp_aload_n dX4_readFigures_15 rfl ?_
    refine wp_iload dX4_readFigures_16 rfl ?_
    obtain ⟨q2, e4, h3⟩ := Option.bind_eq_some_iff.mp h0
    clear h0
    refine wp_Vi (As := [.int l5]) (S := []) okM_X6_letterAt tw258 tw259 tw257 (OX6_letterAt e4) rfl rfl rfl ⟨(Nat.le_of_ble_eq_true rfl), (Nat.le_of_ble_eq_true rfl)⟩ (Nat.le_of_ble_eq_true rfl) rfl dX4_readFigures_18 (MX6_letterAt e4) ?_
    obtain ⟨q5, e7, h6⟩ := Option.bind_eq_some_iff.mp h3
    clear h3
    refine wp_Si (As := [.int q2.1]) (S := []) okM_X4_isFigure tw270 tw269 rfl ⟨(Nat.le_of_ble_eq_true rfl), (Nat.le_of_ble_eq_true rfl)⟩ (Nat.le_of_ble_eq_true rfl) rfl dX4_readFigures_21 (MX4_isFigure e7) ?_
    refine wp_if_eq (tgt := 53) dX4_readFigures_24 (by decide) (fun c8 => ?_) (fun c8 => ?_)
    · rw [if_pos c8] at h6
      exact WP.wk (BX4_readFigures_53 hk0 h6) (And.intro rfl (And.intro rfl (And.intro rfl (And.intro rfl trivial))))
    · rw [if_neg c8] at h6
      refine wp_bipush (v := (10 : Int32)) dX4_readFigures_27 (by decide) ?_
      refine wp_iload dX4_readFigures_29 rfl ?_
      refine wp_imul dX4_readFigures_31 ?_
      refine wp_aload_n dX4_readFigures_32 rfl ?_
      refine wp_iload dX4_readFigures_33 rfl ?_
      obtain ⟨q9, e11, h10⟩ := Option.bind_eq_some_iff.mp h6
      clear h6
      refine wp_Vi (As := [.int l5]) (S := [.int ((10 : Int32) * l4)]) okM_X6_letterAt tw258 tw259 tw257 (OX6_letterAt e11) rfl rfl rfl ⟨(Nat.le_of_ble_eq_true rfl), (Nat.le_of_ble_eq_true rfl)⟩ (Nat.le_of_ble_eq_true rfl) rfl dX4_readFigures_35 (MX6_letterAt e11) ?_
      refine wp_bipush (v := (48 : Int32)) dX4_readFigures_38 (by decide) ?_
      refine wp_isub dX4_readFigures_40 ?_
      refine wp_iadd dX4_readFigures_41 ?_
      refine wp_istore (L1 := [some (.ref l0), some (.ref l1), none, some (.int l3), some (.int (((10 : Int32) * l4) + (q9.1 - (48 : Int32)))), some (.int l5), some (.int l6)]) dX4_readFigures_42 (Nat.le_of_ble_eq_true rfl) rfl ?_
      refine wp_iinc (v := (l5 + (1 : Int32))) (L1 := [some (.ref l0), some (.ref l1), none, some (.int l3), some (.int (((10 : Int32) * l4) + (q9.1 - (48 : Int32)))), some (.int (l5 + (1 : Int32))), some (.int l6)]) dX4_readFigures_44 (Nat.le_of_ble_eq_true rfl) rfl (congrArg (fun z => l5 + z) (by decide)) rfl ?_
      refine wp_iinc (v := (l6 + (1 : Int32))) (L1 := [some (.ref l0), some (.ref l1), none, some (.int l3), some (.int (((10 : Int32) * l4) + (q9.1 - (48 : Int32)))), some (.int (l5 + (1 : Int32))), some (.int (l6 + (1 : Int32)))]) dX4_readFigures_47 (Nat.le_of_ble_eq_true rfl) rfl (congrArg (fun z => l6 + z) (by decide)) rfl ?_
      refine wp_goto (tgt := 9) dX4_readFigures_50 (by decide) ?_
      exact WP.wk (hk0 _ _ _ _ _ _ _ _ h10) (And.intro rfl (And.intro rfl (And.intro rfl (And.intro rfl (And.intro rfl (And.intro rfl trivial))))))
def eX4_readFigures (k : KTX4_readFigures) (w : XW) (l0 : Nat) (l1 : Nat) (l2 : Int32) (l3 : Int32) : Option (Int32 × XW) :=
  k w l0 l1 l3 (0 : Int32) l2 (0 : Int32)
theorem EX4_readFigures {K : CX} {l : Launch} {n0 k0 : Nat} {k : KTX4_readFigures} (hk0 : ∀ (w : XW) (l0 : Nat) (l1 : Nat) (l3 : Int32) (l4 : Int32) (l5 : Int32) (l6 : Int32) (q : Int32 × XW), k w l0 l1 l3 l4 l5 l6 = some q → WP K l mX4_readFigures 2 41 n0 k0 (some (.int q.1)) q.2 9 [some (.ref l0), some (.ref l1), none, some (.int l3), some (.int l4), some (.int l5), some (.int l6)] [] w) {w : XW} {l0 : Nat} {l1 : Nat} {l2 : Int32} {l3 : Int32} {q : Int32 × XW} (h0 : eX4_readFigures k w l0 l1 l2 l3 = some q) : WP K l mX4_readFigures 2 41 n0 k0 (some (.int q.1)) q.2 0 [some (.ref l0), some (.ref l1), some (.int l2), some (.int l3), none, none, none] [] w := by
  unfold eX4_readFigures at h0
  refine wp_iconst (v := (0 : Int32)) dX4_readFigures_0 (by decide) ?_
  refine wp_istore (L1 := [some (.ref l0), some (.ref l1), some (.int l2), some (.int l3), some (.int (0 : Int32)), none, none]) dX4_readFigures_1 (Nat.le_of_ble_eq_true rfl) rfl ?_
  refine wp_iload_n dX4_readFigures_3 rfl ?_
  refine wp_istore (L1 := [some (.ref l0), some (.ref l1), some (.int l2), some (.int l3), some (.int (0 : Int32)), some (.int l2), none]) dX4_readFigures_4 (Nat.le_of_ble_eq_true rfl) rfl ?_
  refine wp_iconst (v := (0 : Int32)) dX4_readFigures_6 (by decide) ?_
  refine wp_istore (L1 := [some (.ref l0), some (.ref l1), some (.int l2), some (.int l3), some (.int (0 : Int32)), some (.int l2), some (.int (0 : Int32))]) dX4_readFigures_7 (Nat.le_of_ble_eq_true rfl) rfl ?_
  exact WP.wk (hk0 _ _ _ _ _ _ _ _ h0) (And.intro rfl (And.intro rfl (And.intro rfl (And.intro rfl (And.intro rfl (And.intro rfl trivial))))))
def loX4_readFigures : Nat → KTX4_readFigures
  | 0 => fun _ _ _ _ _ _ _ => none
  | n + 1 => hX4_readFigures_9 (loX4_readFigures n)
theorem LOX4_readFigures {K : CX} {l : Launch} {n0 k0 : Nat} : ∀ n : Nat, (∀ (w : XW) (l0 : Nat) (l1 : Nat) (l3 : Int32) (l4 : Int32) (l5 : Int32) (l6 : Int32) (q : Int32 × XW), (loX4_readFigures n) w l0 l1 l3 l4 l5 l6 = some q → WP K l mX4_readFigures 2 41 n0 k0 (some (.int q.1)) q.2 9 [some (.ref l0), some (.ref l1), none, some (.int l3), some (.int l4), some (.int l5), some (.int l6)] [] w) := by
  intro n
  induction n with
  | zero => exact fun _ _ _ _ _ _ _ q h => (by cases h)
  | succ n ih => exact fun _ _ _ _ _ _ _ q h => HX4_readFigures_9 ih h
def fX4_readFigures (w : XW) (l0 : Nat) (l1 : Nat) (l2 : Int32) (l3 : Int32) : Option (Int32 × XW) := if isO w l0 4 = true then eX4_readFigures (loX4_readFigures FU) w l0 l1 l2 l3 else none
theorem OX4_readFigures {w : XW} {l0 : Nat} {l1 : Nat} {l2 : Int32} {l3 : Int32} {q : Int32 × XW} (h : fX4_readFigures w l0 l1 l2 l3 = some q) : isO w l0 4 = true := Decidable.byContradiction fun z => by unfold fX4_readFigures at h; rw [if_neg z] at h; cases h
theorem MX4_readFigures {K : CX} {l : Launch} {w : XW} {l0 : Nat} {l1 : Nat} {l2 : Int32} {l3 : Int32} {q : Int32 × XW} (h : fX4_readFigures w l0 l1 l2 l3 = some q) : MT K l mX4_readFigures 2 41 [.ref l0, .ref l1, .int l2, .int l3] w (some (.int q.1)) q.2 := by
  have z := OX4_readFigures h
  unfold fX4_readFigures at h
  rw [if_pos z] at h
  exact MT.of (by decide) (Nat.le_of_ble_eq_true rfl) rfl (EX4_readFigures (LOX4_readFigures FU) h)
