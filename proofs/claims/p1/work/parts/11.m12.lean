/-! FractionRun.greatest(I)I: frames 4, words 93 -/
abbrev mX7_greatest : MR := (⟨"FractionRun", "greatest", "(I)I"⟩, prog_1_method_17_code, 4, (some .int))
theorem dX7_greatest_0 : decode prog_1_method_17_code 0 = .ok (.iload_n 1, 1) := by decide +kernel
theorem dX7_greatest_1 : decode prog_1_method_17_code 1 = .ok (.invokestatic 144, 3) := by decide +kernel
theorem dX7_greatest_4 : decode prog_1_method_17_code 4 = .ok (.ifCond .ne 5, 3) := by decide +kernel
theorem dX7_greatest_7 : decode prog_1_method_17_code 7 = .ok (.iconst (-1), 1) := by decide +kernel
theorem dX7_greatest_8 : decode prog_1_method_17_code 8 = .ok (.ireturn, 1) := by decide +kernel
theorem dX7_greatest_9 : decode prog_1_method_17_code 9 = .ok (.aload_n 0, 1) := by decide +kernel
theorem dX7_greatest_10 : decode prog_1_method_17_code 10 = .ok (.getfield 40, 3) := by decide +kernel
theorem dX7_greatest_13 : decode prog_1_method_17_code 13 = .ok (.aload_n 0, 1) := by decide +kernel
theorem dX7_greatest_14 : decode prog_1_method_17_code 14 = .ok (.getfield 36, 3) := by decide +kernel
theorem dX7_greatest_17 : decode prog_1_method_17_code 17 = .ok (.invokevirtual 189, 3) := by decide +kernel
theorem dX7_greatest_20 : decode prog_1_method_17_code 20 = .ok (.aload_n 0, 1) := by decide +kernel
theorem dX7_greatest_21 : decode prog_1_method_17_code 21 = .ok (.getfield 40, 3) := by decide +kernel
theorem dX7_greatest_24 : decode prog_1_method_17_code 24 = .ok (.getfield 147, 3) := by decide +kernel
theorem dX7_greatest_27 : decode prog_1_method_17_code 27 = .ok (.iload_n 1, 1) := by decide +kernel
theorem dX7_greatest_28 : decode prog_1_method_17_code 28 = .ok (.iaload, 1) := by decide +kernel
theorem dX7_greatest_29 : decode prog_1_method_17_code 29 = .ok (.istore_n 2, 1) := by decide +kernel
theorem dX7_greatest_30 : decode prog_1_method_17_code 30 = .ok (.iconst 0, 1) := by decide +kernel
theorem dX7_greatest_31 : decode prog_1_method_17_code 31 = .ok (.istore_n 3, 1) := by decide +kernel
theorem dX7_greatest_32 : decode prog_1_method_17_code 32 = .ok (.iload_n 3, 1) := by decide +kernel
theorem dX7_greatest_33 : decode prog_1_method_17_code 33 = .ok (.sipush 200, 3) := by decide +kernel
theorem dX7_greatest_36 : decode prog_1_method_17_code 36 = .ok (.if_icmp .ge 39, 3) := by decide +kernel
theorem dX7_greatest_39 : decode prog_1_method_17_code 39 = .ok (.aload_n 0, 1) := by decide +kernel
theorem dX7_greatest_40 : decode prog_1_method_17_code 40 = .ok (.getfield 40, 3) := by decide +kernel
theorem dX7_greatest_43 : decode prog_1_method_17_code 43 = .ok (.aload_n 0, 1) := by decide +kernel
theorem dX7_greatest_44 : decode prog_1_method_17_code 44 = .ok (.getfield 26, 3) := by decide +kernel
theorem dX7_greatest_47 : decode prog_1_method_17_code 47 = .ok (.invokevirtual 208, 3) := by decide +kernel
theorem dX7_greatest_50 : decode prog_1_method_17_code 50 = .ok (.bipush (-4), 2) := by decide +kernel
theorem dX7_greatest_52 : decode prog_1_method_17_code 52 = .ok (.if_icmp .eq 23, 3) := by decide +kernel
theorem dX7_greatest_55 : decode prog_1_method_17_code 55 = .ok (.iload_n 2, 1) := by decide +kernel
theorem dX7_greatest_56 : decode prog_1_method_17_code 56 = .ok (.aload_n 0, 1) := by decide +kernel
theorem dX7_greatest_57 : decode prog_1_method_17_code 57 = .ok (.getfield 40, 3) := by decide +kernel
theorem dX7_greatest_60 : decode prog_1_method_17_code 60 = .ok (.getfield 147, 3) := by decide +kernel
theorem dX7_greatest_63 : decode prog_1_method_17_code 63 = .ok (.iload_n 1, 1) := by decide +kernel
theorem dX7_greatest_64 : decode prog_1_method_17_code 64 = .ok (.iaload, 1) := by decide +kernel
theorem dX7_greatest_65 : decode prog_1_method_17_code 65 = .ok (.invokestatic 211, 3) := by decide +kernel
theorem dX7_greatest_68 : decode prog_1_method_17_code 68 = .ok (.istore_n 2, 1) := by decide +kernel
theorem dX7_greatest_69 : decode prog_1_method_17_code 69 = .ok (.iinc 3 1, 3) := by decide +kernel
theorem dX7_greatest_72 : decode prog_1_method_17_code 72 = .ok (.goto (-40), 3) := by decide +kernel
theorem dX7_greatest_75 : decode prog_1_method_17_code 75 = .ok (.iload_n 2, 1) := by decide +kernel
theorem dX7_greatest_76 : decode prog_1_method_17_code 76 = .ok (.ireturn, 1) := by decide +kernel
theorem okM_X7_greatest : okM mX7_greatest 1 := ⟨tw519, tw1, by decide, by decide, by decide +kernel⟩
abbrev KTX7_greatest : Type := (XW → Nat → Int32 → Int32 → Int32 → Option (Int32 × XW))
def bX7_greatest_75 (k : KTX7_greatest) (w : XW) (l2 : Int32) : Option (Int32 × XW) :=
  some (l2, w)
theorem BX7_greatest_75 {K : CX} {l : Launch} {n0 k0 : Nat} {k : KTX7_greatest} (hk0 : ∀ (w : XW) (l0 : Nat) (l1 : Int32) (l2 : Int32) (l3 : Int32) (q : Int32 × XW), k w l0 l1 l2 l3 = some q → WP K l mX7_greatest 4 93 n0 k0 (some (.int q.1)) q.2 32 [some (.ref l0), some (.int l1), some (.int l2), some (.int l3)] [] w) {w : XW} {l2 : Int32} {q : Int32 × XW} (h0 : bX7_greatest_75 k w l2 = some q) : WP K l mX7_greatest 4 93 n0 k0 (some (.int q.1)) q.2 75 [none, none, some (.int l2), none] [] w := by
  unfold bX7_greatest_75 at h0
  refine wp_iload_n dX7_greatest_75 rfl ?_
  cases h0
  exact wp_iret rfl dX7_greatest_76
def hX7_greatest_32 (k : KTX7_greatest) (w : XW) (l0 : Nat) (l1 : Int32) (l2 : Int32) (l3 : Int32) : Option (Int32 × XW) :=
  if (200 : Int32) ≤ l3 then
  bX7_greatest_75 k w l2
  else
  (gR w l0 7 5).bind fun x2 =>
  (gR w l0 7 2).bind fun x5 =>
  (fX5_takeStep w x2 x5).bind fun q8 =>
  if q8.1 = (-4 : Int32) then
  bX7_greatest_75 k q8.2 l2
  else
  (gR q8.2 l0 7 5).bind fun x12 =>
  (gR q8.2 x12 5 0).bind fun x15 =>
  (aI q8.2 0 x15 l1).bind fun x18 =>
  k q8.2 l0 l1 (imx l2 x18) (l3 + (1 : Int32))
theorem HX7_greatest_32 {K : CX} {l : Launch} {n0 k0 : Nat} {k : KTX7_greatest} (hk0 : ∀ (w : XW) (l0 : Nat) (l1 : Int32) (l2 : Int32) (l3 : Int32) (q : Int32 × XW), k w l0 l1 l2 l3 = some q → WP K l mX7_greatest 4 93 n0 k0 (some (.int q.1)) q.2 32 [some (.ref l0), some (.int l1), some (.int l2), some (.int l3)] [] w) {w : XW} {l0 : Nat} {l1 : Int32} {l2 : Int32} {l3 : Int32} {q : Int32 × XW} (h0 : hX7_greatest_32 k w l0 l1 l2 l3 = some q) : WP K l mX7_greatest 4 93 n0 k0 (some (.int q.1)) q.2 32 [some (.ref l0), some (.int l1), some (.int l2), some (.int l3)] [] w := by
  unfold hX7_greatest_32 at h0
  refine wp_iload_n dX7_greatest_32 rfl ?_
  refine wp_sipush (v := (200 : Int32)) dX7_greatest_33 (by decide) ?_
  refine wp_icmp_ge (tgt := 75) dX7_greatest_36 (by decide) (fun c1 => ?_) (fun c1 => ?_)
  · rw [if_pos c1] at h0
    exact WP.wk (BX7_greatest_75 hk0 h0) (And.intro rfl trivial)
  · rw [if_neg c1] at h0
    refine wp_aload_n dX7_greatest_39 rfl ?_
    obtain ⟨x2, e4, h3⟩ := Option.bind_eq_some_iff.mp h0
    clear h0
    refine wp_getR okX7 (k := 5) (by decide) tw303 dX7_greatest_40 e4 ?_
    refine wp_aload_n dX7_greatest_43 rfl ?_
    obtain ⟨x5, e7, h6⟩ := Option.bind_eq_some_iff.mp h3
    clear h3
    refine wp_getR okX7 (k := 2) (by decide) tw300 dX7_greatest_44 e7 ?_
    obtain ⟨q8, e10, h9⟩ := Option.bind_eq_some_iff.mp h6
    clear h6
    refine wp_Vi (As := [.ref x5]) (S := []) okM_X5_takeStep tw431 tw432 tw520 (OX5_takeStep e10) rfl rfl rfl ⟨(Nat.le_of_ble_eq_true rfl), (Nat.le_of_ble_eq_true rfl)⟩ (Nat.le_of_ble_eq_true rfl) rfl dX7_greatest_47 (MX5_takeStep e10) ?_
    refine wp_bipush (v := (-4 : Int32)) dX7_greatest_50 (by decide) ?_
    refine wp_icmp_eq (tgt := 75) dX7_greatest_52 (by decide) (fun c11 => ?_) (fun c11 => ?_)
    · rw [if_pos c11] at h9
      exact WP.wk (BX7_greatest_75 hk0 h9) (And.intro rfl trivial)
    · rw [if_neg c11] at h9
      refine wp_iload_n dX7_greatest_55 rfl ?_
      refine wp_aload_n dX7_greatest_56 rfl ?_
      obtain ⟨x12, e14, h13⟩ := Option.bind_eq_some_iff.mp h9
      clear h9
      refine wp_getR okX7 (k := 5) (by decide) tw303 dX7_greatest_57 e14 ?_
      obtain ⟨x15, e17, h16⟩ := Option.bind_eq_some_iff.mp h13
      clear h13
      refine wp_getR okX5 (k := 0) (by decide) tw94 dX7_greatest_60 e17 ?_
      refine wp_iload_n dX7_greatest_63 rfl ?_
      obtain ⟨x18, e20, h19⟩ := Option.bind_eq_some_iff.mp h16
      clear h16
      refine wp_iald dX7_greatest_64 e20 ?_
      refine wp_imx tw279 tw280 tw13 twMath_max ⟨(Nat.le_of_ble_eq_true rfl), (Nat.le_of_ble_eq_true rfl)⟩ rfl dX7_greatest_65 ?_
      refine wp_istore_n (L1 := [some (.ref l0), some (.int l1), some (.int (imx l2 x18)), some (.int l3)]) dX7_greatest_68 (Nat.le_of_ble_eq_true rfl) rfl ?_
      refine wp_iinc (v := (l3 + (1 : Int32))) (L1 := [some (.ref l0), some (.int l1), some (.int (imx l2 x18)), some (.int (l3 + (1 : Int32)))]) dX7_greatest_69 (Nat.le_of_ble_eq_true rfl) rfl (congrArg (fun z => l3 + z) (by decide)) rfl ?_
      refine wp_goto (tgt := 32) dX7_greatest_72 (by decide) ?_
      exact WP.wk (hk0 _ _ _ _ _ _ h19) (And.intro rfl (And.intro rfl (And.intro rfl (And.intro rfl trivial))))
def eX7_greatest (k : KTX7_greatest) (w : XW) (l0 : Nat) (l1 : Int32) : Option (Int32 × XW) :=
  (fX7_isPrime w l1).bind fun q1 =>
  if q1.1 = 0 then
  some ((-1 : Int32), q1.2)
  else
  (gR q1.2 l0 7 5).bind fun x5 =>
  (gR q1.2 l0 7 4).bind fun x8 =>
  (fX5_copyFrom q1.2 x5 x8).bind fun q11 =>
  (gR q11 l0 7 5).bind fun x14 =>
  (gR q11 x14 5 0).bind fun x17 =>
  (aI q11 0 x17 l1).bind fun x20 =>
  k q11 l0 l1 x20 (0 : Int32)
theorem EX7_greatest {K : CX} {l : Launch} {n0 k0 : Nat} {k : KTX7_greatest} (hk0 : ∀ (w : XW) (l0 : Nat) (l1 : Int32) (l2 : Int32) (l3 : Int32) (q : Int32 × XW), k w l0 l1 l2 l3 = some q → WP K l mX7_greatest 4 93 n0 k0 (some (.int q.1)) q.2 32 [some (.ref l0), some (.int l1), some (.int l2), some (.int l3)] [] w) {w : XW} {l0 : Nat} {l1 : Int32} {q : Int32 × XW} (h0 : eX7_greatest k w l0 l1 = some q) : WP K l mX7_greatest 4 93 n0 k0 (some (.int q.1)) q.2 0 [some (.ref l0), some (.int l1), none, none] [] w := by
  unfold eX7_greatest at h0
  refine wp_iload_n dX7_greatest_0 rfl ?_
  obtain ⟨q1, e3, h2⟩ := Option.bind_eq_some_iff.mp h0
  clear h0
  refine wp_Si (As := [.int l1]) (S := []) okM_X7_isPrime tw399 tw398 rfl ⟨(Nat.le_of_ble_eq_true rfl), (Nat.le_of_ble_eq_true rfl)⟩ (Nat.le_of_ble_eq_true rfl) rfl dX7_greatest_1 (MX7_isPrime e3) ?_
  refine wp_if_ne (tgt := 9) dX7_greatest_4 (by decide) (fun c4 => ?_) (fun c4 => ?_)
  · rw [if_neg c4] at h2
    refine wp_aload_n dX7_greatest_9 rfl ?_
    obtain ⟨x5, e7, h6⟩ := Option.bind_eq_some_iff.mp h2
    clear h2
    refine wp_getR okX7 (k := 5) (by decide) tw303 dX7_greatest_10 e7 ?_
    refine wp_aload_n dX7_greatest_13 rfl ?_
    obtain ⟨x8, e10, h9⟩ := Option.bind_eq_some_iff.mp h6
    clear h6
    refine wp_getR okX7 (k := 4) (by decide) tw302 dX7_greatest_14 e10 ?_
    obtain ⟨q11, e13, h12⟩ := Option.bind_eq_some_iff.mp h9
    clear h9
    refine wp_Vv (As := [.ref x8]) (S := []) okM_X5_copyFrom tw419 tw420 tw474 (OX5_copyFrom e13) rfl rfl rfl ⟨(Nat.le_of_ble_eq_true rfl), (Nat.le_of_ble_eq_true rfl)⟩ (Nat.le_of_ble_eq_true rfl) rfl dX7_greatest_17 (MX5_copyFrom e13) ?_
    refine wp_aload_n dX7_greatest_20 rfl ?_
    obtain ⟨x14, e16, h15⟩ := Option.bind_eq_some_iff.mp h12
    clear h12
    refine wp_getR okX7 (k := 5) (by decide) tw303 dX7_greatest_21 e16 ?_
    obtain ⟨x17, e19, h18⟩ := Option.bind_eq_some_iff.mp h15
    clear h15
    refine wp_getR okX5 (k := 0) (by decide) tw94 dX7_greatest_24 e19 ?_
    refine wp_iload_n dX7_greatest_27 rfl ?_
    obtain ⟨x20, e22, h21⟩ := Option.bind_eq_some_iff.mp h18
    clear h18
    refine wp_iald dX7_greatest_28 e22 ?_
    refine wp_istore_n (L1 := [some (.ref l0), some (.int l1), some (.int x20), none]) dX7_greatest_29 (Nat.le_of_ble_eq_true rfl) rfl ?_
    refine wp_iconst (v := (0 : Int32)) dX7_greatest_30 (by decide) ?_
    refine wp_istore_n (L1 := [some (.ref l0), some (.int l1), some (.int x20), some (.int (0 : Int32))]) dX7_greatest_31 (Nat.le_of_ble_eq_true rfl) rfl ?_
    exact WP.wk (hk0 _ _ _ _ _ _ h21) (And.intro rfl (And.intro rfl (And.intro rfl (And.intro rfl trivial))))
  · rw [if_pos c4] at h2
    refine wp_iconst (v := (-1 : Int32)) dX7_greatest_7 (by decide) ?_
    cases h2
    exact wp_iret rfl dX7_greatest_8
def loX7_greatest : Nat → KTX7_greatest
  | 0 => fun _ _ _ _ _ => none
  | n + 1 => hX7_greatest_32 (loX7_greatest n)
theorem LOX7_greatest {K : CX} {l : Launch} {n0 k0 : Nat} : ∀ n : Nat, (∀ (w : XW) (l0 : Nat) (l1 : Int32) (l2 : Int32) (l3 : Int32) (q : Int32 × XW), (loX7_greatest n) w l0 l1 l2 l3 = some q → WP K l mX7_greatest 4 93 n0 k0 (some (.int q.1)) q.2 32 [some (.ref l0), some (.int l1), some (.int l2), some (.int l3)] [] w) := by
  intro n
  induction n with
  | zero => exact fun _ _ _ _ _ q h => (by cases h)
  | succ n ih => exact fun _ _ _ _ _ q h => HX7_greatest_32 ih h
def fX7_greatest (w : XW) (l0 : Nat) (l1 : Int32) : Option (Int32 × XW) := if isO w l0 7 = true then eX7_greatest (loX7_greatest FU) w l0 l1 else none
theorem OX7_greatest {w : XW} {l0 : Nat} {l1 : Int32} {q : Int32 × XW} (h : fX7_greatest w l0 l1 = some q) : isO w l0 7 = true := Decidable.byContradiction fun z => by unfold fX7_greatest at h; rw [if_neg z] at h; cases h
theorem MX7_greatest {K : CX} {l : Launch} {w : XW} {l0 : Nat} {l1 : Int32} {q : Int32 × XW} (h : fX7_greatest w l0 l1 = some q) : MT K l mX7_greatest 4 93 [.ref l0, .int l1] w (some (.int q.1)) q.2 := by
  have z := OX7_greatest h
  unfold fX7_greatest at h
  rw [if_pos z] at h
  exact MT.of (by decide) (Nat.le_of_ble_eq_true rfl) rfl (EX7_greatest (LOX7_greatest FU) h)
/-! FractionRunModel.larger(II)I: frames 1, words 20 -/
abbrev mX8_larger : MR := (⟨"FractionRunModel", "larger", "(II)I"⟩, prog_10_method_4_code, 2, (some .int))
theorem dX8_larger_0 : decode prog_10_method_4_code 0 = .ok (.iload_n 0, 1) := by decide +kernel
theorem dX8_larger_1 : decode prog_10_method_4_code 1 = .ok (.iload_n 1, 1) := by decide +kernel
theorem dX8_larger_2 : decode prog_10_method_4_code 2 = .ok (.if_icmp .ge 7, 3) := by decide +kernel
theorem dX8_larger_5 : decode prog_10_method_4_code 5 = .ok (.iload_n 1, 1) := by decide +kernel
theorem dX8_larger_6 : decode prog_10_method_4_code 6 = .ok (.goto 4, 3) := by decide +kernel
theorem dX8_larger_9 : decode prog_10_method_4_code 9 = .ok (.iload_n 0, 1) := by decide +kernel
theorem dX8_larger_10 : decode prog_10_method_4_code 10 = .ok (.ireturn, 1) := by decide +kernel
theorem okM_X8_larger : okM mX8_larger 2 := ⟨tw949, tw15, by decide, by decide, by decide +kernel⟩
def bX8_larger_10 (w : XW) (s0 : Int32) : Option (Int32 × XW) :=
  some (s0, w)
theorem BX8_larger_10 {K : CX} {l : Launch} {n0 k0 : Nat} {w : XW} {s0 : Int32} {q : Int32 × XW} (h0 : bX8_larger_10 w s0 = some q) : WP K l mX8_larger 1 20 n0 k0 (some (.int q.1)) q.2 10 [none, none] [.int s0] w := by
  unfold bX8_larger_10 at h0
  cases h0
  exact wp_iret rfl dX8_larger_10
def eX8_larger (w : XW) (l0 : Int32) (l1 : Int32) : Option (Int32 × XW) :=
  if l1 ≤ l0 then
  bX8_larger_10 w l0
  else
  bX8_larger_10 w l1
theorem EX8_larger {K : CX} {l : Launch} {n0 k0 : Nat} {w : XW} {l0 : Int32} {l1 : Int32} {q : Int32 × XW} (h0 : eX8_larger w l0 l1 = some q) : WP K l mX8_larger 1 20 n0 k0 (some (.int q.1)) q.2 0 [some (.int l0), some (.int l1)] [] w := by
  unfold eX8_larger at h0
  refine wp_iload_n dX8_larger_0 rfl ?_
  refine wp_iload_n dX8_larger_1 rfl ?_
  refine wp_icmp_ge (tgt := 9) dX8_larger_2 (by decide) (fun c1 => ?_) (fun c1 => ?_)
  · rw [if_pos c1] at h0
    refine wp_iload_n dX8_larger_9 rfl ?_
    exact WP.wk (BX8_larger_10 h0) trivial
  · rw [if_neg c1] at h0
    refine wp_iload_n dX8_larger_5 rfl ?_
    refine wp_goto (tgt := 10) dX8_larger_6 (by decide) ?_
    exact WP.wk (BX8_larger_10 h0) trivial
def fX8_larger (w : XW) (l0 : Int32) (l1 : Int32) : Option (Int32 × XW) := eX8_larger w l0 l1
theorem MX8_larger {K : CX} {l : Launch} {w : XW} {l0 : Int32} {l1 : Int32} {q : Int32 × XW} (h : fX8_larger w l0 l1 = some q) : MT K l mX8_larger 1 20 [.int l0, .int l1] w (some (.int q.1)) q.2 := by
  unfold fX8_larger at h
  exact MT.of (by decide) (Nat.le_of_ble_eq_true rfl) rfl (EX8_larger h)
/-! FractionRunModel.greatest(I)I: frames 6, words 140 -/
abbrev mX8_greatest : MR := (⟨"FractionRunModel", "greatest", "(I)I"⟩, prog_10_method_46_code, 4, (some .int))
theorem dX8_greatest_0 : decode prog_10_method_46_code 0 = .ok (.iload_n 1, 1) := by decide +kernel
theorem dX8_greatest_1 : decode prog_10_method_46_code 1 = .ok (.i2l, 1) := by decide +kernel
theorem dX8_greatest_2 : decode prog_10_method_46_code 2 = .ok (.lconst 0, 1) := by decide +kernel
theorem dX8_greatest_3 : decode prog_10_method_46_code 3 = .ok (.ldc2_w 161, 3) := by decide +kernel
theorem dX8_greatest_6 : decode prog_10_method_46_code 6 = .ok (.invokestatic 88, 3) := by decide +kernel
theorem dX8_greatest_9 : decode prog_10_method_46_code 9 = .ok (.ifCond .ne 5, 3) := by decide +kernel
theorem dX8_greatest_12 : decode prog_10_method_46_code 12 = .ok (.iconst (-1), 1) := by decide +kernel
theorem dX8_greatest_13 : decode prog_10_method_46_code 13 = .ok (.ireturn, 1) := by decide +kernel
theorem dX8_greatest_14 : decode prog_10_method_46_code 14 = .ok (.aload_n 0, 1) := by decide +kernel
theorem dX8_greatest_15 : decode prog_10_method_46_code 15 = .ok (.iconst 0, 1) := by decide +kernel
theorem dX8_greatest_16 : decode prog_10_method_46_code 16 = .ok (.sipush 198, 3) := by decide +kernel
theorem dX8_greatest_19 : decode prog_10_method_46_code 19 = .ok (.invokevirtual 155, 3) := by decide +kernel
theorem dX8_greatest_22 : decode prog_10_method_46_code 22 = .ok (.aload_n 0, 1) := by decide +kernel
theorem dX8_greatest_23 : decode prog_10_method_46_code 23 = .ok (.getfield 25, 3) := by decide +kernel
theorem dX8_greatest_26 : decode prog_10_method_46_code 26 = .ok (.iload_n 1, 1) := by decide +kernel
theorem dX8_greatest_27 : decode prog_10_method_46_code 27 = .ok (.iaload, 1) := by decide +kernel
theorem dX8_greatest_28 : decode prog_10_method_46_code 28 = .ok (.istore_n 2, 1) := by decide +kernel
theorem dX8_greatest_29 : decode prog_10_method_46_code 29 = .ok (.iconst 0, 1) := by decide +kernel
theorem dX8_greatest_30 : decode prog_10_method_46_code 30 = .ok (.istore_n 3, 1) := by decide +kernel
theorem dX8_greatest_31 : decode prog_10_method_46_code 31 = .ok (.iload_n 3, 1) := by decide +kernel
theorem dX8_greatest_32 : decode prog_10_method_46_code 32 = .ok (.sipush 200, 3) := by decide +kernel
theorem dX8_greatest_35 : decode prog_10_method_46_code 35 = .ok (.if_icmp .ge 32, 3) := by decide +kernel
theorem dX8_greatest_38 : decode prog_10_method_46_code 38 = .ok (.aload_n 0, 1) := by decide +kernel
theorem dX8_greatest_39 : decode prog_10_method_46_code 39 = .ok (.sipush 198, 3) := by decide +kernel
theorem dX8_greatest_42 : decode prog_10_method_46_code 42 = .ok (.invokevirtual 175, 3) := by decide +kernel
theorem dX8_greatest_45 : decode prog_10_method_46_code 45 = .ok (.pop, 1) := by decide +kernel
theorem dX8_greatest_46 : decode prog_10_method_46_code 46 = .ok (.iload_n 2, 1) := by decide +kernel
theorem dX8_greatest_47 : decode prog_10_method_46_code 47 = .ok (.aload_n 0, 1) := by decide +kernel
theorem dX8_greatest_48 : decode prog_10_method_46_code 48 = .ok (.getfield 25, 3) := by decide +kernel
theorem dX8_greatest_51 : decode prog_10_method_46_code 51 = .ok (.sipush 198, 3) := by decide +kernel
theorem dX8_greatest_54 : decode prog_10_method_46_code 54 = .ok (.iload_n 1, 1) := by decide +kernel
theorem dX8_greatest_55 : decode prog_10_method_46_code 55 = .ok (.iadd, 1) := by decide +kernel
theorem dX8_greatest_56 : decode prog_10_method_46_code 56 = .ok (.iaload, 1) := by decide +kernel
theorem dX8_greatest_57 : decode prog_10_method_46_code 57 = .ok (.invokestatic 203, 3) := by decide +kernel
theorem dX8_greatest_60 : decode prog_10_method_46_code 60 = .ok (.istore_n 2, 1) := by decide +kernel
theorem dX8_greatest_61 : decode prog_10_method_46_code 61 = .ok (.iinc 3 1, 3) := by decide +kernel
theorem dX8_greatest_64 : decode prog_10_method_46_code 64 = .ok (.goto (-33), 3) := by decide +kernel
theorem dX8_greatest_67 : decode prog_10_method_46_code 67 = .ok (.iload_n 2, 1) := by decide +kernel
theorem dX8_greatest_68 : decode prog_10_method_46_code 68 = .ok (.ireturn, 1) := by decide +kernel
theorem okM_X8_greatest : okM mX8_greatest 1 := ⟨tw946, tw15, by decide, by decide, by decide +kernel⟩
abbrev KTX8_greatest : Type := (XW → Nat → Int32 → Int32 → Int32 → Option (Int32 × XW))
def hX8_greatest_31 (k : KTX8_greatest) (w : XW) (l0 : Nat) (l1 : Int32) (l2 : Int32) (l3 : Int32) : Option (Int32 × XW) :=
  if (200 : Int32) ≤ l3 then
  some (l2, w)
  else
  (fX8_step w l0 (198 : Int32)).bind fun q2 =>
  (gR q2.2 l0 8 7).bind fun x5 =>
  (aI q2.2 0 x5 ((198 : Int32) + l1)).bind fun x8 =>
  (fX8_larger q2.2 l2 x8).bind fun q11 =>
  k q11.2 l0 l1 q11.1 (l3 + (1 : Int32))
theorem HX8_greatest_31 {K : CX} {l : Launch} {n0 k0 : Nat} {k : KTX8_greatest} (hk0 : ∀ (w : XW) (l0 : Nat) (l1 : Int32) (l2 : Int32) (l3 : Int32) (q : Int32 × XW), k w l0 l1 l2 l3 = some q → WP K l mX8_greatest 6 140 n0 k0 (some (.int q.1)) q.2 31 [some (.ref l0), some (.int l1), some (.int l2), some (.int l3)] [] w) {w : XW} {l0 : Nat} {l1 : Int32} {l2 : Int32} {l3 : Int32} {q : Int32 × XW} (h0 : hX8_greatest_31 k w l0 l1 l2 l3 = some q) : WP K l mX8_greatest 6 140 n0 k0 (some (.int q.1)) q.2 31 [some (.ref l0), some (.int l1), some (.int l2), some (.int l3)] [] w := by
  unfold hX8_greatest_31 at h0
  refine wp_iload_n dX8_greatest_31 rfl ?_
  refine wp_sipush (v := (200 : Int32)) dX8_greatest_32 (by decide) ?_
  refine wp_icmp_ge (tgt := 67) dX8_greatest_35 (by decide) (fun c1 => ?_) (fun c1 => ?_)
  · rw [if_pos c1] at h0
    refine wp_iload_n dX8_greatest_67 rfl ?_
    cases h0
    exact wp_iret rfl dX8_greatest_68
  · rw [if_neg c1] at h0
    refine wp_aload_n dX8_greatest_38 rfl ?_
    refine wp_sipush (v := (198 : Int32)) dX8_greatest_39 (by decide) ?_
    obtain ⟨q2, e4, h3⟩ := Option.bind_eq_some_iff.mp h0
    clear h0
    refine wp_Vi (As := [.int (198 : Int32)]) (S := []) okM_X8_step tw881 twP_X8_step tw879 (OX8_step e4) rfl rfl rfl ⟨(Nat.le_of_ble_eq_true rfl), (Nat.le_of_ble_eq_true rfl)⟩ (Nat.le_of_ble_eq_true rfl) rfl dX8_greatest_42 (MX8_step e4) ?_
    refine wp_pop dX8_greatest_45 rfl ?_
    refine wp_iload_n dX8_greatest_46 rfl ?_
    refine wp_aload_n dX8_greatest_47 rfl ?_
    obtain ⟨x5, e7, h6⟩ := Option.bind_eq_some_iff.mp h3
    clear h3
    refine wp_getR okX8 (k := 7) (by decide) tw712 dX8_greatest_48 e7 ?_
    refine wp_sipush (v := (198 : Int32)) dX8_greatest_51 (by decide) ?_
    refine wp_iload_n dX8_greatest_54 rfl ?_
    refine wp_iadd dX8_greatest_55 ?_
    obtain ⟨x8, e10, h9⟩ := Option.bind_eq_some_iff.mp h6
    clear h6
    refine wp_iald dX8_greatest_56 e10 ?_
    obtain ⟨q11, e13, h12⟩ := Option.bind_eq_some_iff.mp h9
    clear h9
    refine wp_Si (As := [.int l2, .int x8]) (S := []) okM_X8_larger tw948 tw947 rfl ⟨(Nat.le_of_ble_eq_true rfl), (Nat.le_of_ble_eq_true rfl)⟩ (Nat.le_of_ble_eq_true rfl) rfl dX8_greatest_57 (MX8_larger e13) ?_
    refine wp_istore_n (L1 := [some (.ref l0), some (.int l1), some (.int q11.1), some (.int l3)]) dX8_greatest_60 (Nat.le_of_ble_eq_true rfl) rfl ?_
    refine wp_iinc (v := (l3 + (1 : Int32))) (L1 := [some (.ref l0), some (.int l1), some (.int q11.1), some (.int (l3 + (1 : Int32)))]) dX8_greatest_61 (Nat.le_of_ble_eq_true rfl) rfl (congrArg (fun z => l3 + z) (by decide)) rfl ?_
    refine wp_goto (tgt := 31) dX8_greatest_64 (by decide) ?_
    exact WP.wk (hk0 _ _ _ _ _ _ h12) (And.intro rfl (And.intro rfl (And.intro rfl (And.intro rfl trivial))))
def eX8_greatest (k : KTX8_greatest) (w : XW) (l0 : Nat) (l1 : Int32) : Option (Int32 × XW) :=
  (fX8_in w (l1.toInt64) (0 : Int64) (5 : Int64)).bind fun q1 =>
  if q1.1 = 0 then
  some ((-1 : Int32), q1.2)
  else
  (fX8_copies q1.2 l0 (0 : Int32) (198 : Int32)).bind fun q5 =>
  (gR q5 l0 8 7).bind fun x8 =>
  (aI q5 0 x8 l1).bind fun x11 =>
  k q5 l0 l1 x11 (0 : Int32)
theorem EX8_greatest {K : CX} {l : Launch} {n0 k0 : Nat} {k : KTX8_greatest} (hk0 : ∀ (w : XW) (l0 : Nat) (l1 : Int32) (l2 : Int32) (l3 : Int32) (q : Int32 × XW), k w l0 l1 l2 l3 = some q → WP K l mX8_greatest 6 140 n0 k0 (some (.int q.1)) q.2 31 [some (.ref l0), some (.int l1), some (.int l2), some (.int l3)] [] w) {w : XW} {l0 : Nat} {l1 : Int32} {q : Int32 × XW} (h0 : eX8_greatest k w l0 l1 = some q) : WP K l mX8_greatest 6 140 n0 k0 (some (.int q.1)) q.2 0 [some (.ref l0), some (.int l1), none, none] [] w := by
  unfold eX8_greatest at h0
  refine wp_iload_n dX8_greatest_0 rfl ?_
  refine wp_i2l dX8_greatest_1 ?_
  refine wp_lconst (v := (0 : Int64)) dX8_greatest_2 (by decide) ?_
  refine wp_ldc2 tw837 dX8_greatest_3 ?_
  obtain ⟨q1, e3, h2⟩ := Option.bind_eq_some_iff.mp h0
  clear h0
  refine wp_Si (As := [.long (l1.toInt64), .long (0 : Int64), .long (5 : Int64)]) (S := []) okM_X8_in tw785 tw784 rfl ⟨(Nat.le_of_ble_eq_true rfl), (Nat.le_of_ble_eq_true rfl)⟩ (Nat.le_of_ble_eq_true rfl) rfl dX8_greatest_6 (MX8_in e3) ?_
  refine wp_if_ne (tgt := 14) dX8_greatest_9 (by decide) (fun c4 => ?_) (fun c4 => ?_)
  · rw [if_neg c4] at h2
    refine wp_aload_n dX8_greatest_14 rfl ?_
    refine wp_iconst (v := (0 : Int32)) dX8_greatest_15 (by decide) ?_
    refine wp_sipush (v := (198 : Int32)) dX8_greatest_16 (by decide) ?_
    obtain ⟨q5, e7, h6⟩ := Option.bind_eq_some_iff.mp h2
    clear h2
    refine wp_Vv (As := [.int (0 : Int32), .int (198 : Int32)]) (S := []) okM_X8_copies tw877 twP_X8_copies tw875 (OX8_copies e7) rfl rfl rfl ⟨(Nat.le_of_ble_eq_true rfl), (Nat.le_of_ble_eq_true rfl)⟩ (Nat.le_of_ble_eq_true rfl) rfl dX8_greatest_19 (MX8_copies e7) ?_
    refine wp_aload_n dX8_greatest_22 rfl ?_
    obtain ⟨x8, e10, h9⟩ := Option.bind_eq_some_iff.mp h6
    clear h6
    refine wp_getR okX8 (k := 7) (by decide) tw712 dX8_greatest_23 e10 ?_
    refine wp_iload_n dX8_greatest_26 rfl ?_
    obtain ⟨x11, e13, h12⟩ := Option.bind_eq_some_iff.mp h9
    clear h9
    refine wp_iald dX8_greatest_27 e13 ?_
    refine wp_istore_n (L1 := [some (.ref l0), some (.int l1), some (.int x11), none]) dX8_greatest_28 (Nat.le_of_ble_eq_true rfl) rfl ?_
    refine wp_iconst (v := (0 : Int32)) dX8_greatest_29 (by decide) ?_
    refine wp_istore_n (L1 := [some (.ref l0), some (.int l1), some (.int x11), some (.int (0 : Int32))]) dX8_greatest_30 (Nat.le_of_ble_eq_true rfl) rfl ?_
    exact WP.wk (hk0 _ _ _ _ _ _ h12) (And.intro rfl (And.intro rfl (And.intro rfl (And.intro rfl trivial))))
  · rw [if_pos c4] at h2
    refine wp_iconst (v := (-1 : Int32)) dX8_greatest_12 (by decide) ?_
    cases h2
    exact wp_iret rfl dX8_greatest_13
def loX8_greatest : Nat → KTX8_greatest
  | 0 => fun _ _ _ _ _ => none
  | n + 1 => hX8_greatest_31 (loX8_greatest n)
theorem LOX8_greatest {K : CX} {l : Launch} {n0 k0 : Nat} : ∀ n : Nat, (∀ (w : XW) (l0 : Nat) (l1 : Int32) (l2 : Int32) (l3 : Int32) (q : Int32 × XW), (loX8_greatest n) w l0 l1 l2 l3 = some q → WP K l mX8_greatest 6 140 n0 k0 (some (.int q.1)) q.2 31 [some (.ref l0), some (.int l1), some (.int l2), some (.int l3)] [] w) := by
  intro n
  induction n with
  | zero => exact fun _ _ _ _ _ q h => (by cases h)
  | succ n ih => exact fun _ _ _ _ _ q h => HX8_greatest_31 ih h
def fX8_greatest (w : XW) (l0 : Nat) (l1 : Int32) : Option (Int32 × XW) := if isO w l0 8 = true then eX8_greatest (loX8_greatest FU) w l0 l1 else none
theorem OX8_greatest {w : XW} {l0 : Nat} {l1 : Int32} {q : Int32 × XW} (h : fX8_greatest w l0 l1 = some q) : isO w l0 8 = true := Decidable.byContradiction fun z => by unfold fX8_greatest at h; rw [if_neg z] at h; cases h
theorem MX8_greatest {K : CX} {l : Launch} {w : XW} {l0 : Nat} {l1 : Int32} {q : Int32 × XW} (h : fX8_greatest w l0 l1 = some q) : MT K l mX8_greatest 6 140 [.ref l0, .int l1] w (some (.int q.1)) q.2 := by
  have z := OX8_greatest h
  unfold fX8_greatest at h
  rw [if_pos z] at h
  exact MT.of (by decide) (Nat.le_of_ble_eq_true rfl) rfl (EX8_greatest (LOX8_greatest FU) h)
/-! FractionRun.often(I)I: frames 4, words 93 -/
abbrev mX7_often : MR := (⟨"FractionRun", "often", "(I)I"⟩, prog_1_method_18_code, 4, (some .int))
theorem dX7_often_0 : decode prog_1_method_18_code 0 = .ok (.aload_n 0, 1) := by decide +kernel
theorem dX7_often_1 : decode prog_1_method_18_code 1 = .ok (.iload_n 1, 1) := by decide +kernel
theorem dX7_often_2 : decode prog_1_method_18_code 2 = .ok (.invokevirtual 120, 3) := by decide +kernel
theorem dX7_often_5 : decode prog_1_method_18_code 5 = .ok (.ifCond .ne 5, 3) := by decide +kernel
theorem dX7_often_8 : decode prog_1_method_18_code 8 = .ok (.iconst (-1), 1) := by decide +kernel
theorem dX7_often_9 : decode prog_1_method_18_code 9 = .ok (.ireturn, 1) := by decide +kernel
theorem dX7_often_10 : decode prog_1_method_18_code 10 = .ok (.aload_n 0, 1) := by decide +kernel
theorem dX7_often_11 : decode prog_1_method_18_code 11 = .ok (.getfield 40, 3) := by decide +kernel
theorem dX7_often_14 : decode prog_1_method_18_code 14 = .ok (.aload_n 0, 1) := by decide +kernel
theorem dX7_often_15 : decode prog_1_method_18_code 15 = .ok (.getfield 36, 3) := by decide +kernel
theorem dX7_often_18 : decode prog_1_method_18_code 18 = .ok (.invokevirtual 189, 3) := by decide +kernel
theorem dX7_often_21 : decode prog_1_method_18_code 21 = .ok (.iconst 0, 1) := by decide +kernel
theorem dX7_often_22 : decode prog_1_method_18_code 22 = .ok (.istore_n 2, 1) := by decide +kernel
theorem dX7_often_23 : decode prog_1_method_18_code 23 = .ok (.iconst 0, 1) := by decide +kernel
theorem dX7_often_24 : decode prog_1_method_18_code 24 = .ok (.istore_n 3, 1) := by decide +kernel
theorem dX7_often_25 : decode prog_1_method_18_code 25 = .ok (.iload_n 3, 1) := by decide +kernel
theorem dX7_often_26 : decode prog_1_method_18_code 26 = .ok (.sipush 200, 3) := by decide +kernel
theorem dX7_often_29 : decode prog_1_method_18_code 29 = .ok (.if_icmp .ge 34, 3) := by decide +kernel
theorem dX7_often_32 : decode prog_1_method_18_code 32 = .ok (.aload_n 0, 1) := by decide +kernel
theorem dX7_often_33 : decode prog_1_method_18_code 33 = .ok (.getfield 40, 3) := by decide +kernel
theorem dX7_often_36 : decode prog_1_method_18_code 36 = .ok (.aload_n 0, 1) := by decide +kernel
theorem dX7_often_37 : decode prog_1_method_18_code 37 = .ok (.getfield 26, 3) := by decide +kernel
theorem dX7_often_40 : decode prog_1_method_18_code 40 = .ok (.invokevirtual 208, 3) := by decide +kernel
theorem dX7_often_43 : decode prog_1_method_18_code 43 = .ok (.iload_n 1, 1) := by decide +kernel
theorem dX7_often_44 : decode prog_1_method_18_code 44 = .ok (.if_icmp .ne 13, 3) := by decide +kernel
theorem dX7_often_47 : decode prog_1_method_18_code 47 = .ok (.iload_n 2, 1) := by decide +kernel
theorem dX7_often_48 : decode prog_1_method_18_code 48 = .ok (.aload_n 0, 1) := by decide +kernel
theorem dX7_often_49 : decode prog_1_method_18_code 49 = .ok (.getfield 40, 3) := by decide +kernel
theorem dX7_often_52 : decode prog_1_method_18_code 52 = .ok (.getfield 214, 3) := by decide +kernel
theorem dX7_often_55 : decode prog_1_method_18_code 55 = .ok (.iadd, 1) := by decide +kernel
theorem dX7_often_56 : decode prog_1_method_18_code 56 = .ok (.istore_n 2, 1) := by decide +kernel
theorem dX7_often_57 : decode prog_1_method_18_code 57 = .ok (.iinc 3 1, 3) := by decide +kernel
theorem dX7_often_60 : decode prog_1_method_18_code 60 = .ok (.goto (-35), 3) := by decide +kernel
theorem dX7_often_63 : decode prog_1_method_18_code 63 = .ok (.iload_n 2, 1) := by decide +kernel
theorem dX7_often_64 : decode prog_1_method_18_code 64 = .ok (.ireturn, 1) := by decide +kernel
theorem okM_X7_often : okM mX7_often 1 := ⟨tw524, tw1, by decide, by decide, by decide +kernel⟩
abbrev KTX7_often : Type := (XW → Nat → Int32 → Int32 → Int32 → Option (Int32 × XW))
def bX7_often_57 (k : KTX7_often) (w : XW) (l0 : Nat) (l1 : Int32) (l2 : Int32) (l3 : Int32) : Option (Int32 × XW) :=
  k w l0 l1 l2 (l3 + (1 : Int32))
theorem BX7_often_57 {K : CX} {l : Launch} {n0 k0 : Nat} {k : KTX7_often} (hk0 : ∀ (w : XW) (l0 : Nat) (l1 : Int32) (l2 : Int32) (l3 : Int32) (q : Int32 × XW), k w l0 l1 l2 l3 = some q → WP K l mX7_often 4 93 n0 k0 (some (.int q.1)) q.2 25 [some (.ref l0), some (.int l1), some (.int l2), some (.int l3)] [] w) {w : XW} {l0 : Nat} {l1 : Int32} {l2 : Int32} {l3 : Int32} {q : Int32 × XW} (h0 : bX7_often_57 k w l0 l1 l2 l3 = some q) : WP K l mX7_often 4 93 n0 k0 (some (.int q.1)) q.2 57 [some (.ref l0), some (.int l1), some (.int l2), some (.int l3)] [] w := by
  unfold bX7_often_57 at h0
  refine wp_iinc (v := (l3 + (1 : Int32))) (L1 := [some (.ref l0), some (.int l1), some (.int l2), some (.int (l3 + (1 : Int32)))]) dX7_often_57 (Nat.le_of_ble_eq_true rfl) rfl (congrArg (fun z => l3 + z) (by decide)) rfl ?_
  refine wp_goto (tgt := 25) dX7_often_60 (by decide) ?_
  exact WP.wk (hk0 _ _ _ _ _ _ h0) (And.intro rfl (And.intro rfl (And.intro rfl (And.intro rfl trivial))))
def hX7_often_25 (k : KTX7_often) (w : XW) (l0 : Nat) (l1 : Int32) (l2 : Int32) (l3 : Int32) : Option (Int32 × XW) :=
  if (200 : Int32) ≤ l3 then
  some (l2, w)
  else
  (gR w l0 7 5).bind fun x2 =>
  (gR w l0 7 2).bind fun x5 =>
  (fX5_takeStep w x2 x5).bind fun q8 =>
  if q8.1 = l1 then
  (gR q8.2 l0 7 5).bind fun x12 =>
  (gI q8.2 x12 5 6).bind fun x15 =>
  bX7_often_57 k q8.2 l0 l1 (l2 + x15) l3
  else
  bX7_often_57 k q8.2 l0 l1 l2 l3
theorem HX7_often_25 {K : CX} {l : Launch} {n0 k0 : Nat} {k : KTX7_often} (hk0 : ∀ (w : XW) (l0 : Nat) (l1 : Int32) (l2 : Int32) (l3 : Int32) (q : Int32 × XW), k w l0 l1 l2 l3 = some q → WP K l mX7_often 4 93 n0 k0 (some (.int q.1)) q.2 25 [some (.ref l0), some (.int l1), some (.int l2), some (.int l3)] [] w) {w : XW} {l0 : Nat} {l1 : Int32} {l2 : Int32} {l3 : Int32} {q : Int32 × XW} (h0 : hX7_often_25 k w l0 l1 l2 l3 = some q) : WP K l mX7_often 4 93 n0 k0 (some (.int q.1)) q.2 25 [some (.ref l0), some (.int l1), some (.int l2), some (.int l3)] [] w := by
  unfold hX7_often_25 at h0
  refine wp_iload_n dX7_often_25 rfl ?_
  refine wp_sipush (v := (200 : Int32)) dX7_often_26 (by decide) ?_
  refine wp_icmp_ge (tgt := 63) dX7_often_29 (by decide) (fun c1 => ?_) (fun c1 => ?_)
  · rw [if_pos c1] at h0
    refine wp_iload_n dX7_often_63 rfl ?_
    cases h0
    exact wp_iret rfl dX7_often_64
  · rw [if_neg c1] at h0
    refine wp_aload_n dX7_often_32 rfl ?_
    obtain ⟨x2, e4, h3⟩ := Option.bind_eq_some_iff.mp h0
    clear h0
    refine wp_getR okX7 (k := 5) (by decide) tw303 dX7_often_33 e4 ?_
    refine wp_aload_n dX7_often_36 rfl ?_
    obtain ⟨x5, e7, h6⟩ := Option.bind_eq_some_iff.mp h3
    clear h3
    refine wp_getR okX7 (k := 2) (by decide) tw300 dX7_often_37 e7 ?_
    obtain ⟨q8, e10, h9⟩ := Option.bind_eq_some_iff.mp h6
    clear h6
    refine wp_Vi (As := [.ref x5]) (S := []) okM_X5_takeStep tw431 tw432 tw520 (OX5_takeStep e10) rfl rfl rfl ⟨(Nat.le_of_ble_eq_true rfl), (Nat.le_of_ble_eq_true rfl)⟩ (Nat.le_of_ble_eq_true rfl) rfl dX7_often_40 (MX5_takeStep e10) ?_
    refine wp_iload_n dX7_often_43 rfl ?_
    refine wp_icmp_ne (tgt := 57) dX7_often_44 (by decide) (fun c11 => ?_) (fun c11 => ?_)
    · rw [if_neg c11] at h9
      exact WP.wk (BX7_often_57 hk0 h9) (And.intro rfl (And.intro rfl (And.intro rfl (And.intro rfl trivial))))
    · rw [if_pos c11] at h9
      refine wp_iload_n dX7_often_47 rfl ?_
      refine wp_aload_n dX7_often_48 rfl ?_
      obtain ⟨x12, e14, h13⟩ := Option.bind_eq_some_iff.mp h9
      clear h9
      refine wp_getR okX7 (k := 5) (by decide) tw303 dX7_often_49 e14 ?_
      obtain ⟨x15, e17, h16⟩ := Option.bind_eq_some_iff.mp h13
      clear h13
      refine wp_getI okX5 (k := 6) (by decide) tw108 dX7_often_52 e17 ?_
      refine wp_iadd dX7_often_55 ?_
      refine wp_istore_n (L1 := [some (.ref l0), some (.int l1), some (.int (l2 + x15)), some (.int l3)]) dX7_often_56 (Nat.le_of_ble_eq_true rfl) rfl ?_
      exact WP.wk (BX7_often_57 hk0 h16) (And.intro rfl (And.intro rfl (And.intro rfl (And.intro rfl trivial))))
def eX7_often (k : KTX7_often) (w : XW) (l0 : Nat) (l1 : Int32) : Option (Int32 × XW) :=
  (fX7_isTold w l0 l1).bind fun q1 =>
  if q1.1 = 0 then
  some ((-1 : Int32), q1.2)
  else
  (gR q1.2 l0 7 5).bind fun x5 =>
  (gR q1.2 l0 7 4).bind fun x8 =>
  (fX5_copyFrom q1.2 x5 x8).bind fun q11 =>
  k q11 l0 l1 (0 : Int32) (0 : Int32)
theorem EX7_often {K : CX} {l : Launch} {n0 k0 : Nat} {k : KTX7_often} (hk0 : ∀ (w : XW) (l0 : Nat) (l1 : Int32) (l2 : Int32) (l3 : Int32) (q : Int32 × XW), k w l0 l1 l2 l3 = some q → WP K l mX7_often 4 93 n0 k0 (some (.int q.1)) q.2 25 [some (.ref l0), some (.int l1), some (.int l2), some (.int l3)] [] w) {w : XW} {l0 : Nat} {l1 : Int32} {q : Int32 × XW} (h0 : eX7_often k w l0 l1 = some q) : WP K l mX7_often 4 93 n0 k0 (some (.int q.1)) q.2 0 [some (.ref l0), some (.int l1), none, none] [] w := by
  unfold eX7_often at h0
  refine wp_aload_n dX7_often_0 rfl ?_
  refine wp_iload_n dX7_often_1 rfl ?_
  obtain ⟨q1, e3, h2⟩ := Option.bind_eq_some_iff.mp h0
  clear h0
  refine wp_Vi (As := [.int l1]) (S := []) okM_X7_isTold tw380 twP_X7_isTold tw378 (OX7_isTold e3) rfl rfl rfl ⟨(Nat.le_of_ble_eq_true rfl), (Nat.le_of_ble_eq_true rfl)⟩ (Nat.le_of_ble_eq_true rfl) rfl dX7_often_2 (MX7_isTold e3) ?_
  refine wp_if_ne (tgt := 10) dX7_often_5 (by decide) (fun c4 => ?_) (fun c4 => ?_)
  · rw [if_neg c4] at h2
    refine wp_aload_n dX7_often_10 rfl ?_
    obtain ⟨x5, e7, h6⟩ := Option.bind_eq_some_iff.mp h2
    clear h2
    refine wp_getR okX7 (k := 5) (by decide) tw303 dX7_often_11 e7 ?_
    refine wp_aload_n dX7_often_14 rfl ?_
    obtain ⟨x8, e10, h9⟩ := Option.bind_eq_some_iff.mp h6
    clear h6
    refine wp_getR okX7 (k := 4) (by decide) tw302 dX7_often_15 e10 ?_
    obtain ⟨q11, e13, h12⟩ := Option.bind_eq_some_iff.mp h9
    clear h9
    refine wp_Vv (As := [.ref x8]) (S := []) okM_X5_copyFrom tw419 tw420 tw474 (OX5_copyFrom e13) rfl rfl rfl ⟨(Nat.le_of_ble_eq_true rfl), (Nat.le_of_ble_eq_true rfl)⟩ (Nat.le_of_ble_eq_true rfl) rfl dX7_often_18 (MX5_copyFrom e13) ?_
    refine wp_iconst (v := (0 : Int32)) dX7_often_21 (by decide) ?_
    refine wp_istore_n (L1 := [some (.ref l0), some (.int l1), some (.int (0 : Int32)), none]) dX7_often_22 (Nat.le_of_ble_eq_true rfl) rfl ?_
    refine wp_iconst (v := (0 : Int32)) dX7_often_23 (by decide) ?_
    refine wp_istore_n (L1 := [some (.ref l0), some (.int l1), some (.int (0 : Int32)), some (.int (0 : Int32))]) dX7_often_24 (Nat.le_of_ble_eq_true rfl) rfl ?_
    exact WP.wk (hk0 _ _ _ _ _ _ h12) (And.intro rfl (And.intro rfl (And.intro rfl (And.intro rfl trivial))))
  · rw [if_pos c4] at h2
    refine wp_iconst (v := (-1 : Int32)) dX7_often_8 (by decide) ?_
    cases h2
    exact wp_iret rfl dX7_often_9
def loX7_often : Nat → KTX7_often
  | 0 => fun _ _ _ _ _ => none
  | n + 1 => hX7_often_25 (loX7_often n)
theorem LOX7_often {K : CX} {l : Launch} {n0 k0 : Nat} : ∀ n : Nat, (∀ (w : XW) (l0 : Nat) (l1 : Int32) (l2 : Int32) (l3 : Int32) (q : Int32 × XW), (loX7_often n) w l0 l1 l2 l3 = some q → WP K l mX7_often 4 93 n0 k0 (some (.int q.1)) q.2 25 [some (.ref l0), some (.int l1), some (.int l2), some (.int l3)] [] w) := by
  intro n
  induction n with
  | zero => exact fun _ _ _ _ _ q h => (by cases h)
  | succ n ih => exact fun _ _ _ _ _ q h => HX7_often_25 ih h
def fX7_often (w : XW) (l0 : Nat) (l1 : Int32) : Option (Int32 × XW) := if isO w l0 7 = true then eX7_often (loX7_often FU) w l0 l1 else none
theorem OX7_often {w : XW} {l0 : Nat} {l1 : Int32} {q : Int32 × XW} (h : fX7_often w l0 l1 = some q) : isO w l0 7 = true := Decidable.byContradiction fun z => by unfold fX7_often at h; rw [if_neg z] at h; cases h
theorem MX7_often {K : CX} {l : Launch} {w : XW} {l0 : Nat} {l1 : Int32} {q : Int32 × XW} (h : fX7_often w l0 l1 = some q) : MT K l mX7_often 4 93 [.ref l0, .int l1] w (some (.int q.1)) q.2 := by
  have z := OX7_often h
  unfold fX7_often at h
  rw [if_pos z] at h
  exact MT.of (by decide) (Nat.le_of_ble_eq_true rfl) rfl (EX7_often (LOX7_often FU) h)
/-! FractionRunModel.often(I)I: frames 6, words 140 -/
abbrev mX8_often : MR := (⟨"FractionRunModel", "often", "(I)I"⟩, prog_10_method_47_code, 4, (some .int))
theorem dX8_often_0 : decode prog_10_method_47_code 0 = .ok (.aload_n 0, 1) := by decide +kernel
theorem dX8_often_1 : decode prog_10_method_47_code 1 = .ok (.iload_n 1, 1) := by decide +kernel
theorem dX8_often_2 : decode prog_10_method_47_code 2 = .ok (.invokevirtual 158, 3) := by decide +kernel
theorem dX8_often_5 : decode prog_10_method_47_code 5 = .ok (.ifCond .ne 5, 3) := by decide +kernel
theorem dX8_often_8 : decode prog_10_method_47_code 8 = .ok (.iconst (-1), 1) := by decide +kernel
theorem dX8_often_9 : decode prog_10_method_47_code 9 = .ok (.ireturn, 1) := by decide +kernel
theorem dX8_often_10 : decode prog_10_method_47_code 10 = .ok (.aload_n 0, 1) := by decide +kernel
theorem dX8_often_11 : decode prog_10_method_47_code 11 = .ok (.iconst 0, 1) := by decide +kernel
theorem dX8_often_12 : decode prog_10_method_47_code 12 = .ok (.sipush 198, 3) := by decide +kernel
theorem dX8_often_15 : decode prog_10_method_47_code 15 = .ok (.invokevirtual 155, 3) := by decide +kernel
theorem dX8_often_18 : decode prog_10_method_47_code 18 = .ok (.iconst 0, 1) := by decide +kernel
theorem dX8_often_19 : decode prog_10_method_47_code 19 = .ok (.istore_n 2, 1) := by decide +kernel
theorem dX8_often_20 : decode prog_10_method_47_code 20 = .ok (.iconst 0, 1) := by decide +kernel
theorem dX8_often_21 : decode prog_10_method_47_code 21 = .ok (.istore_n 3, 1) := by decide +kernel
theorem dX8_often_22 : decode prog_10_method_47_code 22 = .ok (.iload_n 3, 1) := by decide +kernel
theorem dX8_often_23 : decode prog_10_method_47_code 23 = .ok (.sipush 200, 3) := by decide +kernel
theorem dX8_often_26 : decode prog_10_method_47_code 26 = .ok (.if_icmp .ge 31, 3) := by decide +kernel
theorem dX8_often_29 : decode prog_10_method_47_code 29 = .ok (.iload_n 2, 1) := by decide +kernel
theorem dX8_often_30 : decode prog_10_method_47_code 30 = .ok (.aload_n 0, 1) := by decide +kernel
theorem dX8_often_31 : decode prog_10_method_47_code 31 = .ok (.sipush 198, 3) := by decide +kernel
theorem dX8_often_34 : decode prog_10_method_47_code 34 = .ok (.invokevirtual 175, 3) := by decide +kernel
theorem dX8_often_37 : decode prog_10_method_47_code 37 = .ok (.iload_n 1, 1) := by decide +kernel
theorem dX8_often_38 : decode prog_10_method_47_code 38 = .ok (.if_icmp .ne 10, 3) := by decide +kernel
theorem dX8_often_41 : decode prog_10_method_47_code 41 = .ok (.aload_n 0, 1) := by decide +kernel
theorem dX8_often_42 : decode prog_10_method_47_code 42 = .ok (.getfield 152, 3) := by decide +kernel
theorem dX8_often_45 : decode prog_10_method_47_code 45 = .ok (.goto 4, 3) := by decide +kernel
theorem dX8_often_48 : decode prog_10_method_47_code 48 = .ok (.iconst 0, 1) := by decide +kernel
theorem dX8_often_49 : decode prog_10_method_47_code 49 = .ok (.iadd, 1) := by decide +kernel
theorem dX8_often_50 : decode prog_10_method_47_code 50 = .ok (.istore_n 2, 1) := by decide +kernel
theorem dX8_often_51 : decode prog_10_method_47_code 51 = .ok (.iinc 3 1, 3) := by decide +kernel
theorem dX8_often_54 : decode prog_10_method_47_code 54 = .ok (.goto (-32), 3) := by decide +kernel
theorem dX8_often_57 : decode prog_10_method_47_code 57 = .ok (.iload_n 2, 1) := by decide +kernel
theorem dX8_often_58 : decode prog_10_method_47_code 58 = .ok (.ireturn, 1) := by decide +kernel
theorem okM_X8_often : okM mX8_often 1 := ⟨tw953, tw15, by decide, by decide, by decide +kernel⟩
abbrev KTX8_often : Type := (XW → Nat → Int32 → Int32 → Int32 → Option (Int32 × XW))
def bX8_often_49 (k : KTX8_often) (w : XW) (l0 : Nat) (l1 : Int32) (l3 : Int32) (s0 : Int32) (s1 : Int32) : Option (Int32 × XW) :=
  k w l0 l1 (s0 + s1) (l3 + (1 : Int32))
theorem BX8_often_49 {K : CX} {l : Launch} {n0 k0 : Nat} {k : KTX8_often} (hk0 : ∀ (w : XW) (l0 : Nat) (l1 : Int32) (l2 : Int32) (l3 : Int32) (q : Int32 × XW), k w l0 l1 l2 l3 = some q → WP K l mX8_often 6 140 n0 k0 (some (.int q.1)) q.2 22 [some (.ref l0), some (.int l1), some (.int l2), some (.int l3)] [] w) {w : XW} {l0 : Nat} {l1 : Int32} {l3 : Int32} {s0 : Int32} {s1 : Int32} {q : Int32 × XW} (h0 : bX8_often_49 k w l0 l1 l3 s0 s1 = some q) : WP K l mX8_often 6 140 n0 k0 (some (.int q.1)) q.2 49 [some (.ref l0), some (.int l1), none, some (.int l3)] [.int s1, .int s0] w := by
  unfold bX8_often_49 at h0
  refine wp_iadd dX8_often_49 ?_
  refine wp_istore_n (L1 := [some (.ref l0), some (.int l1), some (.int (s0 + s1)), some (.int l3)]) dX8_often_50 (Nat.le_of_ble_eq_true rfl) rfl ?_
  refine wp_iinc (v := (l3 + (1 : Int32))) (L1 := [some (.ref l0), some (.int l1), some (.int (s0 + s1)), some (.int (l3 + (1 : Int32)))]) dX8_often_51 (Nat.le_of_ble_eq_true rfl) rfl (congrArg (fun z => l3 + z) (by decide)) rfl ?_
  refine wp_goto (tgt := 22) dX8_often_54 (by decide) ?_
  exact WP.wk (hk0 _ _ _ _ _ _ h0) (And.intro rfl (And.intro rfl (And.intro rfl (And.intro rfl trivial))))
def hX8_often_22 (k : KTX8_often) (w : XW) (l0 : Nat) (l1 : Int32) (l2 : Int32) (l3 : Int32) : Option (Int32 × XW) :=
  if (200 : Int32) ≤ l3 then
  some (l2, w)
  else
  (fX8_step w l0 (198 : Int32)).bind fun q2 =>
  if q2.1 = l1 then
  (gI q2.2 l0 8 18).bind fun x6 =>
  bX8_often_49 k q2.2 l0 l1 l3 l2 x6
  else
  bX8_often_49 k q2.2 l0 l1 l3 l2 (0 : Int32)
theorem HX8_often_22 {K : CX} {l : Launch} {n0 k0 : Nat} {k : KTX8_often} (hk0 : ∀ (w : XW) (l0 : Nat) (l1 : Int32) (l2 : Int32) (l3 : Int32) (q : Int32 × XW), k w l0 l1 l2 l3 = some q → WP K l mX8_often 6 140 n0 k0 (some (.int q.1)) q.2 22 [some (.ref l0), some (.int l1), some (.int l2), some (.int l3)] [] w) {w : XW} {l0 : Nat} {l1 : Int32} {l2 : Int32} {l3 : Int32} {q : Int32 × XW} (h0 : hX8_often_22 k w l0 l1 l2 l3 = some q) : WP K l mX8_often 6 140 n0 k0 (some (.int q.1)) q.2 22 [some (.ref l0), some (.int l1), some (.int l2), some (.int l3)] [] w := by
  unfold hX8_often_22 at h0
  refine wp_iload_n dX8_often_22 rfl ?_
  refine wp_sipush (v := (200 : Int32)) dX8_often_23 (by decide) ?_
  refine wp_icmp_ge (tgt := 57) dX8_often_26 (by decide) (fun c1 => ?_) (fun c1 => ?_)
  · rw [if_pos c1] at h0
    refine wp_iload_n dX8_often_57 rfl ?_
    cases h0
    exact wp_iret rfl dX8_often_58
  · rw [if_neg c1] at h0
    refine wp_iload_n dX8_often_29 rfl ?_
    refine wp_aload_n dX8_often_30 rfl ?_
    refine wp_sipush (v := (198 : Int32)) dX8_often_31 (by decide) ?_
    obtain ⟨q2, e4, h3⟩ := Option.bind_eq_some_iff.mp h0
    clear h0
    refine wp_Vi (As := [.int (198 : Int32)]) (S := [.int l2]) okM_X8_step tw881 twP_X8_step tw879 (OX8_step e4) rfl rfl rfl ⟨(Nat.le_of_ble_eq_true rfl), (Nat.le_of_ble_eq_true rfl)⟩ (Nat.le_of_ble_eq_true rfl) rfl dX8_often_34 (MX8_step e4) ?_
    refine wp_iload_n dX8_often_37 rfl ?_
    refine wp_icmp_ne (tgt := 48) dX8_often_38 (by decide) (fun c5 => ?_) (fun c5 => ?_)
    · rw [if_neg c5] at h3
      refine wp_iconst (v := (0 : Int32)) dX8_often_48 (by decide) ?_
      exact WP.wk (BX8_often_49 hk0 h3) (And.intro rfl (And.intro rfl (And.intro rfl trivial)))
    · rw [if_pos c5] at h3
      refine wp_aload_n dX8_often_41 rfl ?_
      obtain ⟨x6, e8, h7⟩ := Option.bind_eq_some_iff.mp h3
      clear h3
      refine wp_getI okX8 (k := 18) (by decide) tw723 dX8_often_42 e8 ?_
      refine wp_goto (tgt := 49) dX8_often_45 (by decide) ?_
      exact WP.wk (BX8_often_49 hk0 h7) (And.intro rfl (And.intro rfl (And.intro rfl trivial)))
def eX8_often (k : KTX8_often) (w : XW) (l0 : Nat) (l1 : Int32) : Option (Int32 × XW) :=
  (fX8_isFraction w l0 l1).bind fun q1 =>
  if q1.1 = 0 then
  some ((-1 : Int32), q1.2)
  else
  (fX8_copies q1.2 l0 (0 : Int32) (198 : Int32)).bind fun q5 =>
  k q5 l0 l1 (0 : Int32) (0 : Int32)
theorem EX8_often {K : CX} {l : Launch} {n0 k0 : Nat} {k : KTX8_often} (hk0 : ∀ (w : XW) (l0 : Nat) (l1 : Int32) (l2 : Int32) (l3 : Int32) (q : Int32 × XW), k w l0 l1 l2 l3 = some q → WP K l mX8_often 6 140 n0 k0 (some (.int q.1)) q.2 22 [some (.ref l0), some (.int l1), some (.int l2), some (.int l3)] [] w) {w : XW} {l0 : Nat} {l1 : Int32} {q : Int32 × XW} (h0 : eX8_often k w l0 l1 = some q) : WP K l mX8_often 6 140 n0 k0 (some (.int q.1)) q.2 0 [some (.ref l0), some (.int l1), none, none] [] w := by
  unfold eX8_often at h0
  refine wp_aload_n dX8_often_0 rfl ?_
  refine wp_iload_n dX8_often_1 rfl ?_
  obtain ⟨q1, e3, h2⟩ := Option.bind_eq_some_iff.mp h0
  clear h0
  refine wp_Vi (As := [.int l1]) (S := []) okM_X8_isFraction tw835 twP_X8_isFraction tw833 (OX8_isFraction e3) rfl rfl rfl ⟨(Nat.le_of_ble_eq_true rfl), (Nat.le_of_ble_eq_true rfl)⟩ (Nat.le_of_ble_eq_true rfl) rfl dX8_often_2 (MX8_isFraction e3) ?_
  refine wp_if_ne (tgt := 10) dX8_often_5 (by decide) (fun c4 => ?_) (fun c4 => ?_)
  · rw [if_neg c4] at h2
    refine wp_aload_n dX8_often_10 rfl ?_
    refine wp_iconst (v := (0 : Int32)) dX8_often_11 (by decide) ?_
    refine wp_sipush (v := (198 : Int32)) dX8_often_12 (by decide) ?_
    obtain ⟨q5, e7, h6⟩ := Option.bind_eq_some_iff.mp h2
    clear h2
    refine wp_Vv (As := [.int (0 : Int32), .int (198 : Int32)]) (S := []) okM_X8_copies tw877 twP_X8_copies tw875 (OX8_copies e7) rfl rfl rfl ⟨(Nat.le_of_ble_eq_true rfl), (Nat.le_of_ble_eq_true rfl)⟩ (Nat.le_of_ble_eq_true rfl) rfl dX8_often_15 (MX8_copies e7) ?_
    refine wp_iconst (v := (0 : Int32)) dX8_often_18 (by decide) ?_
    refine wp_istore_n (L1 := [some (.ref l0), some (.int l1), some (.int (0 : Int32)), none]) dX8_often_19 (Nat.le_of_ble_eq_true rfl) rfl ?_
    refine wp_iconst (v := (0 : Int32)) dX8_often_20 (by decide) ?_
    refine wp_istore_n (L1 := [some (.ref l0), some (.int l1), some (.int (0 : Int32)), some (.int (0 : Int32))]) dX8_often_21 (Nat.le_of_ble_eq_true rfl) rfl ?_
    exact WP.wk (hk0 _ _ _ _ _ _ h6) (And.intro rfl (And.intro rfl (And.intro rfl (And.intro rfl trivial))))
  · rw [if_pos c4] at h2
    refine wp_iconst (v := (-1 : Int32)) dX8_often_8 (by decide) ?_
    cases h2
    exact wp_iret rfl dX8_often_9
def loX8_often : Nat → KTX8_often
  | 0 => fun _ _ _ _ _ => none
  | n + 1 => hX8_often_22 (loX8_often n)
theorem LOX8_often {K : CX} {l : Launch} {n0 k0 : Nat} : ∀ n : Nat, (∀ (w : XW) (l0 : Nat) (l1 : Int32) (l2 : Int32) (l3 : Int32) (q : Int32 × XW), (loX8_often n) w l0 l1 l2 l3 = some q → WP K l mX8_often 6 140 n0 k0 (some (.int q.1)) q.2 22 [some (.ref l0), some (.int l1), some (.int l2), some (.int l3)] [] w) := by
  intro n
  induction n with
  | zero => exact fun _ _ _ _ _ q h => (by cases h)
  | succ n ih => exact fun _ _ _ _ _ q h => HX8_often_22 ih h
def fX8_often (w : XW) (l0 : Nat) (l1 : Int32) : Option (Int32 × XW) := if isO w l0 8 = true then eX8_often (loX8_often FU) w l0 l1 else none
theorem OX8_often {w : XW} {l0 : Nat} {l1 : Int32} {q : Int32 × XW} (h : fX8_often w l0 l1 = some q) : isO w l0 8 = true := Decidable.byContradiction fun z => by unfold fX8_often at h; rw [if_neg z] at h; cases h
theorem MX8_often {K : CX} {l : Launch} {w : XW} {l0 : Nat} {l1 : Int32} {q : Int32 × XW} (h : fX8_often w l0 l1 = some q) : MT K l mX8_often 6 140 [.ref l0, .int l1] w (some (.int q.1)) q.2 := by
  have z := OX8_often h
  unfold fX8_often at h
  rw [if_pos z] at h
  exact MT.of (by decide) (Nat.le_of_ble_eq_true rfl) rfl (EX8_often (LOX8_often FU) h)
/-! FractionRun$State.hasPowersOf(LFractionRun$State;)Z: frames 1, words 20 -/
abbrev mX5_hasPowersOf : MR := (⟨"FractionRun$State", "hasPowersOf", "(LFractionRun$State;)Z"⟩, prog_7_method_6_code, 3, (some .boolean))
theorem dX5_hasPowersOf_0 : decode prog_7_method_6_code 0 = .ok (.iconst 0, 1) := by decide +kernel
theorem dX5_hasPowersOf_1 : decode prog_7_method_6_code 1 = .ok (.istore_n 2, 1) := by decide +kernel
theorem dX5_hasPowersOf_2 : decode prog_7_method_6_code 2 = .ok (.iload_n 2, 1) := by decide +kernel
theorem dX5_hasPowersOf_3 : decode prog_7_method_6_code 3 = .ok (.bipush 6, 2) := by decide +kernel
theorem dX5_hasPowersOf_5 : decode prog_7_method_6_code 5 = .ok (.if_icmp .ge 26, 3) := by decide +kernel
theorem dX5_hasPowersOf_8 : decode prog_7_method_6_code 8 = .ok (.aload_n 0, 1) := by decide +kernel
theorem dX5_hasPowersOf_9 : decode prog_7_method_6_code 9 = .ok (.getfield 9, 3) := by decide +kernel
theorem dX5_hasPowersOf_12 : decode prog_7_method_6_code 12 = .ok (.iload_n 2, 1) := by decide +kernel
theorem dX5_hasPowersOf_13 : decode prog_7_method_6_code 13 = .ok (.iaload, 1) := by decide +kernel
theorem dX5_hasPowersOf_14 : decode prog_7_method_6_code 14 = .ok (.aload_n 1, 1) := by decide +kernel
theorem dX5_hasPowersOf_15 : decode prog_7_method_6_code 15 = .ok (.getfield 9, 3) := by decide +kernel
theorem dX5_hasPowersOf_18 : decode prog_7_method_6_code 18 = .ok (.iload_n 2, 1) := by decide +kernel
theorem dX5_hasPowersOf_19 : decode prog_7_method_6_code 19 = .ok (.iaload, 1) := by decide +kernel
theorem dX5_hasPowersOf_20 : decode prog_7_method_6_code 20 = .ok (.if_icmp .eq 5, 3) := by decide +kernel
theorem dX5_hasPowersOf_23 : decode prog_7_method_6_code 23 = .ok (.iconst 0, 1) := by decide +kernel
theorem dX5_hasPowersOf_24 : decode prog_7_method_6_code 24 = .ok (.ireturn, 1) := by decide +kernel
theorem dX5_hasPowersOf_25 : decode prog_7_method_6_code 25 = .ok (.iinc 2 1, 3) := by decide +kernel
theorem dX5_hasPowersOf_28 : decode prog_7_method_6_code 28 = .ok (.goto (-26), 3) := by decide +kernel
theorem dX5_hasPowersOf_31 : decode prog_7_method_6_code 31 = .ok (.iconst 1, 1) := by decide +kernel
theorem dX5_hasPowersOf_32 : decode prog_7_method_6_code 32 = .ok (.ireturn, 1) := by decide +kernel
theorem okM_X5_hasPowersOf : okM mX5_hasPowersOf 1 := ⟨tw532, tw5, by decide, by decide, by decide +kernel⟩
abbrev KTX5_hasPowersOf : Type := (XW → Nat → Nat → Int32 → Option (Int32 × XW))
def hX5_hasPowersOf_2 (k : KTX5_hasPowersOf) (w : XW) (l0 : Nat) (l1 : Nat) (l2 : Int32) : Option (Int32 × XW) :=
  if (6 : Int32) ≤ l2 then
  some ((1 : Int32), w)
  else
  (gR w l0 5 0).bind fun x2 =>
  (aI w 0 x2 l2).bind fun x5 =>
  (gR w l1 5 0).bind fun x8 =>
  (aI w 0 x8 l2).bind fun x11 =>
  if x5 = x11 then
  k w l0 l1 (l2 + (1 : Int32))
  else
  some ((0 : Int32), w)
theorem HX5_hasPowersOf_2 {K : CX} {l : Launch} {n0 k0 : Nat} {k : KTX5_hasPowersOf} (hk0 : ∀ (w : XW) (l0 : Nat) (l1 : Nat) (l2 : Int32) (q : Int32 × XW), k w l0 l1 l2 = some q → WP K l mX5_hasPowersOf 1 20 n0 k0 (some (.int q.1)) q.2 2 [some (.ref l0), some (.ref l1), some (.int l2)] [] w) {w : XW} {l0 : Nat} {l1 : Nat} {l2 : Int32} {q : Int32 × XW} (h0 : hX5_hasPowersOf_2 k w l0 l1 l2 = some q) : WP K l mX5_hasPowersOf 1 20 n0 k0 (some (.int q.1)) q.2 2 [some (.ref l0), some (.ref l1), some (.int l2)] [] w := by
  unfold hX5_hasPowersOf_2 at h0
  refine wp_iload_n dX5_hasPowersOf_2 rfl ?_
  refine wp_bipush (v := (6 : Int32)) dX5_hasPowersOf_3 (by decide) ?_
  refine wp_icmp_ge (tgt := 31) dX5_hasPowersOf_5 (by decide) (fun c1 => ?_) (fun c1 => ?_)
  · rw [if_pos c1] at h0
    refine wp_iconst (v := (1 : Int32)) dX5_hasPowersOf_31 (by decide) ?_
    cases h0
    exact wp_zret (x := (1 : Int32)) rfl narrow_b1 dX5_hasPowersOf_32
  · rw [if_neg c1] at h0
    refine wp_aload_n dX5_hasPowersOf_8 rfl ?_
    obtain ⟨x2, e4, h3⟩ := Option.bind_eq_some_iff.mp h0
    clear h0
    refine wp_getR okX5 (k := 0) (by decide) tw92 dX5_hasPowersOf_9 e4 ?_
    refine wp_iload_n dX5_hasPowersOf_12 rfl ?_
    obtain ⟨x5, e7, h6⟩ := Option.bind_eq_some_iff.mp h3
    clear h3
    refine wp_iald dX5_hasPowersOf_13 e7 ?_
    refine wp_aload_n dX5_hasPowersOf_14 rfl ?_
    obtain ⟨x8, e10, h9⟩ := Option.bind_eq_some_iff.mp h6
    clear h6
    refine wp_getR okX5 (k := 0) (by decide) tw92 dX5_hasPowersOf_15 e10 ?_
    refine wp_iload_n dX5_hasPowersOf_18 rfl ?_
    obtain ⟨x11, e13, h12⟩ := Option.bind_eq_some_iff.mp h9
    clear h9
    refine wp_iald dX5_hasPowersOf_19 e13 ?_
    refine wp_icmp_eq (tgt := 25) dX5_hasPowersOf_20 (by decide) (fun c14 => ?_) (fun c14 => ?_)
    · rw [if_pos c14] at h12
      refine wp_iinc (v := (l2 + (1 : Int32))) (L1 := [some (.ref l0), some (.ref l1), some (.int (l2 + (1 : Int32)))]) dX5_hasPowersOf_25 (Nat.le_of_ble_eq_true rfl) rfl (congrArg (fun z => l2 + z) (by decide)) rfl ?_
      refine wp_goto (tgt := 2) dX5_hasPowersOf_28 (by decide) ?_
      exact WP.wk (hk0 _ _ _ _ _ h12) (And.intro rfl (And.intro rfl (And.intro rfl trivial)))
    · rw [if_neg c14] at h12
      refine wp_iconst (v := (0 : Int32)) dX5_hasPowersOf_23 (by decide) ?_
      cases h12
      exact wp_zret (x := (0 : Int32)) rfl narrow_b0 dX5_hasPowersOf_24
def eX5_hasPowersOf (k : KTX5_hasPowersOf) (w : XW) (l0 : Nat) (l1 : Nat) : Option (Int32 × XW) :=
  k w l0 l1 (0 : Int32)
theorem EX5_hasPowersOf {K : CX} {l : Launch} {n0 k0 : Nat} {k : KTX5_hasPowersOf} (hk0 : ∀ (w : XW) (l0 : Nat) (l1 : Nat) (l2 : Int32) (q : Int32 × XW), k w l0 l1 l2 = some q → WP K l mX5_hasPowersOf 1 20 n0 k0 (some (.int q.1)) q.2 2 [some (.ref l0), some (.ref l1), some (.int l2)] [] w) {w : XW} {l0 : Nat} {l1 : Nat} {q : Int32 × XW} (h0 : eX5_hasPowersOf k w l0 l1 = some q) : WP K l mX5_hasPowersOf 1 20 n0 k0 (some (.int q.1)) q.2 0 [some (.ref l0), some (.ref l1), none] [] w := by
  unfold eX5_hasPowersOf at h0
  refine wp_iconst (v := (0 : Int32)) dX5_hasPowersOf_0 (by decide) ?_
  refine wp_istore_n (L1 := [some (.ref l0), some (.ref l1), some (.int (0 : Int32))]) dX5_hasPowersOf_1 (Nat.le_of_ble_eq_true rfl) rfl ?_
  exact WP.wk (hk0 _ _ _ _ _ h0) (And.intro rfl (And.intro rfl (And.intro rfl trivial)))
def loX5_hasPowersOf : Nat → KTX5_hasPowersOf
  | 0 => fun _ _ _ _ => none
  | n + 1 => hX5_hasPowersOf_2 (loX5_hasPowersOf n)
theorem LOX5_hasPowersOf {K : CX} {l : Launch} {n0 k0 : Nat} : ∀ n : Nat, (∀ (w : XW) (l0 : Nat) (l1 : Nat) (l2 : Int32) (q : Int32 × XW), (loX5_hasPowersOf n) w l0 l1 l2 = some q → WP K l mX5_hasPowersOf 1 20 n0 k0 (some (.int q.1)) q.2 2 [some (.ref l0), some (.ref l1), some (.int l2)] [] w) := by
  intro n
  induction n with
  | zero => exact fun _ _ _ _ q h => (by cases h)
  | succ n ih => exact fun _ _ _ _ q h => HX5_hasPowersOf_2 ih h
def fX5_hasPowersOf (w : XW) (l0 : Nat) (l1 : Nat) : Option (Int32 × XW) := if isO w l0 5 = true then eX5_hasPowersOf (loX5_hasPowersOf FU) w l0 l1 else none
theorem OX5_hasPowersOf {w : XW} {l0 : Nat} {l1 : Nat} {q : Int32 × XW} (h : fX5_hasPowersOf w l0 l1 = some q) : isO w l0 5 = true := Decidable.byContradiction fun z => by unfold fX5_hasPowersOf at h; rw [if_neg z] at h; cases h
theorem MX5_hasPowersOf {K : CX} {l : Launch} {w : XW} {l0 : Nat} {l1 : Nat} {q : Int32 × XW} (h : fX5_hasPowersOf w l0 l1 = some q) : MT K l mX5_hasPowersOf 1 20 [.ref l0, .ref l1] w (some (.int q.1)) q.2 := by
  have z := OX5_hasPowersOf h
  unfold fX5_hasPowersOf at h
  rw [if_pos z] at h
  exact MT.of (by decide) (Nat.le_of_ble_eq_true rfl) rfl (EX5_hasPowersOf (LOX5_hasPowersOf FU) h)
/-! FractionRun.needed()I: frames 6, words 139 -/
abbrev mX7_needed : MR := (⟨"FractionRun", "needed", "()I"⟩, prog_1_method_19_code, 3, (some .int))
theorem dX7_needed_0 : decode prog_1_method_19_code 0 = .ok (.aload_n 0, 1) := by decide +kernel
theorem dX7_needed_1 : decode prog_1_method_19_code 1 = .ok (.getfield 43, 3) := by decide +kernel
theorem dX7_needed_4 : decode prog_1_method_19_code 4 = .ok (.aload_n 0, 1) := by decide +kernel
theorem dX7_needed_5 : decode prog_1_method_19_code 5 = .ok (.getfield 36, 3) := by decide +kernel
theorem dX7_needed_8 : decode prog_1_method_19_code 8 = .ok (.invokevirtual 189, 3) := by decide +kernel
theorem dX7_needed_11 : decode prog_1_method_19_code 11 = .ok (.aload_n 0, 1) := by decide +kernel
theorem dX7_needed_12 : decode prog_1_method_19_code 12 = .ok (.getfield 43, 3) := by decide +kernel
theorem dX7_needed_15 : decode prog_1_method_19_code 15 = .ok (.aload_n 0, 1) := by decide +kernel
theorem dX7_needed_16 : decode prog_1_method_19_code 16 = .ok (.getfield 26, 3) := by decide +kernel
theorem dX7_needed_19 : decode prog_1_method_19_code 19 = .ok (.sipush 200, 3) := by decide +kernel
theorem dX7_needed_22 : decode prog_1_method_19_code 22 = .ok (.invokevirtual 195, 3) := by decide +kernel
theorem dX7_needed_25 : decode prog_1_method_19_code 25 = .ok (.bipush (-4), 2) := by decide +kernel
theorem dX7_needed_27 : decode prog_1_method_19_code 27 = .ok (.if_icmp .ne 6, 3) := by decide +kernel
theorem dX7_needed_30 : decode prog_1_method_19_code 30 = .ok (.bipush (-4), 2) := by decide +kernel
theorem dX7_needed_32 : decode prog_1_method_19_code 32 = .ok (.ireturn, 1) := by decide +kernel
theorem dX7_needed_33 : decode prog_1_method_19_code 33 = .ok (.iconst 0, 1) := by decide +kernel
theorem dX7_needed_34 : decode prog_1_method_19_code 34 = .ok (.istore_n 1, 1) := by decide +kernel
theorem dX7_needed_35 : decode prog_1_method_19_code 35 = .ok (.iconst 0, 1) := by decide +kernel
theorem dX7_needed_36 : decode prog_1_method_19_code 36 = .ok (.istore_n 2, 1) := by decide +kernel
theorem dX7_needed_37 : decode prog_1_method_19_code 37 = .ok (.iload_n 2, 1) := by decide +kernel
theorem dX7_needed_38 : decode prog_1_method_19_code 38 = .ok (.aload_n 0, 1) := by decide +kernel
theorem dX7_needed_39 : decode prog_1_method_19_code 39 = .ok (.getfield 36, 3) := by decide +kernel
theorem dX7_needed_42 : decode prog_1_method_19_code 42 = .ok (.getfield 175, 3) := by decide +kernel
theorem dX7_needed_45 : decode prog_1_method_19_code 45 = .ok (.if_icmp .ge 75, 3) := by decide +kernel
theorem dX7_needed_48 : decode prog_1_method_19_code 48 = .ok (.aload_n 0, 1) := by decide +kernel
theorem dX7_needed_49 : decode prog_1_method_19_code 49 = .ok (.getfield 40, 3) := by decide +kernel
theorem dX7_needed_52 : decode prog_1_method_19_code 52 = .ok (.aload_n 0, 1) := by decide +kernel
theorem dX7_needed_53 : decode prog_1_method_19_code 53 = .ok (.getfield 36, 3) := by decide +kernel
theorem dX7_needed_56 : decode prog_1_method_19_code 56 = .ok (.invokevirtual 189, 3) := by decide +kernel
theorem dX7_needed_59 : decode prog_1_method_19_code 59 = .ok (.aload_n 0, 1) := by decide +kernel
theorem dX7_needed_60 : decode prog_1_method_19_code 60 = .ok (.getfield 40, 3) := by decide +kernel
theorem dX7_needed_63 : decode prog_1_method_19_code 63 = .ok (.iload_n 2, 1) := by decide +kernel
theorem dX7_needed_64 : decode prog_1_method_19_code 64 = .ok (.invokevirtual 181, 3) := by decide +kernel
theorem dX7_needed_67 : decode prog_1_method_19_code 67 = .ok (.aload_n 0, 1) := by decide +kernel
theorem dX7_needed_68 : decode prog_1_method_19_code 68 = .ok (.getfield 40, 3) := by decide +kernel
theorem dX7_needed_71 : decode prog_1_method_19_code 71 = .ok (.aload_n 0, 1) := by decide +kernel
theorem dX7_needed_72 : decode prog_1_method_19_code 72 = .ok (.getfield 26, 3) := by decide +kernel
theorem dX7_needed_75 : decode prog_1_method_19_code 75 = .ok (.sipush 200, 3) := by decide +kernel
theorem dX7_needed_78 : decode prog_1_method_19_code 78 = .ok (.invokevirtual 195, 3) := by decide +kernel
theorem dX7_needed_81 : decode prog_1_method_19_code 81 = .ok (.bipush (-4), 2) := by decide +kernel
theorem dX7_needed_83 : decode prog_1_method_19_code 83 = .ok (.if_icmp .eq 17, 3) := by decide +kernel
theorem dX7_needed_86 : decode prog_1_method_19_code 86 = .ok (.aload_n 0, 1) := by decide +kernel
theorem dX7_needed_87 : decode prog_1_method_19_code 87 = .ok (.getfield 40, 3) := by decide +kernel
theorem dX7_needed_90 : decode prog_1_method_19_code 90 = .ok (.aload_n 0, 1) := by decide +kernel
theorem dX7_needed_91 : decode prog_1_method_19_code 91 = .ok (.getfield 43, 3) := by decide +kernel
theorem dX7_needed_94 : decode prog_1_method_19_code 94 = .ok (.invokevirtual 217, 3) := by decide +kernel
theorem dX7_needed_97 : decode prog_1_method_19_code 97 = .ok (.ifCond .ne 17, 3) := by decide +kernel
theorem dX7_needed_100 : decode prog_1_method_19_code 100 = .ok (.iload_n 1, 1) := by decide +kernel
theorem dX7_needed_101 : decode prog_1_method_19_code 101 = .ok (.iconst 1, 1) := by decide +kernel
theorem dX7_needed_102 : decode prog_1_method_19_code 102 = .ok (.aload_n 0, 1) := by decide +kernel
theorem dX7_needed_103 : decode prog_1_method_19_code 103 = .ok (.getfield 36, 3) := by decide +kernel
theorem dX7_needed_106 : decode prog_1_method_19_code 106 = .ok (.getfield 221, 3) := by decide +kernel
theorem dX7_needed_109 : decode prog_1_method_19_code 109 = .ok (.iload_n 2, 1) := by decide +kernel
theorem dX7_needed_110 : decode prog_1_method_19_code 110 = .ok (.iaload, 1) := by decide +kernel
theorem dX7_needed_111 : decode prog_1_method_19_code 111 = .ok (.ishl, 1) := by decide +kernel
theorem dX7_needed_112 : decode prog_1_method_19_code 112 = .ok (.ior, 1) := by decide +kernel
theorem dX7_needed_113 : decode prog_1_method_19_code 113 = .ok (.istore_n 1, 1) := by decide +kernel
theorem dX7_needed_114 : decode prog_1_method_19_code 114 = .ok (.iinc 2 1, 3) := by decide +kernel
theorem dX7_needed_117 : decode prog_1_method_19_code 117 = .ok (.goto (-80), 3) := by decide +kernel
theorem dX7_needed_120 : decode prog_1_method_19_code 120 = .ok (.iload_n 1, 1) := by decide +kernel
theorem dX7_needed_121 : decode prog_1_method_19_code 121 = .ok (.ireturn, 1) := by decide +kernel
theorem okM_X7_needed : okM mX7_needed 0 := ⟨tw528, tw1, by decide, by decide, by decide +kernel⟩
abbrev KTX7_needed : Type := (XW → Nat → Int32 → Int32 → Option (Int32 × XW))
def bX7_needed_114 (k : KTX7_needed) (w : XW) (l0 : Nat) (l1 : Int32) (l2 : Int32) : Option (Int32 × XW) :=
  k w l0 l1 (l2 + (1 : Int32))
theorem BX7_needed_114 {K : CX} {l : Launch} {n0 k0 : Nat} {k : KTX7_needed} (hk0 : ∀ (w : XW) (l0 : Nat) (l1 : Int32) (l2 : Int32) (q : Int32 × XW), k w l0 l1 l2 = some q → WP K l mX7_needed 6 139 n0 k0 (some (.int q.1)) q.2 37 [some (.ref l0), some (.int l1), some (.int l2)] [] w) {w : XW} {l0 : Nat} {l1 : Int32} {l2 : Int32} {q : Int32 × XW} (h0 : bX7_needed_114 k w l0 l1 l2 = some q) : WP K l mX7_needed 6 139 n0 k0 (some (.int q.1)) q.2 114 [some (.ref l0), some (.int l1), some (.int l2)] [] w := by
  unfold bX7_needed_114 at h0
  refine wp_iinc (v := (l2 + (1 : Int32))) (L1 := [some (.ref l0), some (.int l1), some (.int (l2 + (1 : Int32)))]) dX7_needed_114 (Nat.le_of_ble_eq_true rfl) rfl (congrArg (fun z => l2 + z) (by decide)) rfl ?_
  refine wp_goto (tgt := 37) dX7_needed_117 (by decide) ?_
  exact WP.wk (hk0 _ _ _ _ _ h0) (And.intro rfl (And.intro rfl (And.intro rfl trivial)))
def bX7_needed_100 (k : KTX7_needed) (w : XW) (l0 : Nat) (l1 : Int32) (l2 : Int32) : Option (Int32 × XW) :=
  (gR w l0 7 4).bind fun x1 =>
  (gR w x1 5 1).bind fun x4 =>
  (aI w 0 x4 l2).bind fun x7 =>
  bX7_needed_114 k w l0 (l1 ||| ((1 : Int32) <<< (x7 &&& 31))) l2
theorem BX7_needed_100 {K : CX} {l : Launch} {n0 k0 : Nat} {k : KTX7_needed} (hk0 : ∀ (w : XW) (l0 : Nat) (l1 : Int32) (l2 : Int32) (q : Int32 × XW), k w l0 l1 l2 = some q → WP K l mX7_needed 6 139 n0 k0 (some (.int q.1)) q.2 37 [some (.ref l0), some (.int l1), some (.int l2)] [] w) {w : XW} {l0 : Nat} {l1 : Int32} {l2 : Int32} {q : Int32 × XW} (h0 : bX7_needed_100 k w l0 l1 l2 = some q) : WP K l mX7_needed 6 139 n0 k0 (some (.int q.1)) q.2 100 [some (.ref l0), some (.int l1), some (.int l2)] [] w := by
  unfold bX7_needed_100 at h0
  refine wp_iload_n dX7_needed_100 rfl ?_
  refine wp_iconst (v := (1 : Int32)) dX7_needed_101 (by decide) ?_
  refine wp_aload_n dX7_needed_102 rfl ?_
  obtain ⟨x1, e3, h2⟩ := Option.bind_eq_some_iff.mp h0
  clear h0
  refine wp_getR okX7 (k := 4) (by decide) tw302 dX7_needed_103 e3 ?_
  obtain ⟨x4, e6, h5⟩ := Option.bind_eq_some_iff.mp h2
  clear h2
  refine wp_getR okX5 (k := 1) (by decide) tw96 dX7_needed_106 e6 ?_
  refine wp_iload_n dX7_needed_109 rfl ?_
  obtain ⟨x7, e9, h8⟩ := Option.bind_eq_some_iff.mp h5
  clear h5
  refine wp_iald dX7_needed_110 e9 ?_
  refine wp_ishl dX7_needed_111 ?_
  refine wp_ior dX7_needed_112 ?_
  refine wp_istore_n (L1 := [some (.ref l0), some (.int (l1 ||| ((1 : Int32) <<< (x7 &&& 31)))), some (.int l2)]) dX7_needed_113 (Nat.le_of_ble_eq_true rfl) rfl ?_
  exact WP.wk (BX7_needed_114 hk0 h8) (And.intro rfl (And.intro rfl (And.intro rfl trivial)))
def hX7_needed_37 (k : KTX7_needed) (w : XW) (l0 : Nat) (l1 : Int32) (l2 : Int32) : Option (Int32 × XW) :=
  (gR w l0 7 4).bind fun x1 =>
  (gI w x1 5 2).bind fun x4 =>
  if x4 ≤ l2 then
  some (l1, w)
  else
  (gR w l0 7 5).bind fun x8 =>
  (gR w l0 7 4).bind fun x11 =>
  (fX5_copyFrom w x8 x11).bind fun q14 =>
  (gR q14 l0 7 5).bind fun x17 =>
  (fX5_leaveOut q14 x17 l2).bind fun q20 =>
  (gR q20 l0 7 5).bind fun x23 =>
  (gR q20 l0 7 2).bind fun x26 =>
  (fX5_stepsToRest q20 x23 x26 (200 : Int32)).bind fun q29 =>
  if q29.1 = (-4 : Int32) then
  bX7_needed_100 k q29.2 l0 l1 l2
  else
  (gR q29.2 l0 7 5).bind fun x33 =>
  (gR q29.2 l0 7 6).bind fun x36 =>
  (fX5_hasPowersOf q29.2 x33 x36).bind fun q39 =>
  if q39.1 = 0 then
  bX7_needed_100 k q39.2 l0 l1 l2
  else
  bX7_needed_114 k q39.2 l0 l1 l2
theorem HX7_needed_37 {K : CX} {l : Launch} {n0 k0 : Nat} {k : KTX7_needed} (hk0 : ∀ (w : XW) (l0 : Nat) (l1 : Int32) (l2 : Int32) (q : Int32 × XW), k w l0 l1 l2 = some q → WP K l mX7_needed 6 139 n0 k0 (some (.int q.1)) q.2 37 [some (.ref l0), some (.int l1), some (.int l2)] [] w) {w : XW} {l0 : Nat} {l1 : Int32} {l2 : Int32} {q : Int32 × XW} (h0 : hX7_needed_37 k w l0 l1 l2 = some q) : WP K l mX7_needed 6 139 n0 k0 (some (.int q.1)) q.2 37 [some (.ref l0), some (.int l1), some (.int l2)] [] w := by
  unfold hX7_needed_37 at h0
  refine wp_iload_n dX7_needed_37 rfl ?_
  refine wp_aload_n dX7_needed_38 rfl ?_
  obtain ⟨x1, e3, h2⟩ := Option.bind_eq_some_iff.mp h0
  clear h0
  refine wp_getR okX7 (k := 4) (by decide) tw302 dX7_needed_39 e3 ?_
  obtain ⟨x4, e6, h5⟩ := Option.bind_eq_some_iff.mp h2
  clear h2
  refine wp_getI okX5 (k := 2) (by decide) tw98 dX7_needed_42 e6 ?_
  refine wp_icmp_ge (tgt := 120) dX7_needed_45 (by decide) (fun c7 => ?_) (fun c7 => ?_)
  · rw [if_pos c7] at h5
    refine wp_iload_n dX7_needed_120 rfl ?_
    cases h5
    exact wp_iret rfl dX7_needed_121
  · rw [if_neg c7] at h5
    refine wp_aload_n dX7_needed_48 rfl ?_
    obtain ⟨x8, e10, h9⟩ := Option.bind_eq_some_iff.mp h5
    clear h5
    refine wp_getR okX7 (k := 5) (by decide) tw303 dX7_needed_49 e10 ?_
    refine wp_aload_n dX7_needed_52 rfl ?_
    obtain ⟨x11, e13, h12⟩ := Option.bind_eq_some_iff.mp h9
    clear h9
    refine wp_getR okX7 (k := 4) (by decide) tw302 dX7_needed_53 e13 ?_
    obtain ⟨q14, e16, h15⟩ := Option.bind_eq_some_iff.mp h12
    clear h12
    refine wp_Vv (As := [.ref x11]) (S := []) okM_X5_copyFrom tw419 tw420 tw474 (OX5_copyFrom e16) rfl rfl rfl ⟨(Nat.le_of_ble_eq_true rfl), (Nat.le_of_ble_eq_true rfl)⟩ (Nat.le_of_ble_eq_true rfl) rfl dX7_needed_56 (MX5_copyFrom e16) ?_
    refine wp_aload_n dX7_needed_59 rfl ?_
    obtain ⟨x17, e19, h18⟩ := Option.bind_eq_some_iff.mp h15
    clear h15
    refine wp_getR okX7 (k := 5) (by decide) tw303 dX7_needed_60 e19 ?_
    refine wp_iload_n dX7_needed_63 rfl ?_
    obtain ⟨q20, e22, h21⟩ := Option.bind_eq_some_iff.mp h18
    clear h18
    refine wp_Vv (As := [.int l2]) (S := []) okM_X5_leaveOut tw459 tw460 tw458 (OX5_leaveOut e22) rfl rfl rfl ⟨(Nat.le_of_ble_eq_true rfl), (Nat.le_of_ble_eq_true rfl)⟩ (Nat.le_of_ble_eq_true rfl) rfl dX7_needed_64 (MX5_leaveOut e22) ?_
    refine wp_aload_n dX7_needed_67 rfl ?_
    obtain ⟨x23, e25, h24⟩ := Option.bind_eq_some_iff.mp h21
    clear h21
    refine wp_getR okX7 (k := 5) (by decide) tw303 dX7_needed_68 e25 ?_
    refine wp_aload_n dX7_needed_71 rfl ?_
    obtain ⟨x26, e28, h27⟩ := Option.bind_eq_some_iff.mp h24
    clear h24
    refine wp_getR okX7 (k := 2) (by decide) tw300 dX7_needed_72 e28 ?_
    refine wp_sipush (v := (200 : Int32)) dX7_needed_75 (by decide) ?_
    obtain ⟨q29, e31, h30⟩ := Option.bind_eq_some_iff.mp h27
    clear h27
    refine wp_Vi (As := [.ref x26, .int (200 : Int32)]) (S := []) okM_X5_stepsToRest tw485 tw486 tw484 (OX5_stepsToRest e31) rfl rfl rfl ⟨(Nat.le_of_ble_eq_true rfl), (Nat.le_of_ble_eq_true rfl)⟩ (Nat.le_of_ble_eq_true rfl) rfl dX7_needed_78 (MX5_stepsToRest e31) ?_
    refine wp_bipush (v := (-4 : Int32)) dX7_needed_81 (by decide) ?_
    refine wp_icmp_eq (tgt := 100) dX7_needed_83 (by decide) (fun c32 => ?_) (fun c32 => ?_)
    · rw [if_pos c32] at h30
      exact WP.wk (BX7_needed_100 hk0 h30) (And.intro rfl (And.intro rfl (And.intro rfl trivial)))
    · rw [if_neg c32] at h30
      refine wp_aload_n dX7_needed_86 rfl ?_
      obtain ⟨x33, e35, h34⟩ := Option.bind_eq_some_iff.mp h30
      clear h30
      refine wp_getR okX7 (k := 5) (by decide) tw303 dX7_needed_87 e35 ?_
      refine wp_aload_n dX7_needed_90 rfl ?_
      obtain ⟨x36, e38, h37⟩ := Option.bind_eq_some_iff.mp h34
      clear h34
      refine wp_getR okX7 (k := 6) (by decide) tw304 dX7_needed_91 e38 ?_
      obtain ⟨q39, e41, h40⟩ := Option.bind_eq_some_iff.mp h37
      clear h37
      refine wp_Vi (As := [.ref x36]) (S := []) okM_X5_hasPowersOf tw530 tw531 tw529 (OX5_hasPowersOf e41) rfl rfl rfl ⟨(Nat.le_of_ble_eq_true rfl), (Nat.le_of_ble_eq_true rfl)⟩ (Nat.le_of_ble_eq_true rfl) rfl dX7_needed_94 (MX5_hasPowersOf e41) ?_
      refine wp_if_ne (tgt := 114) dX7_needed_97 (by decide) (fun c42 => ?_) (fun c42 => ?_)
      · rw [if_neg c42] at h40
        exact WP.wk (BX7_needed_114 hk0 h40) (And.intro rfl (And.intro rfl (And.intro rfl trivial)))
      · rw [if_pos c42] at h40
        exact WP.wk (BX7_needed_100 hk0 h40) (And.intro rfl (And.intro rfl (And.intro rfl trivial)))
def eX7_needed (k : KTX7_needed) (w : XW) (l0 : Nat) : Option (Int32 × XW) :=
  (gR w l0 7 6).bind fun x1 =>
  (gR w l0 7 4).bind fun x4 =>
  (fX5_copyFrom w x1 x4).bind fun q7 =>
  (gR q7 l0 7 6).bind fun x10 =>
  (gR q7 l0 7 2).bind fun x13 =>
  (fX5_stepsToRest q7 x10 x13 (200 : Int32)).bind fun q16 =>
  if q16.1 = (-4 : Int32) then
  some ((-4 : Int32), q16.2)
  else
  k q16.2 l0 (0 : Int32) (0 : Int32)
theorem EX7_needed {K : CX} {l : Launch} {n0 k0 : Nat} {k : KTX7_needed} (hk0 : ∀ (w : XW) (l0 : Nat) (l1 : Int32) (l2 : Int32) (q : Int32 × XW), k w l0 l1 l2 = some q → WP K l mX7_needed 6 139 n0 k0 (some (.int q.1)) q.2 37 [some (.ref l0), some (.int l1), some (.int l2)] [] w) {w : XW} {l0 : Nat} {q : Int32 × XW} (h0 : eX7_needed k w l0 = some q) : WP K l mX7_needed 6 139 n0 k0 (some (.int q.1)) q.2 0 [some (.ref l0), none, none] [] w := by
  unfold eX7_needed at h0
  refine wp_aload_n dX7_needed_0 rfl ?_
  obtain ⟨x1, e3, h2⟩ := Option.bind_eq_some_iff.mp h0
  clear h0
  refine wp_getR okX7 (k := 6) (by decide) tw304 dX7_needed_1 e3 ?_
  refine wp_aload_n dX7_needed_4 rfl ?_
  obtain ⟨x4, e6, h5⟩ := Option.bind_eq_some_iff.mp h2
  clear h2
  refine wp_getR okX7 (k := 4) (by decide) tw302 dX7_needed_5 e6 ?_
  obtain ⟨q7, e9, h8⟩ := Option.bind_eq_some_iff.mp h5
  clear h5
  refine wp_Vv (As := [.ref x4]) (S := []) okM_X5_copyFrom tw419 tw420 tw474 (OX5_copyFrom e9) rfl rfl rfl ⟨(Nat.le_of_ble_eq_true rfl), (Nat.le_of_ble_eq_true rfl)⟩ (Nat.le_of_ble_eq_true rfl) rfl dX7_needed_8 (MX5_copyFrom e9) ?_
  refine wp_aload_n dX7_needed_11 rfl ?_
  obtain ⟨x10, e12, h11⟩ := Option.bind_eq_some_iff.mp h8
  clear h8
  refine wp_getR okX7 (k := 6) (by decide) tw304 dX7_needed_12 e12 ?_
  refine wp_aload_n dX7_needed_15 rfl ?_
  obtain ⟨x13, e15, h14⟩ := Option.bind_eq_some_iff.mp h11
  clear h11
  refine wp_getR okX7 (k := 2) (by decide) tw300 dX7_needed_16 e15 ?_
  refine wp_sipush (v := (200 : Int32)) dX7_needed_19 (by decide) ?_
  obtain ⟨q16, e18, h17⟩ := Option.bind_eq_some_iff.mp h14
  clear h14
  refine wp_Vi (As := [.ref x13, .int (200 : Int32)]) (S := []) okM_X5_stepsToRest tw485 tw486 tw484 (OX5_stepsToRest e18) rfl rfl rfl ⟨(Nat.le_of_ble_eq_true rfl), (Nat.le_of_ble_eq_true rfl)⟩ (Nat.le_of_ble_eq_true rfl) rfl dX7_needed_22 (MX5_stepsToRest e18) ?_
  refine wp_bipush (v := (-4 : Int32)) dX7_needed_25 (by decide) ?_
  refine wp_icmp_ne (tgt := 33) dX7_needed_27 (by decide) (fun c19 => ?_) (fun c19 => ?_)
  · rw [if_neg c19] at h17
    refine wp_iconst (v := (0 : Int32)) dX7_needed_33 (by decide) ?_
    refine wp_istore_n (L1 := [some (.ref l0), some (.int (0 : Int32)), none]) dX7_needed_34 (Nat.le_of_ble_eq_true rfl) rfl ?_
    refine wp_iconst (v := (0 : Int32)) dX7_needed_35 (by decide) ?_
    refine wp_istore_n (L1 := [some (.ref l0), some (.int (0 : Int32)), some (.int (0 : Int32))]) dX7_needed_36 (Nat.le_of_ble_eq_true rfl) rfl ?_
    exact WP.wk (hk0 _ _ _ _ _ h17) (And.intro rfl (And.intro rfl (And.intro rfl trivial)))
  · rw [if_pos c19] at h17
    refine wp_bipush (v := (-4 : Int32)) dX7_needed_30 (by decide) ?_
    cases h17
    exact wp_iret rfl dX7_needed_32
def loX7_needed : Nat → KTX7_needed
  | 0 => fun _ _ _ _ => none
  | n + 1 => hX7_needed_37 (loX7_needed n)
theorem LOX7_needed {K : CX} {l : Launch} {n0 k0 : Nat} : ∀ n : Nat, (∀ (w : XW) (l0 : Nat) (l1 : Int32) (l2 : Int32) (q : Int32 × XW), (loX7_needed n) w l0 l1 l2 = some q → WP K l mX7_needed 6 139 n0 k0 (some (.int q.1)) q.2 37 [some (.ref l0), some (.int l1), some (.int l2)] [] w) := by
  intro n
  induction n with
  | zero => exact fun _ _ _ _ q h => (by cases h)
  | succ n ih => exact fun _ _ _ _ q h => HX7_needed_37 ih h
def fX7_needed (w : XW) (l0 : Nat) : Option (Int32 × XW) := if isO w l0 7 = true then eX7_needed (loX7_needed FU) w l0 else none
theorem OX7_needed {w : XW} {l0 : Nat} {q : Int32 × XW} (h : fX7_needed w l0 = some q) : isO w l0 7 = true := Decidable.byContradiction fun z => by unfold fX7_needed at h; rw [if_neg z] at h; cases h
theorem MX7_needed {K : CX} {l : Launch} {w : XW} {l0 : Nat} {q : Int32 × XW} (h : fX7_needed w l0 = some q) : MT K l mX7_needed 6 139 [.ref l0] w (some (.int q.1)) q.2 := by
  have z := OX7_needed h
  unfold fX7_needed at h
  rw [if_pos z] at h
  exact MT.of (by decide) (Nat.le_of_ble_eq_true rfl) rfl (EX7_needed (LOX7_needed FU) h)
/-! FractionRunModel.needed()I: frames 7, words 162 -/
abbrev mX8_needed : MR := (⟨"FractionRunModel", "needed", "()I"⟩, prog_10_method_48_code, 6, (some .int))
theorem dX8_needed_0 : decode prog_10_method_48_code 0 = .ok (.aload_n 0, 1) := by decide +kernel
theorem dX8_needed_1 : decode prog_10_method_48_code 1 = .ok (.iconst 0, 1) := by decide +kernel
theorem dX8_needed_2 : decode prog_10_method_48_code 2 = .ok (.sipush 198, 3) := by decide +kernel
theorem dX8_needed_5 : decode prog_10_method_48_code 5 = .ok (.invokevirtual 155, 3) := by decide +kernel
theorem dX8_needed_8 : decode prog_10_method_48_code 8 = .ok (.aload_n 0, 1) := by decide +kernel
theorem dX8_needed_9 : decode prog_10_method_48_code 9 = .ok (.sipush 198, 3) := by decide +kernel
theorem dX8_needed_12 : decode prog_10_method_48_code 12 = .ok (.invokevirtual 193, 3) := by decide +kernel
theorem dX8_needed_15 : decode prog_10_method_48_code 15 = .ok (.ifCond .ge 6, 3) := by decide +kernel
theorem dX8_needed_18 : decode prog_10_method_48_code 18 = .ok (.bipush (-4), 2) := by decide +kernel
theorem dX8_needed_20 : decode prog_10_method_48_code 20 = .ok (.ireturn, 1) := by decide +kernel
theorem dX8_needed_21 : decode prog_10_method_48_code 21 = .ok (.iconst 0, 1) := by decide +kernel
theorem dX8_needed_22 : decode prog_10_method_48_code 22 = .ok (.istore_n 1, 1) := by decide +kernel
theorem dX8_needed_23 : decode prog_10_method_48_code 23 = .ok (.iconst 0, 1) := by decide +kernel
theorem dX8_needed_24 : decode prog_10_method_48_code 24 = .ok (.istore_n 2, 1) := by decide +kernel
theorem dX8_needed_25 : decode prog_10_method_48_code 25 = .ok (.iload_n 2, 1) := by decide +kernel
theorem dX8_needed_26 : decode prog_10_method_48_code 26 = .ok (.aload_n 0, 1) := by decide +kernel
theorem dX8_needed_27 : decode prog_10_method_48_code 27 = .ok (.getfield 25, 3) := by decide +kernel
theorem dX8_needed_30 : decode prog_10_method_48_code 30 = .ok (.bipush 14, 2) := by decide +kernel
theorem dX8_needed_32 : decode prog_10_method_48_code 32 = .ok (.iaload, 1) := by decide +kernel
theorem dX8_needed_33 : decode prog_10_method_48_code 33 = .ok (.if_icmp .ge 120, 3) := by decide +kernel
theorem dX8_needed_36 : decode prog_10_method_48_code 36 = .ok (.aload_n 0, 1) := by decide +kernel
theorem dX8_needed_37 : decode prog_10_method_48_code 37 = .ok (.getfield 25, 3) := by decide +kernel
theorem dX8_needed_40 : decode prog_10_method_48_code 40 = .ok (.bipush 6, 2) := by decide +kernel
theorem dX8_needed_42 : decode prog_10_method_48_code 42 = .ok (.iload_n 2, 1) := by decide +kernel
theorem dX8_needed_43 : decode prog_10_method_48_code 43 = .ok (.iadd, 1) := by decide +kernel
theorem dX8_needed_44 : decode prog_10_method_48_code 44 = .ok (.iaload, 1) := by decide +kernel
theorem dX8_needed_45 : decode prog_10_method_48_code 45 = .ok (.istore_n 3, 1) := by decide +kernel
theorem dX8_needed_46 : decode prog_10_method_48_code 46 = .ok (.aload_n 0, 1) := by decide +kernel
theorem dX8_needed_47 : decode prog_10_method_48_code 47 = .ok (.iconst 0, 1) := by decide +kernel
theorem dX8_needed_48 : decode prog_10_method_48_code 48 = .ok (.sipush 216, 3) := by decide +kernel
theorem dX8_needed_51 : decode prog_10_method_48_code 51 = .ok (.invokevirtual 155, 3) := by decide +kernel
theorem dX8_needed_54 : decode prog_10_method_48_code 54 = .ok (.aload_n 0, 1) := by decide +kernel
theorem dX8_needed_55 : decode prog_10_method_48_code 55 = .ok (.sipush 216, 3) := by decide +kernel
theorem dX8_needed_58 : decode prog_10_method_48_code 58 = .ok (.iload_n 3, 1) := by decide +kernel
theorem dX8_needed_59 : decode prog_10_method_48_code 59 = .ok (.invokevirtual 185, 3) := by decide +kernel
theorem dX8_needed_62 : decode prog_10_method_48_code 62 = .ok (.aload_n 0, 1) := by decide +kernel
theorem dX8_needed_63 : decode prog_10_method_48_code 63 = .ok (.sipush 216, 3) := by decide +kernel
theorem dX8_needed_66 : decode prog_10_method_48_code 66 = .ok (.invokevirtual 193, 3) := by decide +kernel
theorem dX8_needed_69 : decode prog_10_method_48_code 69 = .ok (.ifCond .lt 7, 3) := by decide +kernel
theorem dX8_needed_72 : decode prog_10_method_48_code 72 = .ok (.iconst 1, 1) := by decide +kernel
theorem dX8_needed_73 : decode prog_10_method_48_code 73 = .ok (.goto 4, 3) := by decide +kernel
theorem dX8_needed_76 : decode prog_10_method_48_code 76 = .ok (.iconst 0, 1) := by decide +kernel
theorem dX8_needed_77 : decode prog_10_method_48_code 77 = .ok (.istore 4, 2) := by decide +kernel
theorem dX8_needed_79 : decode prog_10_method_48_code 79 = .ok (.iconst 0, 1) := by decide +kernel
theorem dX8_needed_80 : decode prog_10_method_48_code 80 = .ok (.istore 5, 2) := by decide +kernel
theorem dX8_needed_82 : decode prog_10_method_48_code 82 = .ok (.iload 5, 2) := by decide +kernel
theorem dX8_needed_84 : decode prog_10_method_48_code 84 = .ok (.bipush 6, 2) := by decide +kernel
theorem dX8_needed_86 : decode prog_10_method_48_code 86 = .ok (.if_icmp .ge 46, 3) := by decide +kernel
theorem dX8_needed_89 : decode prog_10_method_48_code 89 = .ok (.iload 4, 2) := by decide +kernel
theorem dX8_needed_91 : decode prog_10_method_48_code 91 = .ok (.ifCond .eq 32, 3) := by decide +kernel
theorem dX8_needed_94 : decode prog_10_method_48_code 94 = .ok (.aload_n 0, 1) := by decide +kernel
theorem dX8_needed_95 : decode prog_10_method_48_code 95 = .ok (.getfield 25, 3) := by decide +kernel
theorem dX8_needed_98 : decode prog_10_method_48_code 98 = .ok (.sipush 216, 3) := by decide +kernel
theorem dX8_needed_101 : decode prog_10_method_48_code 101 = .ok (.iload 5, 2) := by decide +kernel
theorem dX8_needed_103 : decode prog_10_method_48_code 103 = .ok (.iadd, 1) := by decide +kernel
theorem dX8_needed_104 : decode prog_10_method_48_code 104 = .ok (.iaload, 1) := by decide +kernel
theorem dX8_needed_105 : decode prog_10_method_48_code 105 = .ok (.aload_n 0, 1) := by decide +kernel
theorem dX8_needed_106 : decode prog_10_method_48_code 106 = .ok (.getfield 25, 3) := by decide +kernel
theorem dX8_needed_109 : decode prog_10_method_48_code 109 = .ok (.sipush 198, 3) := by decide +kernel
theorem dX8_needed_112 : decode prog_10_method_48_code 112 = .ok (.iload 5, 2) := by decide +kernel
theorem dX8_needed_114 : decode prog_10_method_48_code 114 = .ok (.iadd, 1) := by decide +kernel
theorem dX8_needed_115 : decode prog_10_method_48_code 115 = .ok (.iaload, 1) := by decide +kernel
theorem dX8_needed_116 : decode prog_10_method_48_code 116 = .ok (.if_icmp .ne 7, 3) := by decide +kernel
theorem dX8_needed_119 : decode prog_10_method_48_code 119 = .ok (.iconst 1, 1) := by decide +kernel
theorem dX8_needed_120 : decode prog_10_method_48_code 120 = .ok (.goto 4, 3) := by decide +kernel
theorem dX8_needed_123 : decode prog_10_method_48_code 123 = .ok (.iconst 0, 1) := by decide +kernel
theorem dX8_needed_124 : decode prog_10_method_48_code 124 = .ok (.istore 4, 2) := by decide +kernel
theorem dX8_needed_126 : decode prog_10_method_48_code 126 = .ok (.iinc 5 1, 3) := by decide +kernel
theorem dX8_needed_129 : decode prog_10_method_48_code 129 = .ok (.goto (-47), 3) := by decide +kernel
theorem dX8_needed_132 : decode prog_10_method_48_code 132 = .ok (.iload_n 1, 1) := by decide +kernel
theorem dX8_needed_133 : decode prog_10_method_48_code 133 = .ok (.iload 4, 2) := by decide +kernel
theorem dX8_needed_135 : decode prog_10_method_48_code 135 = .ok (.ifCond .eq 7, 3) := by decide +kernel
theorem dX8_needed_138 : decode prog_10_method_48_code 138 = .ok (.iconst 0, 1) := by decide +kernel
theorem dX8_needed_139 : decode prog_10_method_48_code 139 = .ok (.goto 6, 3) := by decide +kernel
theorem dX8_needed_142 : decode prog_10_method_48_code 142 = .ok (.iconst 1, 1) := by decide +kernel
theorem dX8_needed_143 : decode prog_10_method_48_code 143 = .ok (.iload_n 3, 1) := by decide +kernel
theorem dX8_needed_144 : decode prog_10_method_48_code 144 = .ok (.ishl, 1) := by decide +kernel
theorem dX8_needed_145 : decode prog_10_method_48_code 145 = .ok (.ior, 1) := by decide +kernel
theorem dX8_needed_146 : decode prog_10_method_48_code 146 = .ok (.istore_n 1, 1) := by decide +kernel
theorem dX8_needed_147 : decode prog_10_method_48_code 147 = .ok (.iinc 2 1, 3) := by decide +kernel
theorem dX8_needed_150 : decode prog_10_method_48_code 150 = .ok (.goto (-125), 3) := by decide +kernel
theorem dX8_needed_153 : decode prog_10_method_48_code 153 = .ok (.iload_n 1, 1) := by decide +kernel
theorem dX8_needed_154 : decode prog_10_method_48_code 154 = .ok (.ireturn, 1) := by decide +kernel
theorem okM_X8_needed : okM mX8_needed 0 := ⟨tw957, tw15, by decide, by decide, by decide +kernel⟩
abbrev KTX8_needed : Type := (XW → Nat → Int32 → Int32 → Option (Int32 × XW)) × (XW → Nat → Int32 → Int32 → Int32 → Int32 → Int32 → Option (Int32 × XW))
def bX8_needed_145 (k : KTX8_needed) (w : XW) (l0 : Nat) (l2 : Int32) (s0 : Int32) (s1 : Int32) : Option (Int32 × XW) :=
  k.1 w l0 (s0 ||| s1) (l2 + (1 : Int32))
theorem BX8_needed_145 {K : CX} {l : Launch} {n0 k0 : Nat} {k : KTX8_needed} (hk0 : ∀ (w : XW) (l0 : Nat) (l1 : Int32) (l2 : Int32) (q : Int32 × XW), k.1 w l0 l1 l2 = some q → WP K l mX8_needed 7 162 n0 k0 (some (.int q.1)) q.2 25 [some (.ref l0), some (.int l1), some (.int l2), none, none, none] [] w) (hk1 : ∀ (w : XW) (l0 : Nat) (l1 : Int32) (l2 : Int32) (l3 : Int32) (l4 : Int32) (l5 : Int32) (q : Int32 × XW), k.2 w l0 l1 l2 l3 l4 l5 = some q → WP K l mX8_needed 7 162 n0 k0 (some (.int q.1)) q.2 82 [some (.ref l0), some (.int l1), some (.int l2), some (.int l3), some (.int l4), some (.int l5)] [] w) {w : XW} {l0 : Nat} {l2 : Int32} {s0 : Int32} {s1 : Int32} {q : Int32 × XW} (h0 : bX8_needed_145 k w l0 l2 s0 s1 = some q) : WP K l mX8_needed 7 162 n0 k0 (some (.int q.1)) q.2 145 [some (.ref l0), none, some (.int l2), none, none, none] [.int s1, .int s0] w := by
  unfold bX8_needed_145 at h0
  refine wp_ior dX8_needed_145 ?_
  refine wp_istore_n (L1 := [some (.ref l0), some (.int (s0 ||| s1)), some (.int l2), none, none, none]) dX8_needed_146 (Nat.le_of_ble_eq_true rfl) rfl ?_
  refine wp_iinc (v := (l2 + (1 : Int32))) (L1 := [some (.ref l0), some (.int (s0 ||| s1)), some (.int (l2 + (1 : Int32))), none, none, none]) dX8_needed_147 (Nat.le_of_ble_eq_true rfl) rfl (congrArg (fun z => l2 + z) (by decide)) rfl ?_
  refine wp_goto (tgt := 25) dX8_needed_150 (by decide) ?_
  exact WP.wk (hk0 _ _ _ _ _ h0) (And.intro rfl (And.intro rfl (And.intro rfl trivial)))
def bX8_needed_124 (k : KTX8_needed) (w : XW) (l0 : Nat) (l1 : Int32) (l2 : Int32) (l3 : Int32) (l5 : Int32) (s0 : Int32) : Option (Int32 × XW) :=
  k.2 w l0 l1 l2 l3 s0 (l5 + (1 : Int32))
theorem BX8_needed_124 {K : CX} {l : Launch} {n0 k0 : Nat} {k : KTX8_needed} (hk0 : ∀ (w : XW) (l0 : Nat) (l1 : Int32) (l2 : Int32) (q : Int32 × XW), k.1 w l0 l1 l2 = some q → WP K l mX8_needed 7 162 n0 k0 (some (.int q.1)) q.2 25 [some (.ref l0), some (.int l1), some (.int l2), none, none, none] [] w) (hk1 : ∀ (w : XW) (l0 : Nat) (l1 : Int32) (l2 : Int32) (l3 : Int32) (l4 : Int32) (l5 : Int32) (q : Int32 × XW), k.2 w l0 l1 l2 l3 l4 l5 = some q → WP K l mX8_needed 7 162 n0 k0 (some (.int q.1)) q.2 82 [some (.ref l0), some (.int l1), some (.int l2), some (.int l3), some (.int l4), some (.int l5)] [] w) {w : XW} {l0 : Nat} {l1 : Int32} {l2 : Int32} {l3 : Int32} {l5 : Int32} {s0 : Int32} {q : Int32 × XW} (h0 : bX8_needed_124 k w l0 l1 l2 l3 l5 s0 = some q) : WP K l mX8_needed 7 162 n0 k0 (some (.int q.1)) q.2 124 [some (.ref l0), some (.int l1), some (.int l2), some (.int l3), none, some (.int l5)] [.int s0] w := by
  unfold bX8_needed_124 at h0
  refine wp_istore (L1 := [some (.ref l0), some (.int l1), some (.int l2), some (.int l3), some (.int s0), some (.int l5)]) dX8_needed_124 (Nat.le_of_ble_eq_true rfl) rfl ?_
  refine wp_iinc (v := (l5 + (1 : Int32))) (L1 := [some (.ref l0), some (.int l1), some (.int l2), some (.int l3), some (.int s0), some (.int (l5 + (1 : Int32)))]) dX8_needed_126 (Nat.le_of_ble_eq_true rfl) rfl (congrArg (fun z => l5 + z) (by decide)) rfl ?_
  refine wp_goto (tgt := 82) dX8_needed_129 (by decide) ?_
  exact WP.wk (hk1 _ _ _ _ _ _ _ _ h0) (And.intro rfl (And.intro rfl (And.intro rfl (And.intro rfl (And.intro rfl (And.intro rfl trivial))))))
def bX8_needed_123 (k : KTX8_needed) (w : XW) (l0 : Nat) (l1 : Int32) (l2 : Int32) (l3 : Int32) (l5 : Int32) : Option (Int32 × XW) :=
  bX8_needed_124 k w l0 l1 l2 l3 l5 (0 : Int32)
theorem BX8_needed_123 {K : CX} {l : Launch} {n0 k0 : Nat} {k : KTX8_needed} (hk0 : ∀ (w : XW) (l0 : Nat) (l1 : Int32) (l2 : Int32) (q : Int32 × XW), k.1 w l0 l1 l2 = some q → WP K l mX8_needed 7 162 n0 k0 (some (.int q.1)) q.2 25 [some (.ref l0), some (.int l1), some (.int l2), none, none, none] [] w) (hk1 : ∀ (w : XW) (l0 : Nat) (l1 : Int32) (l2 : Int32) (l3 : Int32) (l4 : Int32) (l5 : Int32) (q : Int32 × XW), k.2 w l0 l1 l2 l3 l4 l5 = some q → WP K l mX8_needed 7 162 n0 k0 (some (.int q.1)) q.2 82 [some (.ref l0), some (.int l1), some (.int l2), some (.int l3), some (.int l4), some (.int l5)] [] w) {w : XW} {l0 : Nat} {l1 : Int32} {l2 : Int32} {l3 : Int32} {l5 : Int32} {q : Int32 × XW} (h0 : bX8_needed_123 k w l0 l1 l2 l3 l5 = some q) : WP K l mX8_needed 7 162 n0 k0 (some (.int q.1)) q.2 123 [some (.ref l0), some (.int l1), some (.int l2), some (.int l3), none, some (.int l5)] [] w := by
  unfold bX8_needed_123 at h0
  refine wp_iconst (v := (0 : Int32)) dX8_needed_123 (by decide) ?_
  exact WP.wk (BX8_needed_124 hk0 hk1 h0) (And.intro rfl (And.intro rfl (And.intro rfl (And.intro rfl (And.intro rfl trivial)))))
def bX8_needed_77 (k : KTX8_needed) (w : XW) (l0 : Nat) (l1 : Int32) (l2 : Int32) (l3 : Int32) (s0 : Int32) : Option (Int32 × XW) :=
  k.2 w l0 l1 l2 l3 s0 (0 : Int32)
theorem BX8_needed_77 {K : CX} {l : Launch} {n0 k0 : Nat} {k : KTX8_needed} (hk0 : ∀ (w : XW) (l0 : Nat) (l1 : Int32) (l2 : Int32) (q : Int32 × XW), k.1 w l0 l1 l2 = some q → WP K l mX8_needed 7 162 n0 k0 (some (.int q.1)) q.2 25 [some (.ref l0), some (.int l1), some (.int l2), none, none, none] [] w) (hk1 : ∀ (w : XW) (l0 : Nat) (l1 : Int32) (l2 : Int32) (l3 : Int32) (l4 : Int32) (l5 : Int32) (q : Int32 × XW), k.2 w l0 l1 l2 l3 l4 l5 = some q → WP K l mX8_needed 7 162 n0 k0 (some (.int q.1)) q.2 82 [some (.ref l0), some (.int l1), some (.int l2), some (.int l3), some (.int l4), some (.int l5)] [] w) {w : XW} {l0 : Nat} {l1 : Int32} {l2 : Int32} {l3 : Int32} {s0 : Int32} {q : Int32 × XW} (h0 : bX8_needed_77 k w l0 l1 l2 l3 s0 = some q) : WP K l mX8_needed 7 162 n0 k0 (some (.int q.1)) q.2 77 [some (.ref l0), some (.int l1), some (.int l2), some (.int l3), none, none] [.int s0] w := by
  unfold bX8_needed_77 at h0
  refine wp_istore (L1 := [some (.ref l0), some (.int l1), some (.int l2), some (.int l3), some (.int s0), none]) dX8_needed_77 (Nat.le_of_ble_eq_true rfl) rfl ?_
  refine wp_iconst (v := (0 : Int32)) dX8_needed_79 (by decide) ?_
  refine wp_istore (L1 := [some (.ref l0), some (.int l1), some (.int l2), some (.int l3), some (.int s0), some (.int (0 : Int32))]) dX8_needed_80 (Nat.le_of_ble_eq_true rfl) rfl ?_
  exact WP.wk (hk1 _ _ _ _ _ _ _ _ h0) (And.intro rfl (And.intro rfl (And.intro rfl (And.intro rfl (And.intro rfl (And.intro rfl trivial))))))
def hX8_needed_82 (k : KTX8_needed) (w : XW) (l0 : Nat) (l1 : Int32) (l2 : Int32) (l3 : Int32) (l4 : Int32) (l5 : Int32) : Option (Int32 × XW) :=
  if (6 : Int32) ≤ l5 then
  if l4 = 0 then
  bX8_needed_145 k w l0 l2 l1 ((1 : Int32) <<< (l3 &&& 31))
  else
  bX8_needed_145 k w l0 l2 l1 (0 : Int32)
  else
  if l4 = 0 then
  bX8_needed_123 k w l0 l1 l2 l3 l5
  else
  (gR w l0 8 7).bind fun x4 =>
  (aI w 0 x4 ((216 : Int32) + l5)).bind fun x7 =>
  (gR w l0 8 7).bind fun x10 =>
  (aI w 0 x10 ((198 : Int32) + l5)).bind fun x13 =>
  if x7 = x13 then
  bX8_needed_124 k w l0 l1 l2 l3 l5 (1 : Int32)
  else
  bX8_needed_123 k w l0 l1 l2 l3 l5
theorem HX8_needed_82 {K : CX} {l : Launch} {n0 k0 : Nat} {k : KTX8_needed} (hk0 : ∀ (w : XW) (l0 : Nat) (l1 : Int32) (l2 : Int32) (q : Int32 × XW), k.1 w l0 l1 l2 = some q → WP K l mX8_needed 7 162 n0 k0 (some (.int q.1)) q.2 25 [some (.ref l0), some (.int l1), some (.int l2), none, none, none] [] w) (hk1 : ∀ (w : XW) (l0 : Nat) (l1 : Int32) (l2 : Int32) (l3 : Int32) (l4 : Int32) (l5 : Int32) (q : Int32 × XW), k.2 w l0 l1 l2 l3 l4 l5 = some q → WP K l mX8_needed 7 162 n0 k0 (some (.int q.1)) q.2 82 [some (.ref l0), some (.int l1), some (.int l2), some (.int l3), some (.int l4), some (.int l5)] [] w) {w : XW} {l0 : Nat} {l1 : Int32} {l2 : Int32} {l3 : Int32} {l4 : Int32} {l5 : Int32} {q : Int32 × XW} (h0 : hX8_needed_82 k w l0 l1 l2 l3 l4 l5 = some q) : WP K l mX8_needed 7 162 n0 k0 (some (.int q.1)) q.2 82 [some (.ref l0), some (.int l1), some (.int l2), some (.int l3), some (.int l4), some (.int l5)] [] w := by
  unfold hX8_needed_82 at h0
  refine wp_iload dX8_needed_82 rfl ?_
  refine wp_bipush (v := (6 : Int32)) dX8_needed_84 (by decide) ?_
  refine wp_icmp_ge (tgt := 132) dX8_needed_86 (by decide) (fun c1 => ?_) (fun c1 => ?_)
  · rw [if_pos c1] at h0
    refine wp_iload_n dX8_needed_132 rfl ?_
    refine wp_iload dX8_needed_133 rfl ?_
    refine wp_if_eq (tgt := 142) dX8_needed_135 (by decide) (fun c2 => ?_) (fun c2 => ?_)
    · rw [if_pos c2] at h0
      refine wp_iconst (v := (1 : Int32)) dX8_needed_142 (by decide) ?_
      refine wp_iload_n dX8_needed_143 rfl ?_
      refine wp_ishl dX8_needed_144 ?_
      exact WP.wk (BX8_needed_145 hk0 hk1 h0) (And.intro rfl (And.intro rfl trivial))
    · rw [if_neg c2] at h0
      refine wp_iconst (v := (0 : Int32)) dX8_needed_138 (by decide) ?_
      refine wp_goto (tgt := 145) dX8_needed_139 (by decide) ?_
      exact WP.wk (BX8_needed_145 hk0 hk1 h0) (And.intro rfl (And.intro rfl trivial))
  · rw [if_neg c1] at h0
    refine wp_iload dX8_needed_89 rfl ?_
    refine wp_if_eq (tgt := 123) dX8_needed_91 (by decide) (fun c3 => ?_) (fun c3 => ?_)
    · rw [if_pos c3] at h0
      exact WP.wk (BX8_needed_123 hk0 hk1 h0) (And.intro rfl (And.intro rfl (And.intro rfl (And.intro rfl (And.intro rfl trivial)))))
    · rw [if_neg c3] at h0
      refine wp_aload_n dX8_needed_94 rfl ?_
      obtain ⟨x4, e6, h5⟩ := Option.bind_eq_some_iff.mp h0
      clear h0
      refine wp_getR okX8 (k := 7) (by decide) tw712 dX8_needed_95 e6 ?_
      refine wp_sipush (v := (216 : Int32)) dX8_needed_98 (by decide) ?_
      refine wp_iload dX8_needed_101 rfl ?_
      refine wp_iadd dX8_needed_103 ?_
      obtain ⟨x7, e9, h8⟩ := Option.bind_eq_some_iff.mp h5
      clear h5
      refine wp_iald dX8_needed_104 e9 ?_
      refine wp_aload_n dX8_needed_105 rfl ?_
      obtain ⟨x10, e12, h11⟩ := Option.bind_eq_some_iff.mp h8
      clear h8
      refine wp_getR okX8 (k := 7) (by decide) tw712 dX8_needed_106 e12 ?_
      refine wp_sipush (v := (198 : Int32)) dX8_needed_109 (by decide) ?_
      refine wp_iload dX8_needed_112 rfl ?_
      refine wp_iadd dX8_needed_114 ?_
      obtain ⟨x13, e15, h14⟩ := Option.bind_eq_some_iff.mp h11
      clear h11
      refine wp_iald dX8_needed_115 e15 ?_
      refine wp_icmp_ne (tgt := 123) dX8_needed_116 (by decide) (fun c16 => ?_) (fun c16 => ?_)
      · rw [if_neg c16] at h14
        exact WP.wk (BX8_needed_123 hk0 hk1 h14) (And.intro rfl (And.intro rfl (And.intro rfl (And.intro rfl (And.intro rfl trivial)))))
      · rw [if_pos c16] at h14
        refine wp_iconst (v := (1 : Int32)) dX8_needed_119 (by decide) ?_
        refine wp_goto (tgt := 124) dX8_needed_120 (by decide) ?_
        exact WP.wk (BX8_needed_124 hk0 hk1 h14) (And.intro rfl (And.intro rfl (And.intro rfl (And.intro rfl (And.intro rfl trivial)))))
def hX8_needed_25 (k : KTX8_needed) (w : XW) (l0 : Nat) (l1 : Int32) (l2 : Int32) : Option (Int32 × XW) :=
  (gR w l0 8 7).bind fun x1 =>
  (aI w 0 x1 (14 : Int32)).bind fun x4 =>
  if x4 ≤ l2 then
  some (l1, w)
  else
  (gR w l0 8 7).bind fun x8 =>
  (aI w 0 x8 ((6 : Int32) + l2)).bind fun x11 =>
  (fX8_copies w l0 (0 : Int32) (216 : Int32)).bind fun q14 =>
  (fX8_drops q14 l0 (216 : Int32) x11).bind fun q17 =>
  (fX8_restsBy q17 l0 (216 : Int32)).bind fun q20 =>
  if q20.1 < 0 then
  bX8_needed_77 k q20.2 l0 l1 l2 x11 (0 : Int32)
  else
  bX8_needed_77 k q20.2 l0 l1 l2 x11 (1 : Int32)
theorem HX8_needed_25 {K : CX} {l : Launch} {n0 k0 : Nat} {k : KTX8_needed} (hk0 : ∀ (w : XW) (l0 : Nat) (l1 : Int32) (l2 : Int32) (q : Int32 × XW), k.1 w l0 l1 l2 = some q → WP K l mX8_needed 7 162 n0 k0 (some (.int q.1)) q.2 25 [some (.ref l0), some (.int l1), some (.int l2), none, none, none] [] w) (hk1 : ∀ (w : XW) (l0 : Nat) (l1 : Int32) (l2 : Int32) (l3 : Int32) (l4 : Int32) (l5 : Int32) (q : Int32 × XW), k.2 w l0 l1 l2 l3 l4 l5 = some q → WP K l mX8_needed 7 162 n0 k0 (some (.int q.1)) q.2 82 [some (.ref l0), some (.int l1), some (.int l2), some (.int l3), some (.int l4), some (.int l5)] [] w) {w : XW} {l0 : Nat} {l1 : Int32} {l2 : Int32} {q : Int32 × XW} (h0 : hX8_needed_25 k w l0 l1 l2 = some q) : WP K l mX8_needed 7 162 n0 k0 (some (.int q.1)) q.2 25 [some (.ref l0), some (.int l1), some (.int l2), none, none, none] [] w := by
  unfold hX8_needed_25 at h0
  refine wp_iload_n dX8_needed_25 rfl ?_
  refine wp_aload_n dX8_needed_26 rfl ?_
  obtain ⟨x1, e3, h2⟩ := Option.bind_eq_some_iff.mp h0
  clear h0
  refine wp_getR okX8 (k := 7) (by decide) tw712 dX8_needed_27 e3 ?_
  refine wp_bipush (v := (14 : Int32)) dX8_needed_30 (by decide) ?_
  obtain ⟨x4, e6, h5⟩ := Option.bind_eq_some_iff.mp h2
  clear h2
  refine wp_iald dX8_needed_32 e6 ?_
  refine wp_icmp_ge (tgt := 153) dX8_needed_33 (by decide) (fun c7 => ?_) (fun c7 => ?_)
  · rw [if_pos c7] at h5
    refine wp_iload_n dX8_needed_153 rfl ?_
    cases h5
    exact wp_iret rfl dX8_needed_154
  · rw [if_neg c7] at h5
    refine wp_aload_n dX8_needed_36 rfl ?_
    obtain ⟨x8, e10, h9⟩ := Option.bind_eq_some_iff.mp h5
    clear h5
    refine wp_getR okX8 (k := 7) (by decide) tw712 dX8_needed_37 e10 ?_
    refine wp_bipush (v := (6 : Int32)) dX8_needed_40 (by decide) ?_
    refine wp_iload_n dX8_needed_42 rfl ?_
    refine wp_iadd dX8_needed_43 ?_
    obtain ⟨x11, e13, h12⟩ := Option.bind_eq_some_iff.mp h9
    clear h9
    refine wp_iald dX8_needed_44 e13 ?_
    refine wp_istore_n (L1 := [some (.ref l0), some (.int l1), some (.int l2), some (.int x11), none, none]) dX8_needed_45 (Nat.le_of_ble_eq_true rfl) rfl ?_
    refine wp_aload_n dX8_needed_46 rfl ?_
    refine wp_iconst (v := (0 : Int32)) dX8_needed_47 (by decide) ?_
    refine wp_sipush (v := (216 : Int32)) dX8_needed_48 (by decide) ?_
    obtain ⟨q14, e16, h15⟩ := Option.bind_eq_some_iff.mp h12
    clear h12
    refine wp_Vv (As := [.int (0 : Int32), .int (216 : Int32)]) (S := []) okM_X8_copies tw877 twP_X8_copies tw875 (OX8_copies e16) rfl rfl rfl ⟨(Nat.le_of_ble_eq_true rfl), (Nat.le_of_ble_eq_true rfl)⟩ (Nat.le_of_ble_eq_true rfl) rfl dX8_needed_51 (MX8_copies e16) ?_
    refine wp_aload_n dX8_needed_54 rfl ?_
    refine wp_sipush (v := (216 : Int32)) dX8_needed_55 (by decide) ?_
    refine wp_iload_n dX8_needed_58 rfl ?_
    obtain ⟨q17, e19, h18⟩ := Option.bind_eq_some_iff.mp h15
    clear h15
    refine wp_Vv (As := [.int (216 : Int32), .int x11]) (S := []) okM_X8_drops tw907 twP_X8_drops tw905 (OX8_drops e19) rfl rfl rfl ⟨(Nat.le_of_ble_eq_true rfl), (Nat.le_of_ble_eq_true rfl)⟩ (Nat.le_of_ble_eq_true rfl) rfl dX8_needed_59 (MX8_drops e19) ?_
    refine wp_aload_n dX8_needed_62 rfl ?_
    refine wp_sipush (v := (216 : Int32)) dX8_needed_63 (by decide) ?_
    obtain ⟨q20, e22, h21⟩ := Option.bind_eq_some_iff.mp h18
    clear h18
    refine wp_Vi (As := [.int (216 : Int32)]) (S := []) okM_X8_restsBy tw932 twP_X8_restsBy tw930 (OX8_restsBy e22) rfl rfl rfl ⟨(Nat.le_of_ble_eq_true rfl), (Nat.le_of_ble_eq_true rfl)⟩ (Nat.le_of_ble_eq_true rfl) rfl dX8_needed_66 (MX8_restsBy e22) ?_
    refine wp_if_lt (tgt := 76) dX8_needed_69 (by decide) (fun c23 => ?_) (fun c23 => ?_)
    · rw [if_pos c23] at h21
      refine wp_iconst (v := (0 : Int32)) dX8_needed_76 (by decide) ?_
      exact WP.wk (BX8_needed_77 hk0 hk1 h21) (And.intro rfl (And.intro rfl (And.intro rfl (And.intro rfl trivial))))
    · rw [if_neg c23] at h21
      refine wp_iconst (v := (1 : Int32)) dX8_needed_72 (by decide) ?_
      refine wp_goto (tgt := 77) dX8_needed_73 (by decide) ?_
      exact WP.wk (BX8_needed_77 hk0 hk1 h21) (And.intro rfl (And.intro rfl (And.intro rfl (And.intro rfl trivial))))
def eX8_needed (k : KTX8_needed) (w : XW) (l0 : Nat) : Option (Int32 × XW) :=
  (fX8_copies w l0 (0 : Int32) (198 : Int32)).bind fun q1 =>
  (fX8_restsBy q1 l0 (198 : Int32)).bind fun q4 =>
  if 0 ≤ q4.1 then
  k.1 q4.2 l0 (0 : Int32) (0 : Int32)
  else
  some ((-4 : Int32), q4.2)
theorem EX8_needed {K : CX} {l : Launch} {n0 k0 : Nat} {k : KTX8_needed} (hk0 : ∀ (w : XW) (l0 : Nat) (l1 : Int32) (l2 : Int32) (q : Int32 × XW), k.1 w l0 l1 l2 = some q → WP K l mX8_needed 7 162 n0 k0 (some (.int q.1)) q.2 25 [some (.ref l0), some (.int l1), some (.int l2), none, none, none] [] w) (hk1 : ∀ (w : XW) (l0 : Nat) (l1 : Int32) (l2 : Int32) (l3 : Int32) (l4 : Int32) (l5 : Int32) (q : Int32 × XW), k.2 w l0 l1 l2 l3 l4 l5 = some q → WP K l mX8_needed 7 162 n0 k0 (some (.int q.1)) q.2 82 [some (.ref l0), some (.int l1), some (.int l2), some (.int l3), some (.int l4), some (.int l5)] [] w) {w : XW} {l0 : Nat} {q : Int32 × XW} (h0 : eX8_needed k w l0 = some q) : WP K l mX8_needed 7 162 n0 k0 (some (.int q.1)) q.2 0 [some (.ref l0), none, none, none, none, none] [] w := by
  unfold eX8_needed at h0
  refine wp_aload_n dX8_needed_0 rfl ?_
  refine wp_iconst (v := (0 : Int32)) dX8_needed_1 (by decide) ?_
  refine wp_sipush (v := (198 : Int32)) dX8_needed_2 (by decide) ?_
  obtain ⟨q1, e3, h2⟩ := Option.bind_eq_some_iff.mp h0
  clear h0
  refine wp_Vv (As := [.int (0 : Int32), .int (198 : Int32)]) (S := []) okM_X8_copies tw877 twP_X8_copies tw875 (OX8_copies e3) rfl rfl rfl ⟨(Nat.le_of_ble_eq_true rfl), (Nat.le_of_ble_eq_true rfl)⟩ (Nat.le_of_ble_eq_true rfl) rfl dX8_needed_5 (MX8_copies e3) ?_
  refine wp_aload_n dX8_needed_8 rfl ?_
  refine wp_sipush (v := (198 : Int32)) dX8_needed_9 (by decide) ?_
  obtain ⟨q4, e6, h5⟩ := Option.bind_eq_some_iff.mp h2
  clear h2
  refine wp_Vi (As := [.int (198 : Int32)]) (S := []) okM_X8_restsBy tw932 twP_X8_restsBy tw930 (OX8_restsBy e6) rfl rfl rfl ⟨(Nat.le_of_ble_eq_true rfl), (Nat.le_of_ble_eq_true rfl)⟩ (Nat.le_of_ble_eq_true rfl) rfl dX8_needed_12 (MX8_restsBy e6) ?_
  refine wp_if_ge (tgt := 21) dX8_needed_15 (by decide) (fun c7 => ?_) (fun c7 => ?_)
  · rw [if_pos c7] at h5
    refine wp_iconst (v := (0 : Int32)) dX8_needed_21 (by decide) ?_
    refine wp_istore_n (L1 := [some (.ref l0), some (.int (0 : Int32)), none, none, none, none]) dX8_needed_22 (Nat.le_of_ble_eq_true rfl) rfl ?_
    refine wp_iconst (v := (0 : Int32)) dX8_needed_23 (by decide) ?_
    refine wp_istore_n (L1 := [some (.ref l0), some (.int (0 : Int32)), some (.int (0 : Int32)), none, none, none]) dX8_needed_24 (Nat.le_of_ble_eq_true rfl) rfl ?_
    exact WP.wk (hk0 _ _ _ _ _ h5) (And.intro rfl (And.intro rfl (And.intro rfl trivial)))
  · rw [if_neg c7] at h5
    refine wp_bipush (v := (-4 : Int32)) dX8_needed_18 (by decide) ?_
    cases h5
    exact wp_iret rfl dX8_needed_20
def loX8_needed : Nat → KTX8_needed
  | 0 => (fun _ _ _ _ => none, fun _ _ _ _ _ _ _ => none)
  | n + 1 => (hX8_needed_25 (loX8_needed n), hX8_needed_82 (loX8_needed n))
theorem LOX8_needed {K : CX} {l : Launch} {n0 k0 : Nat} : ∀ n : Nat, (∀ (w : XW) (l0 : Nat) (l1 : Int32) (l2 : Int32) (q : Int32 × XW), (loX8_needed n).1 w l0 l1 l2 = some q → WP K l mX8_needed 7 162 n0 k0 (some (.int q.1)) q.2 25 [some (.ref l0), some (.int l1), some (.int l2), none, none, none] [] w) ∧ (∀ (w : XW) (l0 : Nat) (l1 : Int32) (l2 : Int32) (l3 : Int32) (l4 : Int32) (l5 : Int32) (q : Int32 × XW), (loX8_needed n).2 w l0 l1 l2 l3 l4 l5 = some q → WP K l mX8_needed 7 162 n0 k0 (some (.int q.1)) q.2 82 [some (.ref l0), some (.int l1), some (.int l2), some (.int l3), some (.int l4), some (.int l5)] [] w) := by
  intro n
  induction n with
  | zero => exact ⟨fun _ _ _ _ q h => (by cases h), fun _ _ _ _ _ _ _ q h => (by cases h)⟩
  | succ n ih => exact ⟨fun _ _ _ _ q h => HX8_needed_25 ih.1 ih.2 h, fun _ _ _ _ _ _ _ q h => HX8_needed_82 ih.1 ih.2 h⟩
def fX8_needed (w : XW) (l0 : Nat) : Option (Int32 × XW) := if isO w l0 8 = true then eX8_needed (loX8_needed FU) w l0 else none
theorem OX8_needed {w : XW} {l0 : Nat} {q : Int32 × XW} (h : fX8_needed w l0 = some q) : isO w l0 8 = true := Decidable.byContradiction fun z => by unfold fX8_needed at h; rw [if_neg z] at h; cases h
theorem MX8_needed {K : CX} {l : Launch} {w : XW} {l0 : Nat} {q : Int32 × XW} (h : fX8_needed w l0 = some q) : MT K l mX8_needed 7 162 [.ref l0] w (some (.int q.1)) q.2 := by
  have z := OX8_needed h
  unfold fX8_needed at h
  rw [if_pos z] at h
  exact MT.of (by decide) (Nat.le_of_ble_eq_true rfl) rfl (EX8_needed (LOX8_needed FU).1 (LOX8_needed FU).2 h)
