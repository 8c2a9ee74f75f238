/-! FractionRunModel.rests()I: frames 7, words 162 -/
abbrev mX8_rests : MR := (⟨"FractionRunModel", "rests", "()I"⟩, prog_10_method_43_code, 1, (some .int))
theorem dX8_rests_0 : decode prog_10_method_43_code 0 = .ok (.aload_n 0, 1) := by decide +kernel
theorem dX8_rests_1 : decode prog_10_method_43_code 1 = .ok (.iconst 0, 1) := by decide +kernel
theorem dX8_rests_2 : decode prog_10_method_43_code 2 = .ok (.sipush 198, 3) := by decide +kernel
theorem dX8_rests_5 : decode prog_10_method_43_code 5 = .ok (.invokevirtual 155, 3) := by decide +kernel
theorem dX8_rests_8 : decode prog_10_method_43_code 8 = .ok (.aload_n 0, 1) := by decide +kernel
theorem dX8_rests_9 : decode prog_10_method_43_code 9 = .ok (.sipush 198, 3) := by decide +kernel
theorem dX8_rests_12 : decode prog_10_method_43_code 12 = .ok (.invokevirtual 193, 3) := by decide +kernel
theorem dX8_rests_15 : decode prog_10_method_43_code 15 = .ok (.ireturn, 1) := by decide +kernel
theorem okM_X8_rests : okM mX8_rests 0 := ⟨tw929, tw15, by decide, by decide, by decide +kernel⟩
def eX8_rests (w : XW) (l0 : Nat) : Option (Int32 × XW) :=
  (fX8_copies w l0 (0 : Int32) (198 : Int32)).bind fun q1 =>
  (fX8_restsBy q1 l0 (198 : Int32)).bind fun q4 =>
  some (q4.1, q4.2)
theorem EX8_rests {K : CX} {l : Launch} {n0 k0 : Nat} {w : XW} {l0 : Nat} {q : Int32 × XW} (h0 : eX8_rests w l0 = some q) : WP K l mX8_rests 7 162 n0 k0 (some (.int q.1)) q.2 0 [some (.ref l0)] [] w := by
  unfold eX8_rests at h0
  refine wp_aload_n dX8_rests_0 rfl ?_
  refine wp_iconst (v := (0 : Int32)) dX8_rests_1 (by decide) ?_
  refine wp_sipush (v := (198 : Int32)) dX8_rests_2 (by decide) ?_
  obtain ⟨q1, e3, h2⟩ := Option.bind_eq_some_iff.mp h0
  clear h0
  refine wp_Vv (As := [.int (0 : Int32), .int (198 : Int32)]) (S := []) okM_X8_copies tw877 twP_X8_copies tw875 (OX8_copies e3) rfl rfl rfl ⟨(Nat.le_of_ble_eq_true rfl), (Nat.le_of_ble_eq_true rfl)⟩ (Nat.le_of_ble_eq_true rfl) rfl dX8_rests_5 (MX8_copies e3) ?_
  refine wp_aload_n dX8_rests_8 rfl ?_
  refine wp_sipush (v := (198 : Int32)) dX8_rests_9 (by decide) ?_
  obtain ⟨q4, e6, h5⟩ := Option.bind_eq_some_iff.mp h2
  clear h2
  refine wp_Vi (As := [.int (198 : Int32)]) (S := []) okM_X8_restsBy tw932 twP_X8_restsBy tw930 (OX8_restsBy e6) rfl rfl rfl ⟨(Nat.le_of_ble_eq_true rfl), (Nat.le_of_ble_eq_true rfl)⟩ (Nat.le_of_ble_eq_true rfl) rfl dX8_rests_12 (MX8_restsBy e6) ?_
  cases h5
  exact wp_iret rfl dX8_rests_15
def fX8_rests (w : XW) (l0 : Nat) : Option (Int32 × XW) := if isO w l0 8 = true then eX8_rests w l0 else none
theorem OX8_rests {w : XW} {l0 : Nat} {q : Int32 × XW} (h : fX8_rests w l0 = some q) : isO w l0 8 = true := Decidable.byContradiction fun z => by unfold fX8_rests at h; rw [if_neg z] at h; cases h
theorem MX8_rests {K : CX} {l : Launch} {w : XW} {l0 : Nat} {q : Int32 × XW} (h : fX8_rests w l0 = some q) : MT K l mX8_rests 7 162 [.ref l0] w (some (.int q.1)) q.2 := by
  have z := OX8_rests h
  unfold fX8_rests at h
  rw [if_pos z] at h
  exact MT.of (by decide) (Nat.le_of_ble_eq_true rfl) rfl (EX8_rests h)
/-! FractionRun$Course.note(ILFractionRun$State;)V: frames 1, words 20 -/
abbrev mX0_note : MR := (⟨"FractionRun$Course", "note", "(ILFractionRun$State;)V"⟩, prog_2_method_3_code, 6, none)
theorem dX0_note_0 : decode prog_2_method_3_code 0 = .ok (.aload_n 2, 1) := by decide +kernel
theorem dX0_note_1 : decode prog_2_method_3_code 1 = .ok (.getfield 33, 3) := by decide +kernel
theorem dX0_note_4 : decode prog_2_method_3_code 4 = .ok (.iconst 2, 1) := by decide +kernel
theorem dX0_note_5 : decode prog_2_method_3_code 5 = .ok (.irem, 1) := by decide +kernel
theorem dX0_note_6 : decode prog_2_method_3_code 6 = .ok (.i2l, 1) := by decide +kernel
theorem dX0_note_7 : decode prog_2_method_3_code 7 = .ok (.lstore_n 3, 1) := by decide +kernel
theorem dX0_note_8 : decode prog_2_method_3_code 8 = .ok (.iconst 0, 1) := by decide +kernel
theorem dX0_note_9 : decode prog_2_method_3_code 9 = .ok (.istore 5, 2) := by decide +kernel
theorem dX0_note_11 : decode prog_2_method_3_code 11 = .ok (.iload 5, 2) := by decide +kernel
theorem dX0_note_13 : decode prog_2_method_3_code 13 = .ok (.bipush 6, 2) := by decide +kernel
theorem dX0_note_15 : decode prog_2_method_3_code 15 = .ok (.if_icmp .ge 23, 3) := by decide +kernel
theorem dX0_note_18 : decode prog_2_method_3_code 18 = .ok (.lload_n 3, 1) := by decide +kernel
theorem dX0_note_19 : decode prog_2_method_3_code 19 = .ok (.bipush 10, 2) := by decide +kernel
theorem dX0_note_21 : decode prog_2_method_3_code 21 = .ok (.lshl, 1) := by decide +kernel
theorem dX0_note_22 : decode prog_2_method_3_code 22 = .ok (.aload_n 2, 1) := by decide +kernel
theorem dX0_note_23 : decode prog_2_method_3_code 23 = .ok (.getfield 37, 3) := by decide +kernel
theorem dX0_note_26 : decode prog_2_method_3_code 26 = .ok (.iload 5, 2) := by decide +kernel
theorem dX0_note_28 : decode prog_2_method_3_code 28 = .ok (.iaload, 1) := by decide +kernel
theorem dX0_note_29 : decode prog_2_method_3_code 29 = .ok (.i2l, 1) := by decide +kernel
theorem dX0_note_30 : decode prog_2_method_3_code 30 = .ok (.lor, 1) := by decide +kernel
theorem dX0_note_31 : decode prog_2_method_3_code 31 = .ok (.lstore_n 3, 1) := by decide +kernel
theorem dX0_note_32 : decode prog_2_method_3_code 32 = .ok (.iinc 5 1, 3) := by decide +kernel
theorem dX0_note_35 : decode prog_2_method_3_code 35 = .ok (.goto (-24), 3) := by decide +kernel
theorem dX0_note_38 : decode prog_2_method_3_code 38 = .ok (.aload_n 0, 1) := by decide +kernel
theorem dX0_note_39 : decode prog_2_method_3_code 39 = .ok (.getfield 9, 3) := by decide +kernel
theorem dX0_note_42 : decode prog_2_method_3_code 42 = .ok (.iload_n 1, 1) := by decide +kernel
theorem dX0_note_43 : decode prog_2_method_3_code 43 = .ok (.lload_n 3, 1) := by decide +kernel
theorem dX0_note_44 : decode prog_2_method_3_code 44 = .ok (.lastore, 1) := by decide +kernel
theorem dX0_note_45 : decode prog_2_method_3_code 45 = .ok (.aload_n 0, 1) := by decide +kernel
theorem dX0_note_46 : decode prog_2_method_3_code 46 = .ok (.getfield 15, 3) := by decide +kernel
theorem dX0_note_49 : decode prog_2_method_3_code 49 = .ok (.iload_n 1, 1) := by decide +kernel
theorem dX0_note_50 : decode prog_2_method_3_code 50 = .ok (.aload_n 2, 1) := by decide +kernel
theorem dX0_note_51 : decode prog_2_method_3_code 51 = .ok (.getfield 40, 3) := by decide +kernel
theorem dX0_note_54 : decode prog_2_method_3_code 54 = .ok (.iastore, 1) := by decide +kernel
theorem dX0_note_55 : decode prog_2_method_3_code 55 = .ok (.return_, 1) := by decide +kernel
theorem okM_X0_note : okM mX0_note 2 := ⟨tw501, tw8, by decide, by decide, by decide +kernel⟩
abbrev KTX0_note : Type := (XW → Nat → Int32 → Nat → Int64 → Int32 → Option XW)
def hX0_note_11 (k : KTX0_note) (w : XW) (l0 : Nat) (l1 : Int32) (l2 : Nat) (l3 : Int64) (l5 : Int32) : Option XW :=
  if (6 : Int32) ≤ l5 then
  (gR w l0 0 0).bind fun x2 =>
  (sJ w x2 l1 l3).bind fun w5 =>
  (gR w5 l0 0 1).bind fun x8 =>
  (gI w5 l2 5 3).bind fun x11 =>
  (sI w5 0 x8 l1 x11).bind fun w14 =>
  some w14
  else
  (gR w l2 5 0).bind fun x17 =>
  (aI w 0 x17 l5).bind fun x20 =>
  k w l0 l1 l2 ((l3 <<< ((10 : Int32).toInt64 &&& 63)) ||| (x20.toInt64)) (l5 + (1 : Int32))
theorem HX0_note_11 {K : CX} {l : Launch} {n0 k0 : Nat} {k : KTX0_note} (hk0 : ∀ (w : XW) (l0 : Nat) (l1 : Int32) (l2 : Nat) (l3 : Int64) (l5 : Int32) (q : XW), k w l0 l1 l2 l3 l5 = some q → WP K l mX0_note 1 20 n0 k0 none q 11 [some (.ref l0), some (.int l1), some (.ref l2), some (.long l3), none, some (.int l5)] [] w) {w : XW} {l0 : Nat} {l1 : Int32} {l2 : Nat} {l3 : Int64} {l5 : Int32} {q : XW} (h0 : hX0_note_11 k w l0 l1 l2 l3 l5 = some q) : WP K l mX0_note 1 20 n0 k0 none q 11 [some (.ref l0), some (.int l1), some (.ref l2), some (.long l3), none, some (.int l5)] [] w := by
  unfold hX0_note_11 at h0
  refine wp_iload dX0_note_11 rfl ?_
  refine wp_bipush (v := (6 : Int32)) dX0_note_13 (by decide) ?_
  refine wp_icmp_ge (tgt := 38) dX0_note_15 (by decide) (fun c1 => ?_) (fun c1 => ?_)
  · rw [if_pos c1] at h0
    refine wp_aload_n dX0_note_38 rfl ?_
    obtain ⟨x2, e4, h3⟩ := Option.bind_eq_some_iff.mp h0
    clear h0
    refine wp_getR okX0 (k := 0) (by decide) tw172 dX0_note_39 e4 ?_
    refine wp_iload_n dX0_note_42 rfl ?_
    refine wp_lload_n dX0_note_43 rfl ?_
    obtain ⟨w5, e7, h6⟩ := Option.bind_eq_some_iff.mp h3
    clear h3
    refine wp_last dX0_note_44 e7 ?_
    refine wp_aload_n dX0_note_45 rfl ?_
    obtain ⟨x8, e10, h9⟩ := Option.bind_eq_some_iff.mp h6
    clear h6
    refine wp_getR okX0 (k := 1) (by decide) tw173 dX0_note_46 e10 ?_
    refine wp_iload_n dX0_note_49 rfl ?_
    refine wp_aload_n dX0_note_50 rfl ?_
    obtain ⟨x11, e13, h12⟩ := Option.bind_eq_some_iff.mp h9
    clear h9
    refine wp_getI okX5 (k := 3) (by decide) tw99 dX0_note_51 e13 ?_
    obtain ⟨w14, e16, h15⟩ := Option.bind_eq_some_iff.mp h12
    clear h12
    refine wp_iast dX0_note_54 e16 ?_
    cases h15
    exact wp_vret rfl dX0_note_55
  · rw [if_neg c1] at h0
    refine wp_lload_n dX0_note_18 rfl ?_
    refine wp_bipush (v := (10 : Int32)) dX0_note_19 (by decide) ?_
    refine wp_lshl dX0_note_21 ?_
    refine wp_aload_n dX0_note_22 rfl ?_
    obtain ⟨x17, e19, h18⟩ := Option.bind_eq_some_iff.mp h0
    clear h0
    refine wp_getR okX5 (k := 0) (by decide) tw93 dX0_note_23 e19 ?_
    refine wp_iload dX0_note_26 rfl ?_
    obtain ⟨x20, e22, h21⟩ := Option.bind_eq_some_iff.mp h18
    clear h18
    refine wp_iald dX0_note_28 e22 ?_
    refine wp_i2l dX0_note_29 ?_
    refine wp_lor dX0_note_30 ?_
    refine wp_lstore_n (L1 := [some (.ref l0), some (.int l1), some (.ref l2), some (.long ((l3 <<< ((10 : Int32).toInt64 &&& 63)) ||| (x20.toInt64))), none, some (.int l5)]) dX0_note_31 (Nat.le_of_ble_eq_true rfl) rfl ?_
    refine wp_iinc (v := (l5 + (1 : Int32))) (L1 := [some (.ref l0), some (.int l1), some (.ref l2), some (.long ((l3 <<< ((10 : Int32).toInt64 &&& 63)) ||| (x20.toInt64))), none, some (.int (l5 + (1 : Int32)))]) dX0_note_32 (Nat.le_of_ble_eq_true rfl) rfl (congrArg (fun z => l5 + z) (by decide)) rfl ?_
    refine wp_goto (tgt := 11) dX0_note_35 (by decide) ?_
    exact WP.wk (hk0 _ _ _ _ _ _ _ h21) (And.intro rfl (And.intro rfl (And.intro rfl (And.intro rfl (And.intro rfl trivial)))))
def eX0_note (k : KTX0_note) (w : XW) (l0 : Nat) (l1 : Int32) (l2 : Nat) : Option XW :=
  (gI w l2 5 4).bind fun x1 =>
  k w l0 l1 l2 ((irm x1 (2 : Int32)).toInt64) (0 : Int32)
theorem EX0_note {K : CX} {l : Launch} {n0 k0 : Nat} {k : KTX0_note} (hk0 : ∀ (w : XW) (l0 : Nat) (l1 : Int32) (l2 : Nat) (l3 : Int64) (l5 : Int32) (q : XW), k w l0 l1 l2 l3 l5 = some q → WP K l mX0_note 1 20 n0 k0 none q 11 [some (.ref l0), some (.int l1), some (.ref l2), some (.long l3), none, some (.int l5)] [] w) {w : XW} {l0 : Nat} {l1 : Int32} {l2 : Nat} {q : XW} (h0 : eX0_note k w l0 l1 l2 = some q) : WP K l mX0_note 1 20 n0 k0 none q 0 [some (.ref l0), some (.int l1), some (.ref l2), none, none, none] [] w := by
  unfold eX0_note at h0
  refine wp_aload_n dX0_note_0 rfl ?_
  obtain ⟨x1, e3, h2⟩ := Option.bind_eq_some_iff.mp h0
  clear h0
  refine wp_getI okX5 (k := 4) (by decide) tw102 dX0_note_1 e3 ?_
  refine wp_iconst (v := (2 : Int32)) dX0_note_4 (by decide) ?_
  refine wp_irm dX0_note_5 (by decide) ?_
  refine wp_i2l dX0_note_6 ?_
  refine wp_lstore_n (L1 := [some (.ref l0), some (.int l1), some (.ref l2), some (.long ((irm x1 (2 : Int32)).toInt64)), none, none]) dX0_note_7 (Nat.le_of_ble_eq_true rfl) rfl ?_
  refine wp_iconst (v := (0 : Int32)) dX0_note_8 (by decide) ?_
  refine wp_istore (L1 := [some (.ref l0), some (.int l1), some (.ref l2), some (.long ((irm x1 (2 : Int32)).toInt64)), none, some (.int (0 : Int32))]) dX0_note_9 (Nat.le_of_ble_eq_true rfl) rfl ?_
  exact WP.wk (hk0 _ _ _ _ _ _ _ h2) (And.intro rfl (And.intro rfl (And.intro rfl (And.intro rfl (And.intro rfl trivial)))))
def loX0_note : Nat → KTX0_note
  | 0 => fun _ _ _ _ _ _ => none
  | n + 1 => hX0_note_11 (loX0_note n)
theorem LOX0_note {K : CX} {l : Launch} {n0 k0 : Nat} : ∀ n : Nat, (∀ (w : XW) (l0 : Nat) (l1 : Int32) (l2 : Nat) (l3 : Int64) (l5 : Int32) (q : XW), (loX0_note n) w l0 l1 l2 l3 l5 = some q → WP K l mX0_note 1 20 n0 k0 none q 11 [some (.ref l0), some (.int l1), some (.ref l2), some (.long l3), none, some (.int l5)] [] w) := by
  intro n
  induction n with
  | zero => exact fun _ _ _ _ _ _ q h => (by cases h)
  | succ n ih => exact fun _ _ _ _ _ _ q h => HX0_note_11 ih h
def fX0_note (w : XW) (l0 : Nat) (l1 : Int32) (l2 : Nat) : Option XW := if isO w l0 0 = true then eX0_note (loX0_note FU) w l0 l1 l2 else none
theorem OX0_note {w : XW} {l0 : Nat} {l1 : Int32} {l2 : Nat} {q : XW} (h : fX0_note w l0 l1 l2 = some q) : isO w l0 0 = true := Decidable.byContradiction fun z => by unfold fX0_note at h; rw [if_neg z] at h; cases h
theorem MX0_note {K : CX} {l : Launch} {w : XW} {l0 : Nat} {l1 : Int32} {l2 : Nat} {q : XW} (h : fX0_note w l0 l1 l2 = some q) : MT K l mX0_note 1 20 [.ref l0, .int l1, .ref l2] w none q := by
  have z := OX0_note h
  unfold fX0_note at h
  rw [if_pos z] at h
  exact MT.of (by decide) (Nat.le_of_ble_eq_true rfl) rfl (EX0_note (LOX0_note FU) h)
/-! FractionRun$Course.follow(LFractionRun$State;LFractionRun$Fractions;)Z: frames 4, words 93 -/
abbrev mX0_follow : MR := (⟨"FractionRun$Course", "follow", "(LFractionRun$State;LFractionRun$Fractions;)Z"⟩, prog_2_method_2_code, 4, (some .boolean))
theorem dX0_follow_0 : decode prog_2_method_2_code 0 = .ok (.aload_n 0, 1) := by decide +kernel
theorem dX0_follow_1 : decode prog_2_method_2_code 1 = .ok (.iconst 0, 1) := by decide +kernel
theorem dX0_follow_2 : decode prog_2_method_2_code 2 = .ok (.aload_n 1, 1) := by decide +kernel
theorem dX0_follow_3 : decode prog_2_method_2_code 3 = .ok (.invokevirtual 19, 3) := by decide +kernel
theorem dX0_follow_6 : decode prog_2_method_2_code 6 = .ok (.iconst 1, 1) := by decide +kernel
theorem dX0_follow_7 : decode prog_2_method_2_code 7 = .ok (.istore_n 3, 1) := by decide +kernel
theorem dX0_follow_8 : decode prog_2_method_2_code 8 = .ok (.iload_n 3, 1) := by decide +kernel
theorem dX0_follow_9 : decode prog_2_method_2_code 9 = .ok (.sipush 200, 3) := by decide +kernel
theorem dX0_follow_12 : decode prog_2_method_2_code 12 = .ok (.if_icmp .gt 27, 3) := by decide +kernel
theorem dX0_follow_15 : decode prog_2_method_2_code 15 = .ok (.aload_n 1, 1) := by decide +kernel
theorem dX0_follow_16 : decode prog_2_method_2_code 16 = .ok (.aload_n 2, 1) := by decide +kernel
theorem dX0_follow_17 : decode prog_2_method_2_code 17 = .ok (.invokevirtual 23, 3) := by decide +kernel
theorem dX0_follow_20 : decode prog_2_method_2_code 20 = .ok (.bipush (-4), 2) := by decide +kernel
theorem dX0_follow_22 : decode prog_2_method_2_code 22 = .ok (.if_icmp .ne 5, 3) := by decide +kernel
theorem dX0_follow_25 : decode prog_2_method_2_code 25 = .ok (.iconst 0, 1) := by decide +kernel
theorem dX0_follow_26 : decode prog_2_method_2_code 26 = .ok (.ireturn, 1) := by decide +kernel
theorem dX0_follow_27 : decode prog_2_method_2_code 27 = .ok (.aload_n 0, 1) := by decide +kernel
theorem dX0_follow_28 : decode prog_2_method_2_code 28 = .ok (.iload_n 3, 1) := by decide +kernel
theorem dX0_follow_29 : decode prog_2_method_2_code 29 = .ok (.aload_n 1, 1) := by decide +kernel
theorem dX0_follow_30 : decode prog_2_method_2_code 30 = .ok (.invokevirtual 19, 3) := by decide +kernel
theorem dX0_follow_33 : decode prog_2_method_2_code 33 = .ok (.iinc 3 1, 3) := by decide +kernel
theorem dX0_follow_36 : decode prog_2_method_2_code 36 = .ok (.goto (-28), 3) := by decide +kernel
theorem dX0_follow_39 : decode prog_2_method_2_code 39 = .ok (.aload_n 1, 1) := by decide +kernel
theorem dX0_follow_40 : decode prog_2_method_2_code 40 = .ok (.aload_n 2, 1) := by decide +kernel
theorem dX0_follow_41 : decode prog_2_method_2_code 41 = .ok (.invokevirtual 29, 3) := by decide +kernel
theorem dX0_follow_44 : decode prog_2_method_2_code 44 = .ok (.ifCond .ne 7, 3) := by decide +kernel
theorem dX0_follow_47 : decode prog_2_method_2_code 47 = .ok (.iconst 1, 1) := by decide +kernel
theorem dX0_follow_48 : decode prog_2_method_2_code 48 = .ok (.goto 4, 3) := by decide +kernel
theorem dX0_follow_51 : decode prog_2_method_2_code 51 = .ok (.iconst 0, 1) := by decide +kernel
theorem dX0_follow_52 : decode prog_2_method_2_code 52 = .ok (.ireturn, 1) := by decide +kernel
theorem okM_X0_follow : okM mX0_follow 2 := ⟨tw497, tw8, by decide, by decide, by decide +kernel⟩
abbrev KTX0_follow : Type := (XW → Nat → Nat → Nat → Int32 → Option (Int32 × XW))
def bX0_follow_52 (k : KTX0_follow) (w : XW) (s0 : Int32) : Option (Int32 × XW) :=
  if s0 &&& 1 = s0 then some (s0, w) else none
theorem BX0_follow_52 {K : CX} {l : Launch} {n0 k0 : Nat} {k : KTX0_follow} (hk0 : ∀ (w : XW) (l0 : Nat) (l1 : Nat) (l2 : Nat) (l3 : Int32) (q : Int32 × XW), k w l0 l1 l2 l3 = some q → WP K l mX0_follow 4 93 n0 k0 (some (.int q.1)) q.2 8 [some (.ref l0), some (.ref l1), some (.ref l2), some (.int l3)] [] w) {w : XW} {s0 : Int32} {q : Int32 × XW} (h0 : bX0_follow_52 k w s0 = some q) : WP K l mX0_follow 4 93 n0 k0 (some (.int q.1)) q.2 52 [none, none, none, none] [.int s0] w := by
  unfold bX0_follow_52 at h0
  have c1 : s0 &&& 1 = s0 := Decidable.byContradiction fun z => by rw [if_neg z] at h0; cases h0
  rw [if_pos c1] at h0
  cases h0
  exact wp_zret rfl (zb_n c1) dX0_follow_52
def hX0_follow_8 (k : KTX0_follow) (w : XW) (l0 : Nat) (l1 : Nat) (l2 : Nat) (l3 : Int32) : Option (Int32 × XW) :=
  if (200 : Int32) < l3 then
  (fX5_isAtRest w l1 l2).bind fun q2 =>
  if q2.1 = 0 then
  bX0_follow_52 k q2.2 (1 : Int32)
  else
  bX0_follow_52 k q2.2 (0 : Int32)
  else
  (fX5_takeStep w l1 l2).bind fun q6 =>
  if q6.1 = (-4 : Int32) then
  some ((0 : Int32), q6.2)
  else
  (fX0_note q6.2 l0 l3 l1).bind fun q10 =>
  k q10 l0 l1 l2 (l3 + (1 : Int32))
theorem HX0_follow_8 {K : CX} {l : Launch} {n0 k0 : Nat} {k : KTX0_follow} (hk0 : ∀ (w : XW) (l0 : Nat) (l1 : Nat) (l2 : Nat) (l3 : Int32) (q : Int32 × XW), k w l0 l1 l2 l3 = some q → WP K l mX0_follow 4 93 n0 k0 (some (.int q.1)) q.2 8 [some (.ref l0), some (.ref l1), some (.ref l2), some (.int l3)] [] w) {w : XW} {l0 : Nat} {l1 : Nat} {l2 : Nat} {l3 : Int32} {q : Int32 × XW} (h0 : hX0_follow_8 k w l0 l1 l2 l3 = some q) : WP K l mX0_follow 4 93 n0 k0 (some (.int q.1)) q.2 8 [some (.ref l0), some (.ref l1), some (.ref l2), some (.int l3)] [] w := by
  unfold hX0_follow_8 at h0
  refine wp_iload_n dX0_follow_8 rfl ?_
  refine wp_sipush (v := (200 : Int32)) dX0_follow_9 (by decide) ?_
  refine wp_icmp_gt (tgt := 39) dX0_follow_12 (by decide) (fun c1 => ?_) (fun c1 => ?_)
  · rw [if_pos c1] at h0
    refine wp_aload_n dX0_follow_39 rfl ?_
    refine wp_aload_n dX0_follow_40 rfl ?_
    obtain ⟨q2, e4, h3⟩ := Option.bind_eq_some_iff.mp h0
    clear h0
    refine wp_Vi (As := [.ref l2]) (S := []) okM_X5_isAtRest tw406 tw407 tw503 (OX5_isAtRest e4) rfl rfl rfl ⟨(Nat.le_of_ble_eq_true rfl), (Nat.le_of_ble_eq_true rfl)⟩ (Nat.le_of_ble_eq_true rfl) rfl dX0_follow_41 (MX5_isAtRest e4) ?_
    refine wp_if_ne (tgt := 51) dX0_follow_44 (by decide) (fun c5 => ?_) (fun c5 => ?_)
    · rw [if_neg c5] at h3
      refine wp_iconst (v := (0 : Int32)) dX0_follow_51 (by decide) ?_
      exact WP.wk (BX0_follow_52 hk0 h3) trivial
    · rw [if_pos c5] at h3
      refine wp_iconst (v := (1 : Int32)) dX0_follow_47 (by decide) ?_
      refine wp_goto (tgt := 52) dX0_follow_48 (by decide) ?_
      exact WP.wk (BX0_follow_52 hk0 h3) trivial
  · rw [if_neg c1] at h0
    refine wp_aload_n dX0_follow_15 rfl ?_
    refine wp_aload_n dX0_follow_16 rfl ?_
    obtain ⟨q6, e8, h7⟩ := Option.bind_eq_some_iff.mp h0
    clear h0
    refine wp_Vi (As := [.ref l2]) (S := []) okM_X5_takeStep tw431 tw432 tw502 (OX5_takeStep e8) rfl rfl rfl ⟨(Nat.le_of_ble_eq_true rfl), (Nat.le_of_ble_eq_true rfl)⟩ (Nat.le_of_ble_eq_true rfl) rfl dX0_follow_17 (MX5_takeStep e8) ?_
    refine wp_bipush (v := (-4 : Int32)) dX0_follow_20 (by decide) ?_
    refine wp_icmp_ne (tgt := 27) dX0_follow_22 (by decide) (fun c9 => ?_) (fun c9 => ?_)
    · rw [if_neg c9] at h7
      refine wp_aload_n dX0_follow_27 rfl ?_
      refine wp_iload_n dX0_follow_28 rfl ?_
      refine wp_aload_n dX0_follow_29 rfl ?_
      obtain ⟨q10, e12, h11⟩ := Option.bind_eq_some_iff.mp h7
      clear h7
      refine wp_Vv (As := [.int l3, .ref l1]) (S := []) okM_X0_note tw500 twP_X0_note tw498 (OX0_note e12) rfl rfl rfl ⟨(Nat.le_of_ble_eq_true rfl), (Nat.le_of_ble_eq_true rfl)⟩ (Nat.le_of_ble_eq_true rfl) rfl dX0_follow_30 (MX0_note e12) ?_
      refine wp_iinc (v := (l3 + (1 : Int32))) (L1 := [some (.ref l0), some (.ref l1), some (.ref l2), some (.int (l3 + (1 : Int32)))]) dX0_follow_33 (Nat.le_of_ble_eq_true rfl) rfl (congrArg (fun z => l3 + z) (by decide)) rfl ?_
      refine wp_goto (tgt := 8) dX0_follow_36 (by decide) ?_
      exact WP.wk (hk0 _ _ _ _ _ _ h11) (And.intro rfl (And.intro rfl (And.intro rfl (And.intro rfl trivial))))
    · rw [if_pos c9] at h7
      refine wp_iconst (v := (0 : Int32)) dX0_follow_25 (by decide) ?_
      cases h7
      exact wp_zret (x := (0 : Int32)) rfl narrow_b0 dX0_follow_26
def eX0_follow (k : KTX0_follow) (w : XW) (l0 : Nat) (l1 : Nat) (l2 : Nat) : Option (Int32 × XW) :=
  (fX0_note w l0 (0 : Int32) l1).bind fun q1 =>
  k q1 l0 l1 l2 (1 : Int32)
theorem EX0_follow {K : CX} {l : Launch} {n0 k0 : Nat} {k : KTX0_follow} (hk0 : ∀ (w : XW) (l0 : Nat) (l1 : Nat) (l2 : Nat) (l3 : Int32) (q : Int32 × XW), k w l0 l1 l2 l3 = some q → WP K l mX0_follow 4 93 n0 k0 (some (.int q.1)) q.2 8 [some (.ref l0), some (.ref l1), some (.ref l2), some (.int l3)] [] w) {w : XW} {l0 : Nat} {l1 : Nat} {l2 : Nat} {q : Int32 × XW} (h0 : eX0_follow k w l0 l1 l2 = some q) : WP K l mX0_follow 4 93 n0 k0 (some (.int q.1)) q.2 0 [some (.ref l0), some (.ref l1), some (.ref l2), none] [] w := by
  unfold eX0_follow at h0
  refine wp_aload_n dX0_follow_0 rfl ?_
  refine wp_iconst (v := (0 : Int32)) dX0_follow_1 (by decide) ?_
  refine wp_aload_n dX0_follow_2 rfl ?_
  obtain ⟨q1, e3, h2⟩ := Option.bind_eq_some_iff.mp h0
  clear h0
  refine wp_Vv (As := [.int (0 : Int32), .ref l1]) (S := []) okM_X0_note tw500 twP_X0_note tw498 (OX0_note e3) rfl rfl rfl ⟨(Nat.le_of_ble_eq_true rfl), (Nat.le_of_ble_eq_true rfl)⟩ (Nat.le_of_ble_eq_true rfl) rfl dX0_follow_3 (MX0_note e3) ?_
  refine wp_iconst (v := (1 : Int32)) dX0_follow_6 (by decide) ?_
  refine wp_istore_n (L1 := [some (.ref l0), some (.ref l1), some (.ref l2), some (.int (1 : Int32))]) dX0_follow_7 (Nat.le_of_ble_eq_true rfl) rfl ?_
  exact WP.wk (hk0 _ _ _ _ _ _ h2) (And.intro rfl (And.intro rfl (And.intro rfl (And.intro rfl trivial))))
def loX0_follow : Nat → KTX0_follow
  | 0 => fun _ _ _ _ _ => none
  | n + 1 => hX0_follow_8 (loX0_follow n)
theorem LOX0_follow {K : CX} {l : Launch} {n0 k0 : Nat} : ∀ n : Nat, (∀ (w : XW) (l0 : Nat) (l1 : Nat) (l2 : Nat) (l3 : Int32) (q : Int32 × XW), (loX0_follow n) w l0 l1 l2 l3 = some q → WP K l mX0_follow 4 93 n0 k0 (some (.int q.1)) q.2 8 [some (.ref l0), some (.ref l1), some (.ref l2), some (.int l3)] [] w) := by
  intro n
  induction n with
  | zero => exact fun _ _ _ _ _ q h => (by cases h)
  | succ n ih => exact fun _ _ _ _ _ q h => HX0_follow_8 ih h
def fX0_follow (w : XW) (l0 : Nat) (l1 : Nat) (l2 : Nat) : Option (Int32 × XW) := if isO w l0 0 = true then eX0_follow (loX0_follow FU) w l0 l1 l2 else none
theorem OX0_follow {w : XW} {l0 : Nat} {l1 : Nat} {l2 : Nat} {q : Int32 × XW} (h : fX0_follow w l0 l1 l2 = some q) : isO w l0 0 = true := Decidable.byContradiction fun z => by unfold fX0_follow at h; rw [if_neg z] at h; cases h
theorem MX0_follow {K : CX} {l : Launch} {w : XW} {l0 : Nat} {l1 : Nat} {l2 : Nat} {q : Int32 × XW} (h : fX0_follow w l0 l1 l2 = some q) : MT K l mX0_follow 4 93 [.ref l0, .ref l1, .ref l2] w (some (.int q.1)) q.2 := by
  have z := OX0_follow h
  unfold fX0_follow at h
  rw [if_pos z] at h
  exact MT.of (by decide) (Nat.le_of_ble_eq_true rfl) rfl (EX0_follow (LOX0_follow FU) h)
/-! FractionRun$Course.isAlike(II)Z: frames 1, words 20 -/
abbrev mX0_isAlike : MR := (⟨"FractionRun$Course", "isAlike", "(II)Z"⟩, prog_2_method_4_code, 3, (some .boolean))
theorem dX0_isAlike_0 : decode prog_2_method_4_code 0 = .ok (.aload_n 0, 1) := by decide +kernel
theorem dX0_isAlike_1 : decode prog_2_method_4_code 1 = .ok (.getfield 9, 3) := by decide +kernel
theorem dX0_isAlike_4 : decode prog_2_method_4_code 4 = .ok (.iload_n 1, 1) := by decide +kernel
theorem dX0_isAlike_5 : decode prog_2_method_4_code 5 = .ok (.laload, 1) := by decide +kernel
theorem dX0_isAlike_6 : decode prog_2_method_4_code 6 = .ok (.aload_n 0, 1) := by decide +kernel
theorem dX0_isAlike_7 : decode prog_2_method_4_code 7 = .ok (.getfield 9, 3) := by decide +kernel
theorem dX0_isAlike_10 : decode prog_2_method_4_code 10 = .ok (.iload_n 2, 1) := by decide +kernel
theorem dX0_isAlike_11 : decode prog_2_method_4_code 11 = .ok (.laload, 1) := by decide +kernel
theorem dX0_isAlike_12 : decode prog_2_method_4_code 12 = .ok (.lcmp, 1) := by decide +kernel
theorem dX0_isAlike_13 : decode prog_2_method_4_code 13 = .ok (.ifCond .ne 22, 3) := by decide +kernel
theorem dX0_isAlike_16 : decode prog_2_method_4_code 16 = .ok (.aload_n 0, 1) := by decide +kernel
theorem dX0_isAlike_17 : decode prog_2_method_4_code 17 = .ok (.getfield 15, 3) := by decide +kernel
theorem dX0_isAlike_20 : decode prog_2_method_4_code 20 = .ok (.iload_n 1, 1) := by decide +kernel
theorem dX0_isAlike_21 : decode prog_2_method_4_code 21 = .ok (.iaload, 1) := by decide +kernel
theorem dX0_isAlike_22 : decode prog_2_method_4_code 22 = .ok (.aload_n 0, 1) := by decide +kernel
theorem dX0_isAlike_23 : decode prog_2_method_4_code 23 = .ok (.getfield 15, 3) := by decide +kernel
theorem dX0_isAlike_26 : decode prog_2_method_4_code 26 = .ok (.iload_n 2, 1) := by decide +kernel
theorem dX0_isAlike_27 : decode prog_2_method_4_code 27 = .ok (.iaload, 1) := by decide +kernel
theorem dX0_isAlike_28 : decode prog_2_method_4_code 28 = .ok (.if_icmp .ne 7, 3) := by decide +kernel
theorem dX0_isAlike_31 : decode prog_2_method_4_code 31 = .ok (.iconst 1, 1) := by decide +kernel
theorem dX0_isAlike_32 : decode prog_2_method_4_code 32 = .ok (.goto 4, 3) := by decide +kernel
theorem dX0_isAlike_35 : decode prog_2_method_4_code 35 = .ok (.iconst 0, 1) := by decide +kernel
theorem dX0_isAlike_36 : decode prog_2_method_4_code 36 = .ok (.ireturn, 1) := by decide +kernel
theorem okM_X0_isAlike : okM mX0_isAlike 2 := ⟨tw511, tw8, by decide, by decide, by decide +kernel⟩
def bX0_isAlike_36 (w : XW) (s0 : Int32) : Option (Int32 × XW) :=
  if s0 &&& 1 = s0 then some (s0, w) else none
theorem BX0_isAlike_36 {K : CX} {l : Launch} {n0 k0 : Nat} {w : XW} {s0 : Int32} {q : Int32 × XW} (h0 : bX0_isAlike_36 w s0 = some q) : WP K l mX0_isAlike 1 20 n0 k0 (some (.int q.1)) q.2 36 [none, none, none] [.int s0] w := by
  unfold bX0_isAlike_36 at h0
  have c1 : s0 &&& 1 = s0 := Decidable.byContradiction fun z => by rw [if_neg z] at h0; cases h0
  rw [if_pos c1] at h0
  cases h0
  exact wp_zret rfl (zb_n c1) dX0_isAlike_36
def bX0_isAlike_35 (w : XW) : Option (Int32 × XW) :=
  bX0_isAlike_36 w (0 : Int32)
theorem BX0_isAlike_35 {K : CX} {l : Launch} {n0 k0 : Nat} {w : XW} {q : Int32 × XW} (h0 : bX0_isAlike_35 w = some q) : WP K l mX0_isAlike 1 20 n0 k0 (some (.int q.1)) q.2 35 [none, none, none] [] w := by
  unfold bX0_isAlike_35 at h0
  refine wp_iconst (v := (0 : Int32)) dX0_isAlike_35 (by decide) ?_
  exact WP.wk (BX0_isAlike_36 h0) trivial
def eX0_isAlike (w : XW) (l0 : Nat) (l1 : Int32) (l2 : Int32) : Option (Int32 × XW) :=
  (gR w l0 0 0).bind fun x1 =>
  (aJ w x1 l1).bind fun x4 =>
  (gR w l0 0 0).bind fun x7 =>
  (aJ w x7 l2).bind fun x10 =>
  if (lg_cmp x4 x10) = 0 then
  (gR w l0 0 1).bind fun x14 =>
  (aI w 0 x14 l1).bind fun x17 =>
  (gR w l0 0 1).bind fun x20 =>
  (aI w 0 x20 l2).bind fun x23 =>
  if x17 = x23 then
  bX0_isAlike_36 w (1 : Int32)
  else
  bX0_isAlike_35 w
  else
  bX0_isAlike_35 w
theorem EX0_isAlike {K : CX} {l : Launch} {n0 k0 : Nat} {w : XW} {l0 : Nat} {l1 : Int32} {l2 : Int32} {q : Int32 × XW} (h0 : eX0_isAlike w l0 l1 l2 = some q) : WP K l mX0_isAlike 1 20 n0 k0 (some (.int q.1)) q.2 0 [some (.ref l0), some (.int l1), some (.int l2)] [] w := by
  unfold eX0_isAlike at h0
  refine wp_aload_n dX0_isAlike_0 rfl ?_
  obtain ⟨x1, e3, h2⟩ := Option.bind_eq_some_iff.mp h0
  clear h0
  refine wp_getR okX0 (k := 0) (by decide) tw172 dX0_isAlike_1 e3 ?_
  refine wp_iload_n dX0_isAlike_4 rfl ?_
  obtain ⟨x4, e6, h5⟩ := Option.bind_eq_some_iff.mp h2
  clear h2
  refine wp_lald dX0_isAlike_5 e6 ?_
  refine wp_aload_n dX0_isAlike_6 rfl ?_
  obtain ⟨x7, e9, h8⟩ := Option.bind_eq_some_iff.mp h5
  clear h5
  refine wp_getR okX0 (k := 0) (by decide) tw172 dX0_isAlike_7 e9 ?_
  refine wp_iload_n dX0_isAlike_10 rfl ?_
  obtain ⟨x10, e12, h11⟩ := Option.bind_eq_some_iff.mp h8
  clear h8
  refine wp_lald dX0_isAlike_11 e12 ?_
  refine wp_lcmp dX0_isAlike_12 ?_
  refine wp_if_ne (tgt := 35) dX0_isAlike_13 (by decide) (fun c13 => ?_) (fun c13 => ?_)
  · rw [if_neg c13] at h11
    exact WP.wk (BX0_isAlike_35 h11) trivial
  · rw [if_pos c13] at h11
    refine wp_aload_n dX0_isAlike_16 rfl ?_
    obtain ⟨x14, e16, h15⟩ := Option.bind_eq_some_iff.mp h11
    clear h11
    refine wp_getR okX0 (k := 1) (by decide) tw173 dX0_isAlike_17 e16 ?_
    refine wp_iload_n dX0_isAlike_20 rfl ?_
    obtain ⟨x17, e19, h18⟩ := Option.bind_eq_some_iff.mp h15
    clear h15
    refine wp_iald dX0_isAlike_21 e19 ?_
    refine wp_aload_n dX0_isAlike_22 rfl ?_
    obtain ⟨x20, e22, h21⟩ := Option.bind_eq_some_iff.mp h18
    clear h18
    refine wp_getR okX0 (k := 1) (by decide) tw173 dX0_isAlike_23 e22 ?_
    refine wp_iload_n dX0_isAlike_26 rfl ?_
    obtain ⟨x23, e25, h24⟩ := Option.bind_eq_some_iff.mp h21
    clear h21
    refine wp_iald dX0_isAlike_27 e25 ?_
    refine wp_icmp_ne (tgt := 35) dX0_isAlike_28 (by decide) (fun c26 => ?_) (fun c26 => ?_)
    · rw [if_neg c26] at h24
      exact WP.wk (BX0_isAlike_35 h24) trivial
    · rw [if_pos c26] at h24
      refine wp_iconst (v := (1 : Int32)) dX0_isAlike_31 (by decide) ?_
      refine wp_goto (tgt := 36) dX0_isAlike_32 (by decide) ?_
      exact WP.wk (BX0_isAlike_36 h24) trivial
def fX0_isAlike (w : XW) (l0 : Nat) (l1 : Int32) (l2 : Int32) : Option (Int32 × XW) := if isO w l0 0 = true then eX0_isAlike w l0 l1 l2 else none
theorem OX0_isAlike {w : XW} {l0 : Nat} {l1 : Int32} {l2 : Int32} {q : Int32 × XW} (h : fX0_isAlike w l0 l1 l2 = some q) : isO w l0 0 = true := Decidable.byContradiction fun z => by unfold fX0_isAlike at h; rw [if_neg z] at h; cases h
theorem MX0_isAlike {K : CX} {l : Launch} {w : XW} {l0 : Nat} {l1 : Int32} {l2 : Int32} {q : Int32 × XW} (h : fX0_isAlike w l0 l1 l2 = some q) : MT K l mX0_isAlike 1 20 [.ref l0, .int l1, .int l2] w (some (.int q.1)) q.2 := by
  have z := OX0_isAlike h
  unfold fX0_isAlike at h
  rw [if_pos z] at h
  exact MT.of (by decide) (Nat.le_of_ble_eq_true rfl) rfl (EX0_isAlike h)
/-! FractionRun$Course.lengthOfRound()I: frames 2, words 42 -/
abbrev mX0_lengthOfRound : MR := (⟨"FractionRun$Course", "lengthOfRound", "()I"⟩, prog_2_method_5_code, 2, (some .int))
theorem dX0_lengthOfRound_0 : decode prog_2_method_5_code 0 = .ok (.iconst 1, 1) := by decide +kernel
theorem dX0_lengthOfRound_1 : decode prog_2_method_5_code 1 = .ok (.istore_n 1, 1) := by decide +kernel
theorem dX0_lengthOfRound_2 : decode prog_2_method_5_code 2 = .ok (.iload_n 1, 1) := by decide +kernel
theorem dX0_lengthOfRound_3 : decode prog_2_method_5_code 3 = .ok (.sipush 200, 3) := by decide +kernel
theorem dX0_lengthOfRound_6 : decode prog_2_method_5_code 6 = .ok (.if_icmp .gt 26, 3) := by decide +kernel
theorem dX0_lengthOfRound_9 : decode prog_2_method_5_code 9 = .ok (.aload_n 0, 1) := by decide +kernel
theorem dX0_lengthOfRound_10 : decode prog_2_method_5_code 10 = .ok (.sipush 200, 3) := by decide +kernel
theorem dX0_lengthOfRound_13 : decode prog_2_method_5_code 13 = .ok (.iload_n 1, 1) := by decide +kernel
theorem dX0_lengthOfRound_14 : decode prog_2_method_5_code 14 = .ok (.isub, 1) := by decide +kernel
theorem dX0_lengthOfRound_15 : decode prog_2_method_5_code 15 = .ok (.sipush 200, 3) := by decide +kernel
theorem dX0_lengthOfRound_18 : decode prog_2_method_5_code 18 = .ok (.invokevirtual 42, 3) := by decide +kernel
theorem dX0_lengthOfRound_21 : decode prog_2_method_5_code 21 = .ok (.ifCond .eq 5, 3) := by decide +kernel
theorem dX0_lengthOfRound_24 : decode prog_2_method_5_code 24 = .ok (.iload_n 1, 1) := by decide +kernel
theorem dX0_lengthOfRound_25 : decode prog_2_method_5_code 25 = .ok (.ireturn, 1) := by decide +kernel
theorem dX0_lengthOfRound_26 : decode prog_2_method_5_code 26 = .ok (.iinc 1 1, 3) := by decide +kernel
theorem dX0_lengthOfRound_29 : decode prog_2_method_5_code 29 = .ok (.goto (-27), 3) := by decide +kernel
theorem dX0_lengthOfRound_32 : decode prog_2_method_5_code 32 = .ok (.bipush (-4), 2) := by decide +kernel
theorem dX0_lengthOfRound_34 : decode prog_2_method_5_code 34 = .ok (.ireturn, 1) := by decide +kernel
theorem okM_X0_lengthOfRound : okM mX0_lengthOfRound 0 := ⟨tw507, tw8, by decide, by decide, by decide +kernel⟩
abbrev KTX0_lengthOfRound : Type := (XW → Nat → Int32 → Option (Int32 × XW))
def hX0_lengthOfRound_2 (k : KTX0_lengthOfRound) (w : XW) (l0 : Nat) (l1 : Int32) : Option (Int32 × XW) :=
  if (200 : Int32) < l1 then
  some ((-4 : Int32), w)
  else
  (fX0_isAlike w l0 ((200 : Int32) - l1) (200 : Int32)).bind fun q2 =>
  if q2.1 = 0 then
  k q2.2 l0 (l1 + (1 : Int32))
  else
  some (l1, q2.2)
theorem HX0_lengthOfRound_2 {K : CX} {l : Launch} {n0 k0 : Nat} {k : KTX0_lengthOfRound} (hk0 : ∀ (w : XW) (l0 : Nat) (l1 : Int32) (q : Int32 × XW), k w l0 l1 = some q → WP K l mX0_lengthOfRound 2 42 n0 k0 (some (.int q.1)) q.2 2 [some (.ref l0), some (.int l1)] [] w) {w : XW} {l0 : Nat} {l1 : Int32} {q : Int32 × XW} (h0 : hX0_lengthOfRound_2 k w l0 l1 = some q) : WP K l mX0_lengthOfRound 2 42 n0 k0 (some (.int q.1)) q.2 2 [some (.ref l0), some (.int l1)] [] w := by
  unfold hX0_lengthOfRound_2 at h0
  refine wp_iload_n dX0_lengthOfRound_2 rfl ?_
  refine wp_sipush (v := (200 : Int32)) dX0_lengthOfRound_3 (by decide) ?_
  refine wp_icmp_gt (tgt := 32) dX0_lengthOfRound_6 (by decide) (fun c1 => ?_) (fun c1 => ?_)
  · rw [if_pos c1] at h0
    refine wp_bipush (v := (-4 : Int32)) dX0_lengthOfRound_32 (by decide) ?_
    cases h0
    exact wp_iret rfl dX0_lengthOfRound_34
  · rw [if_neg c1] at h0
    refine wp_aload_n dX0_lengthOfRound_9 rfl ?_
    refine wp_sipush (v := (200 : Int32)) dX0_lengthOfRound_10 (by decide) ?_
    refine wp_iload_n dX0_lengthOfRound_13 rfl ?_
    refine wp_isub dX0_lengthOfRound_14 ?_
    refine wp_sipush (v := (200 : Int32)) dX0_lengthOfRound_15 (by decide) ?_
    obtain ⟨q2, e4, h3⟩ := Option.bind_eq_some_iff.mp h0
    clear h0
    refine wp_Vi (As := [.int ((200 : Int32) - l1), .int (200 : Int32)]) (S := []) okM_X0_isAlike tw510 twP_X0_isAlike tw508 (OX0_isAlike e4) rfl rfl rfl ⟨(Nat.le_of_ble_eq_true rfl), (Nat.le_of_ble_eq_true rfl)⟩ (Nat.le_of_ble_eq_true rfl) rfl dX0_lengthOfRound_18 (MX0_isAlike e4) ?_
    refine wp_if_eq (tgt := 26) dX0_lengthOfRound_21 (by decide) (fun c5 => ?_) (fun c5 => ?_)
    · rw [if_pos c5] at h3
      refine wp_iinc (v := (l1 + (1 : Int32))) (L1 := [some (.ref l0), some (.int (l1 + (1 : Int32)))]) dX0_lengthOfRound_26 (Nat.le_of_ble_eq_true rfl) rfl (congrArg (fun z => l1 + z) (by decide)) rfl ?_
      refine wp_goto (tgt := 2) dX0_lengthOfRound_29 (by decide) ?_
      exact WP.wk (hk0 _ _ _ _ h3) (And.intro rfl (And.intro rfl trivial))
    · rw [if_neg c5] at h3
      refine wp_iload_n dX0_lengthOfRound_24 rfl ?_
      cases h3
      exact wp_iret rfl dX0_lengthOfRound_25
def eX0_lengthOfRound (k : KTX0_lengthOfRound) (w : XW) (l0 : Nat) : Option (Int32 × XW) :=
  k w l0 (1 : Int32)
theorem EX0_lengthOfRound {K : CX} {l : Launch} {n0 k0 : Nat} {k : KTX0_lengthOfRound} (hk0 : ∀ (w : XW) (l0 : Nat) (l1 : Int32) (q : Int32 × XW), k w l0 l1 = some q → WP K l mX0_lengthOfRound 2 42 n0 k0 (some (.int q.1)) q.2 2 [some (.ref l0), some (.int l1)] [] w) {w : XW} {l0 : Nat} {q : Int32 × XW} (h0 : eX0_lengthOfRound k w l0 = some q) : WP K l mX0_lengthOfRound 2 42 n0 k0 (some (.int q.1)) q.2 0 [some (.ref l0), none] [] w := by
  unfold eX0_lengthOfRound at h0
  refine wp_iconst (v := (1 : Int32)) dX0_lengthOfRound_0 (by decide) ?_
  refine wp_istore_n (L1 := [some (.ref l0), some (.int (1 : Int32))]) dX0_lengthOfRound_1 (Nat.le_of_ble_eq_true rfl) rfl ?_
  exact WP.wk (hk0 _ _ _ _ h0) (And.intro rfl (And.intro rfl trivial))
def loX0_lengthOfRound : Nat → KTX0_lengthOfRound
  | 0 => fun _ _ _ => none
  | n + 1 => hX0_lengthOfRound_2 (loX0_lengthOfRound n)
theorem LOX0_lengthOfRound {K : CX} {l : Launch} {n0 k0 : Nat} : ∀ n : Nat, (∀ (w : XW) (l0 : Nat) (l1 : Int32) (q : Int32 × XW), (loX0_lengthOfRound n) w l0 l1 = some q → WP K l mX0_lengthOfRound 2 42 n0 k0 (some (.int q.1)) q.2 2 [some (.ref l0), some (.int l1)] [] w) := by
  intro n
  induction n with
  | zero => exact fun _ _ _ q h => (by cases h)
  | succ n ih => exact fun _ _ _ q h => HX0_lengthOfRound_2 ih h
def fX0_lengthOfRound (w : XW) (l0 : Nat) : Option (Int32 × XW) := if isO w l0 0 = true then eX0_lengthOfRound (loX0_lengthOfRound FU) w l0 else none
theorem OX0_lengthOfRound {w : XW} {l0 : Nat} {q : Int32 × XW} (h : fX0_lengthOfRound w l0 = some q) : isO w l0 0 = true := Decidable.byContradiction fun z => by unfold fX0_lengthOfRound at h; rw [if_neg z] at h; cases h
theorem MX0_lengthOfRound {K : CX} {l : Launch} {w : XW} {l0 : Nat} {q : Int32 × XW} (h : fX0_lengthOfRound w l0 = some q) : MT K l mX0_lengthOfRound 2 42 [.ref l0] w (some (.int q.1)) q.2 := by
  have z := OX0_lengthOfRound h
  unfold fX0_lengthOfRound at h
  rw [if_pos z] at h
  exact MT.of (by decide) (Nat.le_of_ble_eq_true rfl) rfl (EX0_lengthOfRound (LOX0_lengthOfRound FU) h)
/-! FractionRun$Course.beginOfRound(I)I: frames 2, words 42 -/
abbrev mX0_beginOfRound : MR := (⟨"FractionRun$Course", "beginOfRound", "(I)I"⟩, prog_2_method_6_code, 3, (some .int))
theorem dX0_beginOfRound_0 : decode prog_2_method_6_code 0 = .ok (.iconst 0, 1) := by decide +kernel
theorem dX0_beginOfRound_1 : decode prog_2_method_6_code 1 = .ok (.istore_n 2, 1) := by decide +kernel
theorem dX0_beginOfRound_2 : decode prog_2_method_6_code 2 = .ok (.iload_n 2, 1) := by decide +kernel
theorem dX0_beginOfRound_3 : decode prog_2_method_6_code 3 = .ok (.iload_n 1, 1) := by decide +kernel
theorem dX0_beginOfRound_4 : decode prog_2_method_6_code 4 = .ok (.iadd, 1) := by decide +kernel
theorem dX0_beginOfRound_5 : decode prog_2_method_6_code 5 = .ok (.sipush 200, 3) := by decide +kernel
theorem dX0_beginOfRound_8 : decode prog_2_method_6_code 8 = .ok (.if_icmp .gt 22, 3) := by decide +kernel
theorem dX0_beginOfRound_11 : decode prog_2_method_6_code 11 = .ok (.aload_n 0, 1) := by decide +kernel
theorem dX0_beginOfRound_12 : decode prog_2_method_6_code 12 = .ok (.iload_n 2, 1) := by decide +kernel
theorem dX0_beginOfRound_13 : decode prog_2_method_6_code 13 = .ok (.iload_n 2, 1) := by decide +kernel
theorem dX0_beginOfRound_14 : decode prog_2_method_6_code 14 = .ok (.iload_n 1, 1) := by decide +kernel
theorem dX0_beginOfRound_15 : decode prog_2_method_6_code 15 = .ok (.iadd, 1) := by decide +kernel
theorem dX0_beginOfRound_16 : decode prog_2_method_6_code 16 = .ok (.invokevirtual 42, 3) := by decide +kernel
theorem dX0_beginOfRound_19 : decode prog_2_method_6_code 19 = .ok (.ifCond .eq 5, 3) := by decide +kernel
theorem dX0_beginOfRound_22 : decode prog_2_method_6_code 22 = .ok (.iload_n 2, 1) := by decide +kernel
theorem dX0_beginOfRound_23 : decode prog_2_method_6_code 23 = .ok (.ireturn, 1) := by decide +kernel
theorem dX0_beginOfRound_24 : decode prog_2_method_6_code 24 = .ok (.iinc 2 1, 3) := by decide +kernel
theorem dX0_beginOfRound_27 : decode prog_2_method_6_code 27 = .ok (.goto (-25), 3) := by decide +kernel
theorem dX0_beginOfRound_30 : decode prog_2_method_6_code 30 = .ok (.bipush (-4), 2) := by decide +kernel
theorem dX0_beginOfRound_32 : decode prog_2_method_6_code 32 = .ok (.ireturn, 1) := by decide +kernel
theorem okM_X0_beginOfRound : okM mX0_beginOfRound 1 := ⟨tw515, tw8, by decide, by decide, by decide +kernel⟩
abbrev KTX0_beginOfRound : Type := (XW → Nat → Int32 → Int32 → Option (Int32 × XW))
def hX0_beginOfRound_2 (k : KTX0_beginOfRound) (w : XW) (l0 : Nat) (l1 : Int32) (l2 : Int32) : Option (Int32 × XW) :=
  if (200 : Int32) < (l2 + l1) then
  some ((-4 : Int32), w)
  else
  (fX0_isAlike w l0 l2 (l2 + l1)).bind fun q2 =>
  if q2.1 = 0 then
  k q2.2 l0 l1 (l2 + (1 : Int32))
  else
  some (l2, q2.2)
theorem HX0_beginOfRound_2 {K : CX} {l : Launch} {n0 k0 : Nat} {k : KTX0_beginOfRound} (hk0 : ∀ (w : XW) (l0 : Nat) (l1 : Int32) (l2 : Int32) (q : Int32 × XW), k w l0 l1 l2 = some q → WP K l mX0_beginOfRound 2 42 n0 k0 (some (.int q.1)) q.2 2 [some (.ref l0), some (.int l1), some (.int l2)] [] w) {w : XW} {l0 : Nat} {l1 : Int32} {l2 : Int32} {q : Int32 × XW} (h0 : hX0_beginOfRound_2 k w l0 l1 l2 = some q) : WP K l mX0_beginOfRound 2 42 n0 k0 (some (.int q.1)) q.2 2 [some (.ref l0), some (.int l1), some (.int l2)] [] w := by
  unfold hX0_beginOfRound_2 at h0
  refine wp_iload_n dX0_beginOfRound_2 rfl ?_
  refine wp_iload_n dX0_beginOfRound_3 rfl ?_
  refine wp_iadd dX0_beginOfRound_4 ?_
  refine wp_sipush (v := (200 : Int32)) dX0_beginOfRound_5 (by decide) ?_
  refine wp_icmp_gt (tgt := 30) dX0_beginOfRound_8 (by decide) (fun c1 => ?_) (fun c1 => ?_)
  · rw [if_pos c1] at h0
    refine wp_bipush (v := (-4 : Int32)) dX0_beginOfRound_30 (by decide) ?_
    cases h0
    exact wp_iret rfl dX0_beginOfRound_32
  · rw [if_neg c1] at h0
    refine wp_aload_n dX0_beginOfRound_11 rfl ?_
    refine wp_iload_n dX0_beginOfRound_12 rfl ?_
    refine wp_iload_n dX0_beginOfRound_13 rfl ?_
    refine wp_iload_n dX0_beginOfRound_14 rfl ?_
    refine wp_iadd dX0_beginOfRound_15 ?_
    obtain ⟨q2, e4, h3⟩ := Option.bind_eq_some_iff.mp h0
    clear h0
    refine wp_Vi (As := [.int l2, .int (l2 + l1)]) (S := []) okM_X0_isAlike tw510 twP_X0_isAlike tw508 (OX0_isAlike e4) rfl rfl rfl ⟨(Nat.le_of_ble_eq_true rfl), (Nat.le_of_ble_eq_true rfl)⟩ (Nat.le_of_ble_eq_true rfl) rfl dX0_beginOfRound_16 (MX0_isAlike e4) ?_
    refine wp_if_eq (tgt := 24) dX0_beginOfRound_19 (by decide) (fun c5 => ?_) (fun c5 => ?_)
    · rw [if_pos c5] at h3
      refine wp_iinc (v := (l2 + (1 : Int32))) (L1 := [some (.ref l0), some (.int l1), some (.int (l2 + (1 : Int32)))]) dX0_beginOfRound_24 (Nat.le_of_ble_eq_true rfl) rfl (congrArg (fun z => l2 + z) (by decide)) rfl ?_
      refine wp_goto (tgt := 2) dX0_beginOfRound_27 (by decide) ?_
      exact WP.wk (hk0 _ _ _ _ _ h3) (And.intro rfl (And.intro rfl (And.intro rfl trivial)))
    · rw [if_neg c5] at h3
      refine wp_iload_n dX0_beginOfRound_22 rfl ?_
      cases h3
      exact wp_iret rfl dX0_beginOfRound_23
def eX0_beginOfRound (k : KTX0_beginOfRound) (w : XW) (l0 : Nat) (l1 : Int32) : Option (Int32 × XW) :=
  k w l0 l1 (0 : Int32)
theorem EX0_beginOfRound {K : CX} {l : Launch} {n0 k0 : Nat} {k : KTX0_beginOfRound} (hk0 : ∀ (w : XW) (l0 : Nat) (l1 : Int32) (l2 : Int32) (q : Int32 × XW), k w l0 l1 l2 = some q → WP K l mX0_beginOfRound 2 42 n0 k0 (some (.int q.1)) q.2 2 [some (.ref l0), some (.int l1), some (.int l2)] [] w) {w : XW} {l0 : Nat} {l1 : Int32} {q : Int32 × XW} (h0 : eX0_beginOfRound k w l0 l1 = some q) : WP K l mX0_beginOfRound 2 42 n0 k0 (some (.int q.1)) q.2 0 [some (.ref l0), some (.int l1), none] [] w := by
  unfold eX0_beginOfRound at h0
  refine wp_iconst (v := (0 : Int32)) dX0_beginOfRound_0 (by decide) ?_
  refine wp_istore_n (L1 := [some (.ref l0), some (.int l1), some (.int (0 : Int32))]) dX0_beginOfRound_1 (Nat.le_of_ble_eq_true rfl) rfl ?_
  exact WP.wk (hk0 _ _ _ _ _ h0) (And.intro rfl (And.intro rfl (And.intro rfl trivial)))
def loX0_beginOfRound : Nat → KTX0_beginOfRound
  | 0 => fun _ _ _ _ => none
  | n + 1 => hX0_beginOfRound_2 (loX0_beginOfRound n)
theorem LOX0_beginOfRound {K : CX} {l : Launch} {n0 k0 : Nat} : ∀ n : Nat, (∀ (w : XW) (l0 : Nat) (l1 : Int32) (l2 : Int32) (q : Int32 × XW), (loX0_beginOfRound n) w l0 l1 l2 = some q → WP K l mX0_beginOfRound 2 42 n0 k0 (some (.int q.1)) q.2 2 [some (.ref l0), some (.int l1), some (.int l2)] [] w) := by
  intro n
  induction n with
  | zero => exact fun _ _ _ _ q h => (by cases h)
  | succ n ih => exact fun _ _ _ _ q h => HX0_beginOfRound_2 ih h
def fX0_beginOfRound (w : XW) (l0 : Nat) (l1 : Int32) : Option (Int32 × XW) := if isO w l0 0 = true then eX0_beginOfRound (loX0_beginOfRound FU) w l0 l1 else none
theorem OX0_beginOfRound {w : XW} {l0 : Nat} {l1 : Int32} {q : Int32 × XW} (h : fX0_beginOfRound w l0 l1 = some q) : isO w l0 0 = true := Decidable.byContradiction fun z => by unfold fX0_beginOfRound at h; rw [if_neg z] at h; cases h
theorem MX0_beginOfRound {K : CX} {l : Launch} {w : XW} {l0 : Nat} {l1 : Int32} {q : Int32 × XW} (h : fX0_beginOfRound w l0 l1 = some q) : MT K l mX0_beginOfRound 2 42 [.ref l0, .int l1] w (some (.int q.1)) q.2 := by
  have z := OX0_beginOfRound h
  unfold fX0_beginOfRound at h
  rw [if_pos z] at h
  exact MT.of (by decide) (Nat.le_of_ble_eq_true rfl) rfl (EX0_beginOfRound (LOX0_beginOfRound FU) h)
/-! FractionRun.round(I)I: frames 5, words 116 -/
abbrev mX7_round : MR := (⟨"FractionRun", "round", "(I)I"⟩, prog_1_method_16_code, 3, (some .int))
theorem dX7_round_0 : decode prog_1_method_16_code 0 = .ok (.iload_n 1, 1) := by decide +kernel
theorem dX7_round_1 : decode prog_1_method_16_code 1 = .ok (.ifCond .lt 8, 3) := by decide +kernel
theorem dX7_round_4 : decode prog_1_method_16_code 4 = .ok (.iload_n 1, 1) := by decide +kernel
theorem dX7_round_5 : decode prog_1_method_16_code 5 = .ok (.iconst 1, 1) := by decide +kernel
theorem dX7_round_6 : decode prog_1_method_16_code 6 = .ok (.if_icmp .le 5, 3) := by decide +kernel
theorem dX7_round_9 : decode prog_1_method_16_code 9 = .ok (.iconst (-1), 1) := by decide +kernel
theorem dX7_round_10 : decode prog_1_method_16_code 10 = .ok (.ireturn, 1) := by decide +kernel
theorem dX7_round_11 : decode prog_1_method_16_code 11 = .ok (.aload_n 0, 1) := by decide +kernel
theorem dX7_round_12 : decode prog_1_method_16_code 12 = .ok (.getfield 40, 3) := by decide +kernel
theorem dX7_round_15 : decode prog_1_method_16_code 15 = .ok (.aload_n 0, 1) := by decide +kernel
theorem dX7_round_16 : decode prog_1_method_16_code 16 = .ok (.getfield 36, 3) := by decide +kernel
theorem dX7_round_19 : decode prog_1_method_16_code 19 = .ok (.invokevirtual 189, 3) := by decide +kernel
theorem dX7_round_22 : decode prog_1_method_16_code 22 = .ok (.aload_n 0, 1) := by decide +kernel
theorem dX7_round_23 : decode prog_1_method_16_code 23 = .ok (.getfield 73, 3) := by decide +kernel
theorem dX7_round_26 : decode prog_1_method_16_code 26 = .ok (.aload_n 0, 1) := by decide +kernel
theorem dX7_round_27 : decode prog_1_method_16_code 27 = .ok (.getfield 40, 3) := by decide +kernel
theorem dX7_round_30 : decode prog_1_method_16_code 30 = .ok (.aload_n 0, 1) := by decide +kernel
theorem dX7_round_31 : decode prog_1_method_16_code 31 = .ok (.getfield 26, 3) := by decide +kernel
theorem dX7_round_34 : decode prog_1_method_16_code 34 = .ok (.invokevirtual 198, 3) := by decide +kernel
theorem dX7_round_37 : decode prog_1_method_16_code 37 = .ok (.ifCond .ne 6, 3) := by decide +kernel
theorem dX7_round_40 : decode prog_1_method_16_code 40 = .ok (.bipush (-4), 2) := by decide +kernel
theorem dX7_round_42 : decode prog_1_method_16_code 42 = .ok (.ireturn, 1) := by decide +kernel
theorem dX7_round_43 : decode prog_1_method_16_code 43 = .ok (.aload_n 0, 1) := by decide +kernel
theorem dX7_round_44 : decode prog_1_method_16_code 44 = .ok (.getfield 73, 3) := by decide +kernel
theorem dX7_round_47 : decode prog_1_method_16_code 47 = .ok (.invokevirtual 202, 3) := by decide +kernel
theorem dX7_round_50 : decode prog_1_method_16_code 50 = .ok (.istore_n 2, 1) := by decide +kernel
theorem dX7_round_51 : decode prog_1_method_16_code 51 = .ok (.iload_n 2, 1) := by decide +kernel
theorem dX7_round_52 : decode prog_1_method_16_code 52 = .ok (.bipush (-4), 2) := by decide +kernel
theorem dX7_round_54 : decode prog_1_method_16_code 54 = .ok (.if_icmp .ne 6, 3) := by decide +kernel
theorem dX7_round_57 : decode prog_1_method_16_code 57 = .ok (.bipush (-4), 2) := by decide +kernel
theorem dX7_round_59 : decode prog_1_method_16_code 59 = .ok (.ireturn, 1) := by decide +kernel
theorem dX7_round_60 : decode prog_1_method_16_code 60 = .ok (.iload_n 1, 1) := by decide +kernel
theorem dX7_round_61 : decode prog_1_method_16_code 61 = .ok (.iconst 1, 1) := by decide +kernel
theorem dX7_round_62 : decode prog_1_method_16_code 62 = .ok (.if_icmp .ne 7, 3) := by decide +kernel
theorem dX7_round_65 : decode prog_1_method_16_code 65 = .ok (.iload_n 2, 1) := by decide +kernel
theorem dX7_round_66 : decode prog_1_method_16_code 66 = .ok (.goto 11, 3) := by decide +kernel
theorem dX7_round_69 : decode prog_1_method_16_code 69 = .ok (.aload_n 0, 1) := by decide +kernel
theorem dX7_round_70 : decode prog_1_method_16_code 70 = .ok (.getfield 73, 3) := by decide +kernel
theorem dX7_round_73 : decode prog_1_method_16_code 73 = .ok (.iload_n 2, 1) := by decide +kernel
theorem dX7_round_74 : decode prog_1_method_16_code 74 = .ok (.invokevirtual 205, 3) := by decide +kernel
theorem dX7_round_77 : decode prog_1_method_16_code 77 = .ok (.ireturn, 1) := by decide +kernel
theorem okM_X7_round : okM mX7_round 1 := ⟨tw493, tw1, by decide, by decide, by decide +kernel⟩
def bX7_round_77 (w : XW) (s0 : Int32) : Option (Int32 × XW) :=
  some (s0, w)
theorem BX7_round_77 {K : CX} {l : Launch} {n0 k0 : Nat} {w : XW} {s0 : Int32} {q : Int32 × XW} (h0 : bX7_round_77 w s0 = some q) : WP K l mX7_round 5 116 n0 k0 (some (.int q.1)) q.2 77 [none, none, none] [.int s0] w := by
  unfold bX7_round_77 at h0
  cases h0
  exact wp_iret rfl dX7_round_77
def bX7_round_9 (w : XW) : Option (Int32 × XW) :=
  some ((-1 : Int32), w)
theorem BX7_round_9 {K : CX} {l : Launch} {n0 k0 : Nat} {w : XW} {q : Int32 × XW} (h0 : bX7_round_9 w = some q) : WP K l mX7_round 5 116 n0 k0 (some (.int q.1)) q.2 9 [none, none, none] [] w := by
  unfold bX7_round_9 at h0
  refine wp_iconst (v := (-1 : Int32)) dX7_round_9 (by decide) ?_
  cases h0
  exact wp_iret rfl dX7_round_10
def eX7_round (w : XW) (l0 : Nat) (l1 : Int32) : Option (Int32 × XW) :=
  if l1 < 0 then
  bX7_round_9 w
  else
  if l1 ≤ (1 : Int32) then
  (gR w l0 7 5).bind fun x3 =>
  (gR w l0 7 4).bind fun x6 =>
  (fX5_copyFrom w x3 x6).bind fun q9 =>
  (gR q9 l0 7 13).bind fun x12 =>
  (gR q9 l0 7 5).bind fun x15 =>
  (gR q9 l0 7 2).bind fun x18 =>
  (fX0_follow q9 x12 x15 x18).bind fun q21 =>
  if q21.1 = 0 then
  some ((-4 : Int32), q21.2)
  else
  (gR q21.2 l0 7 13).bind fun x25 =>
  (fX0_lengthOfRound q21.2 x25).bind fun q28 =>
  if q28.1 = (-4 : Int32) then
  some ((-4 : Int32), q28.2)
  else
  if l1 = (1 : Int32) then
  bX7_round_77 q28.2 q28.1
  else
  (gR q28.2 l0 7 13).bind fun x33 =>
  (fX0_beginOfRound q28.2 x33 q28.1).bind fun q36 =>
  bX7_round_77 q36.2 q36.1
  else
  bX7_round_9 w
theorem EX7_round {K : CX} {l : Launch} {n0 k0 : Nat} {w : XW} {l0 : Nat} {l1 : Int32} {q : Int32 × XW} (h0 : eX7_round w l0 l1 = some q) : WP K l mX7_round 5 116 n0 k0 (some (.int q.1)) q.2 0 [some (.ref l0), some (.int l1), none] [] w := by
  unfold eX7_round at h0
  refine wp_iload_n dX7_round_0 rfl ?_
  refine wp_if_lt (tgt := 9) dX7_round_1 (by decide) (fun c1 => ?_) (fun c1 => ?_)
  · rw [if_pos c1] at h0
    exact WP.wk (BX7_round_9 h0) trivial
  · rw [if_neg c1] at h0
    refine wp_iload_n dX7_round_4 rfl ?_
    refine wp_iconst (v := (1 : Int32)) dX7_round_5 (by decide) ?_
    refine wp_icmp_le (tgt := 11) dX7_round_6 (by decide) (fun c2 => ?_) (fun c2 => ?_)
    · rw [if_pos c2] at h0
      refine wp_aload_n dX7_round_11 rfl ?_
      obtain ⟨x3, e5, h4⟩ := Option.bind_eq_some_iff.mp h0
      clear h0
      refine wp_getR okX7 (k := 5) (by decide) tw303 dX7_round_12 e5 ?_
      refine wp_aload_n dX7_round_15 rfl ?_
      obtain ⟨x6, e8, h7⟩ := Option.bind_eq_some_iff.mp h4
      clear h4
      refine wp_getR okX7 (k := 4) (by decide) tw302 dX7_round_16 e8 ?_
      obtain ⟨q9, e11, h10⟩ := Option.bind_eq_some_iff.mp h7
      clear h7
      refine wp_Vv (As := [.ref x6]) (S := []) okM_X5_copyFrom tw419 tw420 tw474 (OX5_copyFrom e11) rfl rfl rfl ⟨(Nat.le_of_ble_eq_true rfl), (Nat.le_of_ble_eq_true rfl)⟩ (Nat.le_of_ble_eq_true rfl) rfl dX7_round_19 (MX5_copyFrom e11) ?_
      refine wp_aload_n dX7_round_22 rfl ?_
      obtain ⟨x12, e14, h13⟩ := Option.bind_eq_some_iff.mp h10
      clear h10
      refine wp_getR okX7 (k := 13) (by decide) tw311 dX7_round_23 e14 ?_
      refine wp_aload_n dX7_round_26 rfl ?_
      obtain ⟨x15, e17, h16⟩ := Option.bind_eq_some_iff.mp h13
      clear h13
      refine wp_getR okX7 (k := 5) (by decide) tw303 dX7_round_27 e17 ?_
      refine wp_aload_n dX7_round_30 rfl ?_
      obtain ⟨x18, e20, h19⟩ := Option.bind_eq_some_iff.mp h16
      clear h16
      refine wp_getR okX7 (k := 2) (by decide) tw300 dX7_round_31 e20 ?_
      obtain ⟨q21, e23, h22⟩ := Option.bind_eq_some_iff.mp h19
      clear h19
      refine wp_Vi (As := [.ref x15, .ref x18]) (S := []) okM_X0_follow tw495 tw496 tw494 (OX0_follow e23) rfl rfl rfl ⟨(Nat.le_of_ble_eq_true rfl), (Nat.le_of_ble_eq_true rfl)⟩ (Nat.le_of_ble_eq_true rfl) rfl dX7_round_34 (MX0_follow e23) ?_
      refine wp_if_ne (tgt := 43) dX7_round_37 (by decide) (fun c24 => ?_) (fun c24 => ?_)
      · rw [if_neg c24] at h22
        refine wp_aload_n dX7_round_43 rfl ?_
        obtain ⟨x25, e27, h26⟩ := Option.bind_eq_some_iff.mp h22
        clear h22
        refine wp_getR okX7 (k := 13) (by decide) tw311 dX7_round_44 e27 ?_
        obtain ⟨q28, e30, h29⟩ := Option.bind_eq_some_iff.mp h26
        clear h26
        refine wp_Vi (As := []) (S := []) okM_X0_lengthOfRound tw505 tw506 tw504 (OX0_lengthOfRound e30) rfl rfl rfl ⟨(Nat.le_of_ble_eq_true rfl), (Nat.le_of_ble_eq_true rfl)⟩ (Nat.le_of_ble_eq_true rfl) rfl dX7_round_47 (MX0_lengthOfRound e30) ?_
        refine wp_istore_n (L1 := [some (.ref l0), some (.int l1), some (.int q28.1)]) dX7_round_50 (Nat.le_of_ble_eq_true rfl) rfl ?_
        refine wp_iload_n dX7_round_51 rfl ?_
        refine wp_bipush (v := (-4 : Int32)) dX7_round_52 (by decide) ?_
        refine wp_icmp_ne (tgt := 60) dX7_round_54 (by decide) (fun c31 => ?_) (fun c31 => ?_)
        · rw [if_neg c31] at h29
          refine wp_iload_n dX7_round_60 rfl ?_
          refine wp_iconst (v := (1 : Int32)) dX7_round_61 (by decide) ?_
          refine wp_icmp_ne (tgt := 69) dX7_round_62 (by decide) (fun c32 => ?_) (fun c32 => ?_)
          · rw [if_neg c32] at h29
            refine wp_aload_n dX7_round_69 rfl ?_
            obtain ⟨x33, e35, h34⟩ := Option.bind_eq_some_iff.mp h29
            clear h29
            refine wp_getR okX7 (k := 13) (by decide) tw311 dX7_round_70 e35 ?_
            refine wp_iload_n dX7_round_73 rfl ?_
            obtain ⟨q36, e38, h37⟩ := Option.bind_eq_some_iff.mp h34
            clear h34
            refine wp_Vi (As := [.int q28.1]) (S := []) okM_X0_beginOfRound tw513 tw514 tw512 (OX0_beginOfRound e38) rfl rfl rfl ⟨(Nat.le_of_ble_eq_true rfl), (Nat.le_of_ble_eq_true rfl)⟩ (Nat.le_of_ble_eq_true rfl) rfl dX7_round_74 (MX0_beginOfRound e38) ?_
            exact WP.wk (BX7_round_77 h37) trivial
          · rw [if_pos c32] at h29
            refine wp_iload_n dX7_round_65 rfl ?_
            refine wp_goto (tgt := 77) dX7_round_66 (by decide) ?_
            exact WP.wk (BX7_round_77 h29) trivial
        · rw [if_pos c31] at h29
          refine wp_bipush (v := (-4 : Int32)) dX7_round_57 (by decide) ?_
          cases h29
          exact wp_iret rfl dX7_round_59
      · rw [if_pos c24] at h22
        refine wp_bipush (v := (-4 : Int32)) dX7_round_40 (by decide) ?_
        cases h22
        exact wp_iret rfl dX7_round_42
    · rw [if_neg c2] at h0
      exact WP.wk (BX7_round_9 h0) trivial
def fX7_round (w : XW) (l0 : Nat) (l1 : Int32) : Option (Int32 × XW) := if isO w l0 7 = true then eX7_round w l0 l1 else none
theorem OX7_round {w : XW} {l0 : Nat} {l1 : Int32} {q : Int32 × XW} (h : fX7_round w l0 l1 = some q) : isO w l0 7 = true := Decidable.byContradiction fun z => by unfold fX7_round at h; rw [if_neg z] at h; cases h
theorem MX7_round {K : CX} {l : Launch} {w : XW} {l0 : Nat} {l1 : Int32} {q : Int32 × XW} (h : fX7_round w l0 l1 = some q) : MT K l mX7_round 5 116 [.ref l0, .int l1] w (some (.int q.1)) q.2 := by
  have z := OX7_round h
  unfold fX7_round at h
  rw [if_pos z] at h
  exact MT.of (by decide) (Nat.le_of_ble_eq_true rfl) rfl (EX7_round h)
/-! FractionRunModel.alike(II)Z: frames 1, words 20 -/
abbrev mX8_alike : MR := (⟨"FractionRunModel", "alike", "(II)Z"⟩, prog_10_method_44_code, 5, (some .boolean))
theorem dX8_alike_0 : decode prog_10_method_44_code 0 = .ok (.iconst 1, 1) := by decide +kernel
theorem dX8_alike_1 : decode prog_10_method_44_code 1 = .ok (.istore_n 3, 1) := by decide +kernel
theorem dX8_alike_2 : decode prog_10_method_44_code 2 = .ok (.iconst 0, 1) := by decide +kernel
theorem dX8_alike_3 : decode prog_10_method_44_code 3 = .ok (.istore 4, 2) := by decide +kernel
theorem dX8_alike_5 : decode prog_10_method_44_code 5 = .ok (.iload 4, 2) := by decide +kernel
theorem dX8_alike_7 : decode prog_10_method_44_code 7 = .ok (.bipush 8, 2) := by decide +kernel
theorem dX8_alike_9 : decode prog_10_method_44_code 9 = .ok (.if_icmp .ge 46, 3) := by decide +kernel
theorem dX8_alike_12 : decode prog_10_method_44_code 12 = .ok (.iload_n 3, 1) := by decide +kernel
theorem dX8_alike_13 : decode prog_10_method_44_code 13 = .ok (.ifCond .eq 34, 3) := by decide +kernel
theorem dX8_alike_16 : decode prog_10_method_44_code 16 = .ok (.aload_n 0, 1) := by decide +kernel
theorem dX8_alike_17 : decode prog_10_method_44_code 17 = .ok (.getfield 38, 3) := by decide +kernel
theorem dX8_alike_20 : decode prog_10_method_44_code 20 = .ok (.bipush 8, 2) := by decide +kernel
theorem dX8_alike_22 : decode prog_10_method_44_code 22 = .ok (.iload_n 1, 1) := by decide +kernel
theorem dX8_alike_23 : decode prog_10_method_44_code 23 = .ok (.imul, 1) := by decide +kernel
theorem dX8_alike_24 : decode prog_10_method_44_code 24 = .ok (.iload 4, 2) := by decide +kernel
theorem dX8_alike_26 : decode prog_10_method_44_code 26 = .ok (.iadd, 1) := by decide +kernel
theorem dX8_alike_27 : decode prog_10_method_44_code 27 = .ok (.iaload, 1) := by decide +kernel
theorem dX8_alike_28 : decode prog_10_method_44_code 28 = .ok (.aload_n 0, 1) := by decide +kernel
theorem dX8_alike_29 : decode prog_10_method_44_code 29 = .ok (.getfield 38, 3) := by decide +kernel
theorem dX8_alike_32 : decode prog_10_method_44_code 32 = .ok (.bipush 8, 2) := by decide +kernel
theorem dX8_alike_34 : decode prog_10_method_44_code 34 = .ok (.iload_n 2, 1) := by decide +kernel
theorem dX8_alike_35 : decode prog_10_method_44_code 35 = .ok (.imul, 1) := by decide +kernel
theorem dX8_alike_36 : decode prog_10_method_44_code 36 = .ok (.iload 4, 2) := by decide +kernel
theorem dX8_alike_38 : decode prog_10_method_44_code 38 = .ok (.iadd, 1) := by decide +kernel
theorem dX8_alike_39 : decode prog_10_method_44_code 39 = .ok (.iaload, 1) := by decide +kernel
theorem dX8_alike_40 : decode prog_10_method_44_code 40 = .ok (.if_icmp .ne 7, 3) := by decide +kernel
theorem dX8_alike_43 : decode prog_10_method_44_code 43 = .ok (.iconst 1, 1) := by decide +kernel
theorem dX8_alike_44 : decode prog_10_method_44_code 44 = .ok (.goto 4, 3) := by decide +kernel
theorem dX8_alike_47 : decode prog_10_method_44_code 47 = .ok (.iconst 0, 1) := by decide +kernel
theorem dX8_alike_48 : decode prog_10_method_44_code 48 = .ok (.istore_n 3, 1) := by decide +kernel
theorem dX8_alike_49 : decode prog_10_method_44_code 49 = .ok (.iinc 4 1, 3) := by decide +kernel
theorem dX8_alike_52 : decode prog_10_method_44_code 52 = .ok (.goto (-47), 3) := by decide +kernel
theorem dX8_alike_55 : decode prog_10_method_44_code 55 = .ok (.iload_n 3, 1) := by decide +kernel
theorem dX8_alike_56 : decode prog_10_method_44_code 56 = .ok (.ireturn, 1) := by decide +kernel
theorem okM_X8_alike : okM mX8_alike 2 := ⟨tw942, tw15, by decide, by decide, by decide +kernel⟩
abbrev KTX8_alike : Type := (XW → Nat → Int32 → Int32 → Int32 → Int32 → Option (Int32 × XW))
def bX8_alike_48 (k : KTX8_alike) (w : XW) (l0 : Nat) (l1 : Int32) (l2 : Int32) (l4 : Int32) (s0 : Int32) : Option (Int32 × XW) :=
  k w l0 l1 l2 s0 (l4 + (1 : Int32))
theorem BX8_alike_48 {K : CX} {l : Launch} {n0 k0 : Nat} {k : KTX8_alike} (hk0 : ∀ (w : XW) (l0 : Nat) (l1 : Int32) (l2 : Int32) (l3 : Int32) (l4 : Int32) (q : Int32 × XW), k w l0 l1 l2 l3 l4 = some q → WP K l mX8_alike 1 20 n0 k0 (some (.int q.1)) q.2 5 [some (.ref l0), some (.int l1), some (.int l2), some (.int l3), some (.int l4)] [] w) {w : XW} {l0 : Nat} {l1 : Int32} {l2 : Int32} {l4 : Int32} {s0 : Int32} {q : Int32 × XW} (h0 : bX8_alike_48 k w l0 l1 l2 l4 s0 = some q) : WP K l mX8_alike 1 20 n0 k0 (some (.int q.1)) q.2 48 [some (.ref l0), some (.int l1), some (.int l2), none, some (.int l4)] [.int s0] w := by
  unfold bX8_alike_48 at h0
  refine wp_istore_n (L1 := [some (.ref l0), some (.int l1), some (.int l2), some (.int s0), some (.int l4)]) dX8_alike_48 (Nat.le_of_ble_eq_true rfl) rfl ?_
  refine wp_iinc (v := (l4 + (1 : Int32))) (L1 := [some (.ref l0), some (.int l1), some (.int l2), some (.int s0), some (.int (l4 + (1 : Int32)))]) dX8_alike_49 (Nat.le_of_ble_eq_true rfl) rfl (congrArg (fun z => l4 + z) (by decide)) rfl ?_
  refine wp_goto (tgt := 5) dX8_alike_52 (by decide) ?_
  exact WP.wk (hk0 _ _ _ _ _ _ _ h0) (And.intro rfl (And.intro rfl (And.intro rfl (And.intro rfl (And.intro rfl trivial)))))
def bX8_alike_47 (k : KTX8_alike) (w : XW) (l0 : Nat) (l1 : Int32) (l2 : Int32) (l4 : Int32) : Option (Int32 × XW) :=
  bX8_alike_48 k w l0 l1 l2 l4 (0 : Int32)
theorem BX8_alike_47 {K : CX} {l : Launch} {n0 k0 : Nat} {k : KTX8_alike} (hk0 : ∀ (w : XW) (l0 : Nat) (l1 : Int32) (l2 : Int32) (l3 : Int32) (l4 : Int32) (q : Int32 × XW), k w l0 l1 l2 l3 l4 = some q → WP K l mX8_alike 1 20 n0 k0 (some (.int q.1)) q.2 5 [some (.ref l0), some (.int l1), some (.int l2), some (.int l3), some (.int l4)] [] w) {w : XW} {l0 : Nat} {l1 : Int32} {l2 : Int32} {l4 : Int32} {q : Int32 × XW} (h0 : bX8_alike_47 k w l0 l1 l2 l4 = some q) : WP K l mX8_alike 1 20 n0 k0 (some (.int q.1)) q.2 47 [some (.ref l0), some (.int l1), some (.int l2), none, some (.int l4)] [] w := by
  unfold bX8_alike_47 at h0
  refine wp_iconst (v := (0 : Int32)) dX8_alike_47 (by decide) ?_
  exact WP.wk (BX8_alike_48 hk0 h0) (And.intro rfl (And.intro rfl (And.intro rfl (And.intro rfl trivial))))
def hX8_alike_5 (k : KTX8_alike) (w : XW) (l0 : Nat) (l1 : Int32) (l2 : Int32) (l3 : Int32) (l4 : Int32) : Option (Int32 × XW) :=
  if (8 : Int32) ≤ l4 then
  if l3 &&& 1 = l3 then some (l3, w) else none
  else
  if l3 = 0 then
  bX8_alike_47 k w l0 l1 l2 l4
  else
  (gR w l0 8 19).bind fun x4 =>
  (aI w 0 x4 (((8 : Int32) * l1) + l4)).bind fun x7 =>
  (gR w l0 8 19).bind fun x10 =>
  (aI w 0 x10 (((8 : Int32) * l2) + l4)).bind fun x13 =>
  if x7 = x13 then
  bX8_alike_48 k w l0 l1 l2 l4 (1 : Int32)
  else
  bX8_alike_47 k w l0 l1 l2 l4
theorem HX8_alike_5 {K : CX} {l : Launch} {n0 k0 : Nat} {k : KTX8_alike} (hk0 : ∀ (w : XW) (l0 : Nat) (l1 : Int32) (l2 : Int32) (l3 : Int32) (l4 : Int32) (q : Int32 × XW), k w l0 l1 l2 l3 l4 = some q → WP K l mX8_alike 1 20 n0 k0 (some (.int q.1)) q.2 5 [some (.ref l0), some (.int l1), some (.int l2), some (.int l3), some (.int l4)] [] w) {w : XW} {l0 : Nat} {l1 : Int32} {l2 : Int32} {l3 : Int32} {l4 : Int32} {q : Int32 × XW} (h0 : hX8_alike_5 k w l0 l1 l2 l3 l4 = some q) : WP K l mX8_alike 1 20 n0 k0 (some (.int q.1)) q.2 5 [some (.ref l0), some (.int l1), some (.int l2), some (.int l3), some (.int l4)] [] w := by
  unfold hX8_alike_5 at h0
  refine wp_iload dX8_alike_5 rfl ?_
  refine wp_bipush (v := (8 : Int32)) dX8_alike_7 (by decide) ?_
  refine wp_icmp_ge (tgt := 55) dX8_alike_9 (by decide) (fun c1 => ?_) (fun c1 => ?_)
  · rw [if_pos c1] at h0
    refine wp_iload_n dX8_alike_55 rfl ?_
    have c2 : l3 &&& 1 = l3 := Decidable.byContradiction fun z => by rw [if_neg z] at h0; cases h0
    rw [if_pos c2] at h0
    cases h0
    exact wp_zret rfl (zb_n c2) dX8_alike_56
  · rw [if_neg c1] at h0
    refine wp_iload_n dX8_alike_12 rfl ?_
    refine wp_if_eq (tgt := 47) dX8_alike_13 (by decide) (fun c3 => ?_) (fun c3 => ?_)
    · rw [if_pos c3] at h0
      exact WP.wk (BX8_alike_47 hk0 h0) (And.intro rfl (And.intro rfl (And.intro rfl (And.intro rfl trivial))))
    · rw [if_neg c3] at h0
      refine wp_aload_n dX8_alike_16 rfl ?_
      obtain ⟨x4, e6, h5⟩ := Option.bind_eq_some_iff.mp h0
      clear h0
      refine wp_getR okX8 (k := 19) (by decide) tw724 dX8_alike_17 e6 ?_
      refine wp_bipush (v := (8 : Int32)) dX8_alike_20 (by decide) ?_
      refine wp_iload_n dX8_alike_22 rfl ?_
      refine wp_imul dX8_alike_23 ?_
      refine wp_iload dX8_alike_24 rfl ?_
      refine wp_iadd dX8_alike_26 ?_
      obtain ⟨x7, e9, h8⟩ := Option.bind_eq_some_iff.mp h5
      clear h5
      refine wp_iald dX8_alike_27 e9 ?_
      refine wp_aload_n dX8_alike_28 rfl ?_
      obtain ⟨x10, e12, h11⟩ := Option.bind_eq_some_iff.mp h8
      clear h8
      refine wp_getR okX8 (k := 19) (by decide) tw724 dX8_alike_29 e12 ?_
      refine wp_bipush (v := (8 : Int32)) dX8_alike_32 (by decide) ?_
      refine wp_iload_n dX8_alike_34 rfl ?_
      refine wp_imul dX8_alike_35 ?_
      refine wp_iload dX8_alike_36 rfl ?_
      refine wp_iadd dX8_alike_38 ?_
      obtain ⟨x13, e15, h14⟩ := Option.bind_eq_some_iff.mp h11
      clear h11
      refine wp_iald dX8_alike_39 e15 ?_
      refine wp_icmp_ne (tgt := 47) dX8_alike_40 (by decide) (fun c16 => ?_) (fun c16 => ?_)
      · rw [if_neg c16] at h14
        exact WP.wk (BX8_alike_47 hk0 h14) (And.intro rfl (And.intro rfl (And.intro rfl (And.intro rfl trivial))))
      · rw [if_pos c16] at h14
        refine wp_iconst (v := (1 : Int32)) dX8_alike_43 (by decide) ?_
        refine wp_goto (tgt := 48) dX8_alike_44 (by decide) ?_
        exact WP.wk (BX8_alike_48 hk0 h14) (And.intro rfl (And.intro rfl (And.intro rfl (And.intro rfl trivial))))
def eX8_alike (k : KTX8_alike) (w : XW) (l0 : Nat) (l1 : Int32) (l2 : Int32) : Option (Int32 × XW) :=
  k w l0 l1 l2 (1 : Int32) (0 : Int32)
theorem EX8_alike {K : CX} {l : Launch} {n0 k0 : Nat} {k : KTX8_alike} (hk0 : ∀ (w : XW) (l0 : Nat) (l1 : Int32) (l2 : Int32) (l3 : Int32) (l4 : Int32) (q : Int32 × XW), k w l0 l1 l2 l3 l4 = some q → WP K l mX8_alike 1 20 n0 k0 (some (.int q.1)) q.2 5 [some (.ref l0), some (.int l1), some (.int l2), some (.int l3), some (.int l4)] [] w) {w : XW} {l0 : Nat} {l1 : Int32} {l2 : Int32} {q : Int32 × XW} (h0 : eX8_alike k w l0 l1 l2 = some q) : WP K l mX8_alike 1 20 n0 k0 (some (.int q.1)) q.2 0 [some (.ref l0), some (.int l1), some (.int l2), none, none] [] w := by
  unfold eX8_alike at h0
  refine wp_iconst (v := (1 : Int32)) dX8_alike_0 (by decide) ?_
  refine wp_istore_n (L1 := [some (.ref l0), some (.int l1), some (.int l2), some (.int (1 : Int32)), none]) dX8_alike_1 (Nat.le_of_ble_eq_true rfl) rfl ?_
  refine wp_iconst (v := (0 : Int32)) dX8_alike_2 (by decide) ?_
  refine wp_istore (L1 := [some (.ref l0), some (.int l1), some (.int l2), some (.int (1 : Int32)), some (.int (0 : Int32))]) dX8_alike_3 (Nat.le_of_ble_eq_true rfl) rfl ?_
  exact WP.wk (hk0 _ _ _ _ _ _ _ h0) (And.intro rfl (And.intro rfl (And.intro rfl (And.intro rfl (And.intro rfl trivial)))))
def loX8_alike : Nat → KTX8_alike
  | 0 => fun _ _ _ _ _ _ => none
  | n + 1 => hX8_alike_5 (loX8_alike n)
theorem LOX8_alike {K : CX} {l : Launch} {n0 k0 : Nat} : ∀ n : Nat, (∀ (w : XW) (l0 : Nat) (l1 : Int32) (l2 : Int32) (l3 : Int32) (l4 : Int32) (q : Int32 × XW), (loX8_alike n) w l0 l1 l2 l3 l4 = some q → WP K l mX8_alike 1 20 n0 k0 (some (.int q.1)) q.2 5 [some (.ref l0), some (.int l1), some (.int l2), some (.int l3), some (.int l4)] [] w) := by
  intro n
  induction n with
  | zero => exact fun _ _ _ _ _ _ q h => (by cases h)
  | succ n ih => exact fun _ _ _ _ _ _ q h => HX8_alike_5 ih h
def fX8_alike (w : XW) (l0 : Nat) (l1 : Int32) (l2 : Int32) : Option (Int32 × XW) := if isO w l0 8 = true then eX8_alike (loX8_alike FU) w l0 l1 l2 else none
theorem OX8_alike {w : XW} {l0 : Nat} {l1 : Int32} {l2 : Int32} {q : Int32 × XW} (h : fX8_alike w l0 l1 l2 = some q) : isO w l0 8 = true := Decidable.byContradiction fun z => by unfold fX8_alike at h; rw [if_neg z] at h; cases h
theorem MX8_alike {K : CX} {l : Launch} {w : XW} {l0 : Nat} {l1 : Int32} {l2 : Int32} {q : Int32 × XW} (h : fX8_alike w l0 l1 l2 = some q) : MT K l mX8_alike 1 20 [.ref l0, .int l1, .int l2] w (some (.int q.1)) q.2 := by
  have z := OX8_alike h
  unfold fX8_alike at h
  rw [if_pos z] at h
  exact MT.of (by decide) (Nat.le_of_ble_eq_true rfl) rfl (EX8_alike (LOX8_alike FU) h)
/-! FractionRunModel.round(I)I: frames 8, words 182 -/
abbrev mX8_round : MR := (⟨"FractionRunModel", "round", "(I)I"⟩, prog_10_method_45_code, 4, (some .int))
theorem dX8_round_0 : decode prog_10_method_45_code 0 = .ok (.iload_n 1, 1) := by decide +kernel
theorem dX8_round_1 : decode prog_10_method_45_code 1 = .ok (.i2l, 1) := by decide +kernel
theorem dX8_round_2 : decode prog_10_method_45_code 2 = .ok (.lconst 0, 1) := by decide +kernel
theorem dX8_round_3 : decode prog_10_method_45_code 3 = .ok (.lconst 1, 1) := by decide +kernel
theorem dX8_round_4 : decode prog_10_method_45_code 4 = .ok (.invokestatic 88, 3) := by decide +kernel
theorem dX8_round_7 : decode prog_10_method_45_code 7 = .ok (.ifCond .ne 5, 3) := by decide +kernel
theorem dX8_round_10 : decode prog_10_method_45_code 10 = .ok (.iconst (-1), 1) := by decide +kernel
theorem dX8_round_11 : decode prog_10_method_45_code 11 = .ok (.ireturn, 1) := by decide +kernel
theorem dX8_round_12 : decode prog_10_method_45_code 12 = .ok (.aload_n 0, 1) := by decide +kernel
theorem dX8_round_13 : decode prog_10_method_45_code 13 = .ok (.invokevirtual 196, 3) := by decide +kernel
theorem dX8_round_16 : decode prog_10_method_45_code 16 = .ok (.ifCond .lt 6, 3) := by decide +kernel
theorem dX8_round_19 : decode prog_10_method_45_code 19 = .ok (.bipush (-4), 2) := by decide +kernel
theorem dX8_round_21 : decode prog_10_method_45_code 21 = .ok (.ireturn, 1) := by decide +kernel
theorem dX8_round_22 : decode prog_10_method_45_code 22 = .ok (.aload_n 0, 1) := by decide +kernel
theorem dX8_round_23 : decode prog_10_method_45_code 23 = .ok (.iconst 0, 1) := by decide +kernel
theorem dX8_round_24 : decode prog_10_method_45_code 24 = .ok (.sipush 198, 3) := by decide +kernel
theorem dX8_round_27 : decode prog_10_method_45_code 27 = .ok (.invokevirtual 155, 3) := by decide +kernel
theorem dX8_round_30 : decode prog_10_method_45_code 30 = .ok (.iconst 0, 1) := by decide +kernel
theorem dX8_round_31 : decode prog_10_method_45_code 31 = .ok (.istore_n 2, 1) := by decide +kernel
theorem dX8_round_32 : decode prog_10_method_45_code 32 = .ok (.iload_n 2, 1) := by decide +kernel
theorem dX8_round_33 : decode prog_10_method_45_code 33 = .ok (.sipush 200, 3) := by decide +kernel
theorem dX8_round_36 : decode prog_10_method_45_code 36 = .ok (.if_icmp .gt 94, 3) := by decide +kernel
theorem dX8_round_39 : decode prog_10_method_45_code 39 = .ok (.iconst 0, 1) := by decide +kernel
theorem dX8_round_40 : decode prog_10_method_45_code 40 = .ok (.istore_n 3, 1) := by decide +kernel
theorem dX8_round_41 : decode prog_10_method_45_code 41 = .ok (.iload_n 3, 1) := by decide +kernel
theorem dX8_round_42 : decode prog_10_method_45_code 42 = .ok (.bipush 6, 2) := by decide +kernel
theorem dX8_round_44 : decode prog_10_method_45_code 44 = .ok (.if_icmp .ge 30, 3) := by decide +kernel
theorem dX8_round_47 : decode prog_10_method_45_code 47 = .ok (.aload_n 0, 1) := by decide +kernel
theorem dX8_round_48 : decode prog_10_method_45_code 48 = .ok (.getfield 38, 3) := by decide +kernel
theorem dX8_round_51 : decode prog_10_method_45_code 51 = .ok (.bipush 8, 2) := by decide +kernel
theorem dX8_round_53 : decode prog_10_method_45_code 53 = .ok (.iload_n 2, 1) := by decide +kernel
theorem dX8_round_54 : decode prog_10_method_45_code 54 = .ok (.imul, 1) := by decide +kernel
theorem dX8_round_55 : decode prog_10_method_45_code 55 = .ok (.iload_n 3, 1) := by decide +kernel
theorem dX8_round_56 : decode prog_10_method_45_code 56 = .ok (.iadd, 1) := by decide +kernel
theorem dX8_round_57 : decode prog_10_method_45_code 57 = .ok (.aload_n 0, 1) := by decide +kernel
theorem dX8_round_58 : decode prog_10_method_45_code 58 = .ok (.getfield 25, 3) := by decide +kernel
theorem dX8_round_61 : decode prog_10_method_45_code 61 = .ok (.sipush 198, 3) := by decide +kernel
theorem dX8_round_64 : decode prog_10_method_45_code 64 = .ok (.iload_n 3, 1) := by decide +kernel
theorem dX8_round_65 : decode prog_10_method_45_code 65 = .ok (.iadd, 1) := by decide +kernel
theorem dX8_round_66 : decode prog_10_method_45_code 66 = .ok (.iaload, 1) := by decide +kernel
theorem dX8_round_67 : decode prog_10_method_45_code 67 = .ok (.iastore, 1) := by decide +kernel
theorem dX8_round_68 : decode prog_10_method_45_code 68 = .ok (.iinc 3 1, 3) := by decide +kernel
theorem dX8_round_71 : decode prog_10_method_45_code 71 = .ok (.goto (-30), 3) := by decide +kernel
theorem dX8_round_74 : decode prog_10_method_45_code 74 = .ok (.aload_n 0, 1) := by decide +kernel
theorem dX8_round_75 : decode prog_10_method_45_code 75 = .ok (.getfield 38, 3) := by decide +kernel
theorem dX8_round_78 : decode prog_10_method_45_code 78 = .ok (.bipush 8, 2) := by decide +kernel
theorem dX8_round_80 : decode prog_10_method_45_code 80 = .ok (.iload_n 2, 1) := by decide +kernel
theorem dX8_round_81 : decode prog_10_method_45_code 81 = .ok (.imul, 1) := by decide +kernel
theorem dX8_round_82 : decode prog_10_method_45_code 82 = .ok (.bipush 6, 2) := by decide +kernel
theorem dX8_round_84 : decode prog_10_method_45_code 84 = .ok (.iadd, 1) := by decide +kernel
theorem dX8_round_85 : decode prog_10_method_45_code 85 = .ok (.aload_n 0, 1) := by decide +kernel
theorem dX8_round_86 : decode prog_10_method_45_code 86 = .ok (.getfield 25, 3) := by decide +kernel
theorem dX8_round_89 : decode prog_10_method_45_code 89 = .ok (.sipush 213, 3) := by decide +kernel
theorem dX8_round_92 : decode prog_10_method_45_code 92 = .ok (.iaload, 1) := by decide +kernel
theorem dX8_round_93 : decode prog_10_method_45_code 93 = .ok (.iastore, 1) := by decide +kernel
theorem dX8_round_94 : decode prog_10_method_45_code 94 = .ok (.aload_n 0, 1) := by decide +kernel
theorem dX8_round_95 : decode prog_10_method_45_code 95 = .ok (.getfield 38, 3) := by decide +kernel
theorem dX8_round_98 : decode prog_10_method_45_code 98 = .ok (.bipush 8, 2) := by decide +kernel
theorem dX8_round_100 : decode prog_10_method_45_code 100 = .ok (.iload_n 2, 1) := by decide +kernel
theorem dX8_round_101 : decode prog_10_method_45_code 101 = .ok (.imul, 1) := by decide +kernel
theorem dX8_round_102 : decode prog_10_method_45_code 102 = .ok (.bipush 7, 2) := by decide +kernel
theorem dX8_round_104 : decode prog_10_method_45_code 104 = .ok (.iadd, 1) := by decide +kernel
theorem dX8_round_105 : decode prog_10_method_45_code 105 = .ok (.aload_n 0, 1) := by decide +kernel
theorem dX8_round_106 : decode prog_10_method_45_code 106 = .ok (.getfield 25, 3) := by decide +kernel
theorem dX8_round_109 : decode prog_10_method_45_code 109 = .ok (.sipush 214, 3) := by decide +kernel
theorem dX8_round_112 : decode prog_10_method_45_code 112 = .ok (.iaload, 1) := by decide +kernel
theorem dX8_round_113 : decode prog_10_method_45_code 113 = .ok (.iconst 2, 1) := by decide +kernel
theorem dX8_round_114 : decode prog_10_method_45_code 114 = .ok (.irem, 1) := by decide +kernel
theorem dX8_round_115 : decode prog_10_method_45_code 115 = .ok (.iastore, 1) := by decide +kernel
theorem dX8_round_116 : decode prog_10_method_45_code 116 = .ok (.aload_n 0, 1) := by decide +kernel
theorem dX8_round_117 : decode prog_10_method_45_code 117 = .ok (.sipush 198, 3) := by decide +kernel
theorem dX8_round_120 : decode prog_10_method_45_code 120 = .ok (.invokevirtual 175, 3) := by decide +kernel
theorem dX8_round_123 : decode prog_10_method_45_code 123 = .ok (.pop, 1) := by decide +kernel
theorem dX8_round_124 : decode prog_10_method_45_code 124 = .ok (.iinc 2 1, 3) := by decide +kernel
theorem dX8_round_127 : decode prog_10_method_45_code 127 = .ok (.goto (-95), 3) := by decide +kernel
theorem dX8_round_130 : decode prog_10_method_45_code 130 = .ok (.iconst 0, 1) := by decide +kernel
theorem dX8_round_131 : decode prog_10_method_45_code 131 = .ok (.istore_n 2, 1) := by decide +kernel
theorem dX8_round_132 : decode prog_10_method_45_code 132 = .ok (.iload_n 2, 1) := by decide +kernel
theorem dX8_round_133 : decode prog_10_method_45_code 133 = .ok (.sipush 200, 3) := by decide +kernel
theorem dX8_round_136 : decode prog_10_method_45_code 136 = .ok (.if_icmp .ge 47, 3) := by decide +kernel
theorem dX8_round_139 : decode prog_10_method_45_code 139 = .ok (.iload_n 2, 1) := by decide +kernel
theorem dX8_round_140 : decode prog_10_method_45_code 140 = .ok (.iconst 1, 1) := by decide +kernel
theorem dX8_round_141 : decode prog_10_method_45_code 141 = .ok (.iadd, 1) := by decide +kernel
theorem dX8_round_142 : decode prog_10_method_45_code 142 = .ok (.istore_n 3, 1) := by decide +kernel
theorem dX8_round_143 : decode prog_10_method_45_code 143 = .ok (.iload_n 3, 1) := by decide +kernel
theorem dX8_round_144 : decode prog_10_method_45_code 144 = .ok (.sipush 200, 3) := by decide +kernel
theorem dX8_round_147 : decode prog_10_method_45_code 147 = .ok (.if_icmp .gt 30, 3) := by decide +kernel
theorem dX8_round_150 : decode prog_10_method_45_code 150 = .ok (.aload_n 0, 1) := by decide +kernel
theorem dX8_round_151 : decode prog_10_method_45_code 151 = .ok (.iload_n 2, 1) := by decide +kernel
theorem dX8_round_152 : decode prog_10_method_45_code 152 = .ok (.iload_n 3, 1) := by decide +kernel
theorem dX8_round_153 : decode prog_10_method_45_code 153 = .ok (.invokevirtual 200, 3) := by decide +kernel
theorem dX8_round_156 : decode prog_10_method_45_code 156 = .ok (.ifCond .eq 15, 3) := by decide +kernel
theorem dX8_round_159 : decode prog_10_method_45_code 159 = .ok (.iload_n 1, 1) := by decide +kernel
theorem dX8_round_160 : decode prog_10_method_45_code 160 = .ok (.ifCond .ne 7, 3) := by decide +kernel
theorem dX8_round_163 : decode prog_10_method_45_code 163 = .ok (.iload_n 2, 1) := by decide +kernel
theorem dX8_round_164 : decode prog_10_method_45_code 164 = .ok (.goto 6, 3) := by decide +kernel
theorem dX8_round_167 : decode prog_10_method_45_code 167 = .ok (.iload_n 3, 1) := by decide +kernel
theorem dX8_round_168 : decode prog_10_method_45_code 168 = .ok (.iload_n 2, 1) := by decide +kernel
theorem dX8_round_169 : decode prog_10_method_45_code 169 = .ok (.isub, 1) := by decide +kernel
theorem dX8_round_170 : decode prog_10_method_45_code 170 = .ok (.ireturn, 1) := by decide +kernel
theorem dX8_round_171 : decode prog_10_method_45_code 171 = .ok (.iinc 3 1, 3) := by decide +kernel
theorem dX8_round_174 : decode prog_10_method_45_code 174 = .ok (.goto (-31), 3) := by decide +kernel
theorem dX8_round_177 : decode prog_10_method_45_code 177 = .ok (.iinc 2 1, 3) := by decide +kernel
theorem dX8_round_180 : decode prog_10_method_45_code 180 = .ok (.goto (-48), 3) := by decide +kernel
theorem dX8_round_183 : decode prog_10_method_45_code 183 = .ok (.bipush (-4), 2) := by decide +kernel
theorem dX8_round_185 : decode prog_10_method_45_code 185 = .ok (.ireturn, 1) := by decide +kernel
theorem okM_X8_round : okM mX8_round 1 := ⟨tw937, tw15, by decide, by decide, by decide +kernel⟩
abbrev KTX8_round : Type := (XW → Nat → Int32 → Int32 → Option (Int32 × XW)) × (XW → Nat → Int32 → Int32 → Int32 → Option (Int32 × XW)) × (XW → Nat → Int32 → Int32 → Option (Int32 × XW)) × (XW → Nat → Int32 → Int32 → Int32 → Option (Int32 × XW))
def bX8_round_170 (k : KTX8_round) (w : XW) (s0 : Int32) : Option (Int32 × XW) :=
  some (s0, w)
theorem BX8_round_170 {K : CX} {l : Launch} {n0 k0 : Nat} {k : KTX8_round} (hk0 : ∀ (w : XW) (l0 : Nat) (l1 : Int32) (l2 : Int32) (q : Int32 × XW), k.1 w l0 l1 l2 = some q → WP K l mX8_round 8 182 n0 k0 (some (.int q.1)) q.2 32 [some (.ref l0), some (.int l1), some (.int l2), none] [] w) (hk1 : ∀ (w : XW) (l0 : Nat) (l1 : Int32) (l2 : Int32) (l3 : Int32) (q : Int32 × XW), k.2.1 w l0 l1 l2 l3 = some q → WP K l mX8_round 8 182 n0 k0 (some (.int q.1)) q.2 41 [some (.ref l0), some (.int l1), some (.int l2), some (.int l3)] [] w) (hk2 : ∀ (w : XW) (l0 : Nat) (l1 : Int32) (l2 : Int32) (q : Int32 × XW), k.2.2.1 w l0 l1 l2 = some q → WP K l mX8_round 8 182 n0 k0 (some (.int q.1)) q.2 132 [some (.ref l0), some (.int l1), some (.int l2), none] [] w) (hk3 : ∀ (w : XW) (l0 : Nat) (l1 : Int32) (l2 : Int32) (l3 : Int32) (q : Int32 × XW), k.2.2.2 w l0 l1 l2 l3 = some q → WP K l mX8_round 8 182 n0 k0 (some (.int q.1)) q.2 143 [some (.ref l0), some (.int l1), some (.int l2), some (.int l3)] [] w) {w : XW} {s0 : Int32} {q : Int32 × XW} (h0 : bX8_round_170 k w s0 = some q) : WP K l mX8_round 8 182 n0 k0 (some (.int q.1)) q.2 170 [none, none, none, none] [.int s0] w := by
  unfold bX8_round_170 at h0
  cases h0
  exact wp_iret rfl dX8_round_170
def hX8_round_143 (k : KTX8_round) (w : XW) (l0 : Nat) (l1 : Int32) (l2 : Int32) (l3 : Int32) : Option (Int32 × XW) :=
  if (200 : Int32) < l3 then
  k.2.2.1 w l0 l1 (l2 + (1 : Int32))
  else
  (fX8_alike w l0 l2 l3).bind fun q2 =>
  if q2.1 = 0 then
  k.2.2.2 q2.2 l0 l1 l2 (l3 + (1 : Int32))
  else
  if l1 = 0 then
  bX8_round_170 k q2.2 l2
  else
  bX8_round_170 k q2.2 (l3 - l2)
theorem HX8_round_143 {K : CX} {l : Launch} {n0 k0 : Nat} {k : KTX8_round} (hk0 : ∀ (w : XW) (l0 : Nat) (l1 : Int32) (l2 : Int32) (q : Int32 × XW), k.1 w l0 l1 l2 = some q → WP K l mX8_round 8 182 n0 k0 (some (.int q.1)) q.2 32 [some (.ref l0), some (.int l1), some (.int l2), none] [] w) (hk1 : ∀ (w : XW) (l0 : Nat) (l1 : Int32) (l2 : Int32) (l3 : Int32) (q : Int32 × XW), k.2.1 w l0 l1 l2 l3 = some q → WP K l mX8_round 8 182 n0 k0 (some (.int q.1)) q.2 41 [some (.ref l0), some (.int l1), some (.int l2), some (.int l3)] [] w) (hk2 : ∀ (w : XW) (l0 : Nat) (l1 : Int32) (l2 : Int32) (q : Int32 × XW), k.2.2.1 w l0 l1 l2 = some q → WP K l mX8_round 8 182 n0 k0 (some (.int q.1)) q.2 132 [some (.ref l0), some (.int l1), some (.int l2), none] [] w) (hk3 : ∀ (w : XW) (l0 : Nat) (l1 : Int32) (l2 : Int32) (l3 : Int32) (q : Int32 × XW), k.2.2.2 w l0 l1 l2 l3 = some q → WP K l mX8_round 8 182 n0 k0 (some (.int q.1)) q.2 143 [some (.ref l0), some (.int l1), some (.int l2), some (.int l3)] [] w) {w : XW} {l0 : Nat} {l1 : Int32} {l2 : Int32} {l3 : Int32} {q : Int32 × XW} (h0 : hX8_round_143 k w l0 l1 l2 l3 = some q) : WP K l mX8_round 8 182 n0 k0 (some (.int q.1)) q.2 143 [some (.ref l0), some (.int l1), some (.int l2), some (.int l3)] [] w := by
  unfold hX8_round_143 at h0
  refine wp_iload_n dX8_round_143 rfl ?_
  refine wp_sipush (v := (200 : Int32)) dX8_round_144 (by decide) ?_
  refine wp_icmp_gt (tgt := 177) dX8_round_147 (by decide) (fun c1 => ?_) (fun c1 => ?_)
  · rw [if_pos c1] at h0
    refine wp_iinc (v := (l2 + (1 : Int32))) (L1 := [some (.ref l0), some (.int l1), some (.int (l2 + (1 : Int32))), some (.int l3)]) dX8_round_177 (Nat.le_of_ble_eq_true rfl) rfl (congrArg (fun z => l2 + z) (by decide)) rfl ?_
    refine wp_goto (tgt := 132) dX8_round_180 (by decide) ?_
    exact WP.wk (hk2 _ _ _ _ _ h0) (And.intro rfl (And.intro rfl (And.intro rfl trivial)))
  · rw [if_neg c1] at h0
    refine wp_aload_n dX8_round_150 rfl ?_
    refine wp_iload_n dX8_round_151 rfl ?_
    refine wp_iload_n dX8_round_152 rfl ?_
    obtain ⟨q2, e4, h3⟩ := Option.bind_eq_some_iff.mp h0
    clear h0
    refine wp_Vi (As := [.int l2, .int l3]) (S := []) okM_X8_alike tw941 twP_X8_alike tw939 (OX8_alike e4) rfl rfl rfl ⟨(Nat.le_of_ble_eq_true rfl), (Nat.le_of_ble_eq_true rfl)⟩ (Nat.le_of_ble_eq_true rfl) rfl dX8_round_153 (MX8_alike e4) ?_
    refine wp_if_eq (tgt := 171) dX8_round_156 (by decide) (fun c5 => ?_) (fun c5 => ?_)
    · rw [if_pos c5] at h3
      refine wp_iinc (v := (l3 + (1 : Int32))) (L1 := [some (.ref l0), some (.int l1), some (.int l2), some (.int (l3 + (1 : Int32)))]) dX8_round_171 (Nat.le_of_ble_eq_true rfl) rfl (congrArg (fun z => l3 + z) (by decide)) rfl ?_
      refine wp_goto (tgt := 143) dX8_round_174 (by decide) ?_
      exact WP.wk (hk3 _ _ _ _ _ _ h3) (And.intro rfl (And.intro rfl (And.intro rfl (And.intro rfl trivial))))
    · rw [if_neg c5] at h3
      refine wp_iload_n dX8_round_159 rfl ?_
      refine wp_if_ne (tgt := 167) dX8_round_160 (by decide) (fun c6 => ?_) (fun c6 => ?_)
      · rw [if_neg c6] at h3
        refine wp_iload_n dX8_round_167 rfl ?_
        refine wp_iload_n dX8_round_168 rfl ?_
        refine wp_isub dX8_round_169 ?_
        exact WP.wk (BX8_round_170 hk0 hk1 hk2 hk3 h3) trivial
      · rw [if_pos c6] at h3
        refine wp_iload_n dX8_round_163 rfl ?_
        refine wp_goto (tgt := 170) dX8_round_164 (by decide) ?_
        exact WP.wk (BX8_round_170 hk0 hk1 hk2 hk3 h3) trivial
def hX8_round_132 (k : KTX8_round) (w : XW) (l0 : Nat) (l1 : Int32) (l2 : Int32) : Option (Int32 × XW) :=
  if (200 : Int32) ≤ l2 then
  some ((-4 : Int32), w)
  else
  k.2.2.2 w l0 l1 l2 (l2 + (1 : Int32))
theorem HX8_round_132 {K : CX} {l : Launch} {n0 k0 : Nat} {k : KTX8_round} (hk0 : ∀ (w : XW) (l0 : Nat) (l1 : Int32) (l2 : Int32) (q : Int32 × XW), k.1 w l0 l1 l2 = some q → WP K l mX8_round 8 182 n0 k0 (some (.int q.1)) q.2 32 [some (.ref l0), some (.int l1), some (.int l2), none] [] w) (hk1 : ∀ (w : XW) (l0 : Nat) (l1 : Int32) (l2 : Int32) (l3 : Int32) (q : Int32 × XW), k.2.1 w l0 l1 l2 l3 = some q → WP K l mX8_round 8 182 n0 k0 (some (.int q.1)) q.2 41 [some (.ref l0), some (.int l1), some (.int l2), some (.int l3)] [] w) (hk2 : ∀ (w : XW) (l0 : Nat) (l1 : Int32) (l2 : Int32) (q : Int32 × XW), k.2.2.1 w l0 l1 l2 = some q → WP K l mX8_round 8 182 n0 k0 (some (.int q.1)) q.2 132 [some (.ref l0), some (.int l1), some (.int l2), none] [] w) (hk3 : ∀ (w : XW) (l0 : Nat) (l1 : Int32) (l2 : Int32) (l3 : Int32) (q : Int32 × XW), k.2.2.2 w l0 l1 l2 l3 = some q → WP K l mX8_round 8 182 n0 k0 (some (.int q.1)) q.2 143 [some (.ref l0), some (.int l1), some (.int l2), some (.int l3)] [] w) {w : XW} {l0 : Nat} {l1 : Int32} {l2 : Int32} {q : Int32 × XW} (h0 : hX8_round_132 k w l0 l1 l2 = some q) : WP K l mX8_round 8 182 n0 k0 (some (.int q.1)) q.2 132 [some (.ref l0), some (.int l1), some (.int l2), none] [] w := by
  unfold hX8_round_132 at h0
  refine wp_iload_n dX8_round_132 rfl ?_
  refine wp_sipush (v := (200 : Int32)) dX8_round_133 (by decide) ?_
  refine wp_icmp_ge (tgt := 183) dX8_round_136 (by decide) (fun c1 => ?_) (fun c1 => ?_)
  · rw [if_pos c1] at h0
    refine wp_bipush (v := (-4 : Int32)) dX8_round_183 (by decide) ?_
    cases h0
    exact wp_iret rfl dX8_round_185
  · rw [if_neg c1] at h0
    refine wp_iload_n dX8_round_139 rfl ?_
    refine wp_iconst (v := (1 : Int32)) dX8_round_140 (by decide) ?_
    refine wp_iadd dX8_round_141 ?_
    refine wp_istore_n (L1 := [some (.ref l0), some (.int l1), some (.int l2), some (.int (l2 + (1 : Int32)))]) dX8_round_142 (Nat.le_of_ble_eq_true rfl) rfl ?_
    exact WP.wk (hk3 _ _ _ _ _ _ h0) (And.intro rfl (And.intro rfl (And.intro rfl (And.intro rfl trivial))))
def hX8_round_41 (k : KTX8_round) (w : XW) (l0 : Nat) (l1 : Int32) (l2 : Int32) (l3 : Int32) : Option (Int32 × XW) :=
  if (6 : Int32) ≤ l3 then
  (gR w l0 8 19).bind fun x2 =>
  (gR w l0 8 7).bind fun x5 =>
  (aI w 0 x5 (213 : Int32)).bind fun x8 =>
  (sI w 0 x2 (((8 : Int32) * l2) + (6 : Int32)) x8).bind fun w11 =>
  (gR w11 l0 8 19).bind fun x14 =>
  (gR w11 l0 8 7).bind fun x17 =>
  (aI w11 0 x17 (214 : Int32)).bind fun x20 =>
  (sI w11 0 x14 (((8 : Int32) * l2) + (7 : Int32)) (irm x20 (2 : Int32))).bind fun w23 =>
  (fX8_step w23 l0 (198 : Int32)).bind fun q26 =>
  k.1 q26.2 l0 l1 (l2 + (1 : Int32))
  else
  (gR w l0 8 19).bind fun x29 =>
  (gR w l0 8 7).bind fun x32 =>
  (aI w 0 x32 ((198 : Int32) + l3)).bind fun x35 =>
  (sI w 0 x29 (((8 : Int32) * l2) + l3) x35).bind fun w38 =>
  k.2.1 w38 l0 l1 l2 (l3 + (1 : Int32))
theorem HX8_round_41 {K : CX} {l : Launch} {n0 k0 : Nat} {k : KTX8_round} (hk0 : ∀ (w : XW) (l0 : Nat) (l1 : Int32) (l2 : Int32) (q : Int32 × XW), k.1 w l0 l1 l2 = some q → WP K l mX8_round 8 182 n0 k0 (some (.int q.1)) q.2 32 [some (.ref l0), some (.int l1), some (.int l2), none] [] w) (hk1 : ∀ (w : XW) (l0 : Nat) (l1 : Int32) (l2 : Int32) (l3 : Int32) (q : Int32 × XW), k.2.1 w l0 l1 l2 l3 = some q → WP K l mX8_round 8 182 n0 k0 (some (.int q.1)) q.2 41 [some (.ref l0), some (.int l1), some (.int l2), some (.int l3)] [] w) (hk2 : ∀ (w : XW) (l0 : Nat) (l1 : Int32) (l2 : Int32) (q : Int32 × XW), k.2.2.1 w l0 l1 l2 = some q → WP K l mX8_round 8 182 n0 k0 (some (.int q.1)) q.2 132 [some (.ref l0), some (.int l1), some (.int l2), none] [] w) (hk3 : ∀ (w : XW) (l0 : Nat) (l1 : Int32) (l2 : Int32) (l3 : Int32) (q : Int32 × XW), k.2.2.2 w l0 l1 l2 l3 = some q → WP K l mX8_round 8 182 n0 k0 (some (.int q.1)) q.2 143 [some (.ref l0), some (.int l1), some (.int l2), some (.int l3)] [] w) {w : XW} {l0 : Nat} {l1 : Int32} {l2 : Int32} {l3 : Int32} {q : Int32 × XW} (h0 : hX8_round_41 k w l0 l1 l2 l3 = some q) : WP K l mX8_round 8 182 n0 k0 (some (.int q.1)) q.2 41 [some (.ref l0), some (.int l1), some (.int l2), some (.int l3)] [] w := by
  unfold hX8_round_41 at h0
  refine wp_iload_n dX8_round_41 rfl ?_
  refine wp_bipush (v := (6 : Int32)) dX8_round_42 (by decide) ?_
  refine wp_icmp_ge (tgt := 74) dX8_round_44 (by decide) (fun c1 => ?_) (fun c1 => ?_)
  · rw [if_pos c1] at h0
    refine wp_aload_n dX8_round_74 rfl ?_
    obtain ⟨x2, e4, h3⟩ := Option.bind_eq_some_iff.mp h0
    clear h0
    refine wp_getR okX8 (k := 19) (by decide) tw724 dX8_round_75 e4 ?_
    refine wp_bipush (v := (8 : Int32)) dX8_round_78 (by decide) ?_
    refine wp_iload_n dX8_round_80 rfl ?_
    refine wp_imul dX8_round_81 ?_
    refine wp_bipush (v := (6 : Int32)) dX8_round_82 (by decide) ?_
    refine wp_iadd dX8_round_84 ?_
    refine wp_aload_n dX8_round_85 rfl ?_
    obtain ⟨x5, e7, h6⟩ := Option.bind_eq_some_iff.mp h3
    clear h3
    refine wp_getR okX8 (k := 7) (by decide) tw712 dX8_round_86 e7 ?_
    refine wp_sipush (v := (213 : Int32)) dX8_round_89 (by decide) ?_
    obtain ⟨x8, e10, h9⟩ := Option.bind_eq_some_iff.mp h6
    clear h6
    refine wp_iald dX8_round_92 e10 ?_
    obtain ⟨w11, e13, h12⟩ := Option.bind_eq_some_iff.mp h9
    clear h9
    refine wp_iast dX8_round_93 e13 ?_
    refine wp_aload_n dX8_round_94 rfl ?_
    obtain ⟨x14, e16, h15⟩ := Option.bind_eq_some_iff.mp h12
    clear h12
    refine wp_getR okX8 (k := 19) (by decide) tw724 dX8_round_95 e16 ?_
    refine wp_bipush (v := (8 : Int32)) dX8_round_98 (by decide) ?_
    refine wp_iload_n dX8_round_100 rfl ?_
    refine wp_imul dX8_round_101 ?_
    refine wp_bipush (v := (7 : Int32)) dX8_round_102 (by decide) ?_
    refine wp_iadd dX8_round_104 ?_
    refine wp_aload_n dX8_round_105 rfl ?_
    obtain ⟨x17, e19, h18⟩ := Option.bind_eq_some_iff.mp h15
    clear h15
    refine wp_getR okX8 (k := 7) (by decide) tw712 dX8_round_106 e19 ?_
    refine wp_sipush (v := (214 : Int32)) dX8_round_109 (by decide) ?_
    obtain ⟨x20, e22, h21⟩ := Option.bind_eq_some_iff.mp h18
    clear h18
    refine wp_iald dX8_round_112 e22 ?_
    refine wp_iconst (v := (2 : Int32)) dX8_round_113 (by decide) ?_
    refine wp_irm dX8_round_114 (by decide) ?_
    obtain ⟨w23, e25, h24⟩ := Option.bind_eq_some_iff.mp h21
    clear h21
    refine wp_iast dX8_round_115 e25 ?_
    refine wp_aload_n dX8_round_116 rfl ?_
    refine wp_sipush (v := (198 : Int32)) dX8_round_117 (by decide) ?_
    obtain ⟨q26, e28, h27⟩ := Option.bind_eq_some_iff.mp h24
    clear h24
    refine wp_Vi (As := [.int (198 : Int32)]) (S := []) okM_X8_step tw881 twP_X8_step tw879 (OX8_step e28) rfl rfl rfl ⟨(Nat.le_of_ble_eq_true rfl), (Nat.le_of_ble_eq_true rfl)⟩ (Nat.le_of_ble_eq_true rfl) rfl dX8_round_120 (MX8_step e28) ?_
    refine wp_pop dX8_round_123 rfl ?_
    refine wp_iinc (v := (l2 + (1 : Int32))) (L1 := [some (.ref l0), some (.int l1), some (.int (l2 + (1 : Int32))), some (.int l3)]) dX8_round_124 (Nat.le_of_ble_eq_true rfl) rfl (congrArg (fun z => l2 + z) (by decide)) rfl ?_
    refine wp_goto (tgt := 32) dX8_round_127 (by decide) ?_
    exact WP.wk (hk0 _ _ _ _ _ h27) (And.intro rfl (And.intro rfl (And.intro rfl trivial)))
  · rw [if_neg c1] at h0
    refine wp_aload_n dX8_round_47 rfl ?_
    obtain ⟨x29, e31, h30⟩ := Option.bind_eq_some_iff.mp h0
    clear h0
    refine wp_getR okX8 (k := 19) (by decide) tw724 dX8_round_48 e31 ?_
    refine wp_bipush (v := (8 : Int32)) dX8_round_51 (by decide) ?_
    refine wp_iload_n dX8_round_53 rfl ?_
    refine wp_imul dX8_round_54 ?_
    refine wp_iload_n dX8_round_55 rfl ?_
    refine wp_iadd dX8_round_56 ?_
    refine wp_aload_n dX8_round_57 rfl ?_
    obtain ⟨x32, e34, h33⟩ := Option.bind_eq_some_iff.mp h30
    clear h30
    refine wp_getR okX8 (k := 7) (by decide) tw712 dX8_round_58 e34 ?_
    refine wp_sipush (v := (198 : Int32)) dX8_round_61 (by decide) ?_
    refine wp_iload_n dX8_round_64 rfl ?_
    refine wp_iadd dX8_round_65 ?_
    obtain ⟨x35, e37, h36⟩ := Option.bind_eq_some_iff.mp h33
    clear h33
    refine wp_iald dX8_round_66 e37 ?_
    obtain ⟨w38, e40, h39⟩ := Option.bind_eq_some_iff.mp h36
    clear h36
    refine wp_iast dX8_round_67 e40 ?_
    refine wp_iinc (v := (l3 + (1 : Int32))) (L1 := [some (.ref l0), some (.int l1), some (.int l2), some (.int (l3 + (1 : Int32)))]) dX8_round_68 (Nat.le_of_ble_eq_true rfl) rfl (congrArg (fun z => l3 + z) (by decide)) rfl ?_
    refine wp_goto (tgt := 41) dX8_round_71 (by decide) ?_
    exact WP.wk (hk1 _ _ _ _ _ _ h39) (And.intro rfl (And.intro rfl (And.intro rfl (And.intro rfl trivial))))
def hX8_round_32 (k : KTX8_round) (w : XW) (l0 : Nat) (l1 : Int32) (l2 : Int32) : Option (Int32 × XW) :=
  if (200 : Int32) < l2 then
  k.2.2.1 w l0 l1 (0 : Int32)
  else
  k.2.1 w l0 l1 l2 (0 : Int32)
theorem HX8_round_32 {K : CX} {l : Launch} {n0 k0 : Nat} {k : KTX8_round} (hk0 : ∀ (w : XW) (l0 : Nat) (l1 : Int32) (l2 : Int32) (q : Int32 × XW), k.1 w l0 l1 l2 = some q → WP K l mX8_round 8 182 n0 k0 (some (.int q.1)) q.2 32 [some (.ref l0), some (.int l1), some (.int l2), none] [] w) (hk1 : ∀ (w : XW) (l0 : Nat) (l1 : Int32) (l2 : Int32) (l3 : Int32) (q : Int32 × XW), k.2.1 w l0 l1 l2 l3 = some q → WP K l mX8_round 8 182 n0 k0 (some (.int q.1)) q.2 41 [some (.ref l0), some (.int l1), some (.int l2), some (.int l3)] [] w) (hk2 : ∀ (w : XW) (l0 : Nat) (l1 : Int32) (l2 : Int32) (q : Int32 × XW), k.2.2.1 w l0 l1 l2 = some q → WP K l mX8_round 8 182 n0 k0 (some (.int q.1)) q.2 132 [some (.ref l0), some (.int l1), some (.int l2), none] [] w) (hk3 : ∀ (w : XW) (l0 : Nat) (l1 : Int32) (l2 : Int32) (l3 : Int32) (q : Int32 × XW), k.2.2.2 w l0 l1 l2 l3 = some q → WP K l mX8_round 8 182 n0 k0 (some (.int q.1)) q.2 143 [some (.ref l0), some (.int l1), some (.int l2), some (.int l3)] [] w) {w : XW} {l0 : Nat} {l1 : Int32} {l2 : Int32} {q : Int32 × XW} (h0 : hX8_round_32 k w l0 l1 l2 = some q) : WP K l mX8_round 8 182 n0 k0 (some (.int q.1)) q.2 32 [some (.ref l0), some (.int l1), some (.int l2), none] [] w := by
  unfold hX8_round_32 at h0
  refine wp_iload_n dX8_round_32 rfl ?_
  refine wp_sipush (v := (200 : Int32)) dX8_round_33 (by decide) ?_
  refine wp_icmp_gt (tgt := 130) dX8_round_36 (by decide) (fun c1 => ?_) (fun c1 => ?_)
  · rw [if_pos c1] at h0
    refine wp_iconst (v := (0 : Int32)) dX8_round_130 (by decide) ?_
    refine wp_istore_n (L1 := [some (.ref l0), some (.int l1), some (.int (0 : Int32)), none]) dX8_round_131 (Nat.le_of_ble_eq_true rfl) rfl ?_
    exact WP.wk (hk2 _ _ _ _ _ h0) (And.intro rfl (And.intro rfl (And.intro rfl trivial)))
  · rw [if_neg c1] at h0
    refine wp_iconst (v := (0 : Int32)) dX8_round_39 (by decide) ?_
    refine wp_istore_n (L1 := [some (.ref l0), some (.int l1), some (.int l2), some (.int (0 : Int32))]) dX8_round_40 (Nat.le_of_ble_eq_true rfl) rfl ?_
    exact WP.wk (hk1 _ _ _ _ _ _ h0) (And.intro rfl (And.intro rfl (And.intro rfl (And.intro rfl trivial))))
def eX8_round (k : KTX8_round) (w : XW) (l0 : Nat) (l1 : Int32) : Option (Int32 × XW) :=
  (fX8_in w (l1.toInt64) (0 : Int64) (1 : Int64)).bind fun q1 =>
  if q1.1 = 0 then
  some ((-1 : Int32), q1.2)
  else
  (fX8_rests q1.2 l0).bind fun q5 =>
  if q5.1 < 0 then
  (fX8_copies q5.2 l0 (0 : Int32) (198 : Int32)).bind fun q9 =>
  k.1 q9 l0 l1 (0 : Int32)
  else
  some ((-4 : Int32), q5.2)
theorem EX8_round {K : CX} {l : Launch} {n0 k0 : Nat} {k : KTX8_round} (hk0 : ∀ (w : XW) (l0 : Nat) (l1 : Int32) (l2 : Int32) (q : Int32 × XW), k.1 w l0 l1 l2 = some q → WP K l mX8_round 8 182 n0 k0 (some (.int q.1)) q.2 32 [some (.ref l0), some (.int l1), some (.int l2), none] [] w) (hk1 : ∀ (w : XW) (l0 : Nat) (l1 : Int32) (l2 : Int32) (l3 : Int32) (q : Int32 × XW), k.2.1 w l0 l1 l2 l3 = some q → WP K l mX8_round 8 182 n0 k0 (some (.int q.1)) q.2 41 [some (.ref l0), some (.int l1), some (.int l2), some (.int l3)] [] w) (hk2 : ∀ (w : XW) (l0 : Nat) (l1 : Int32) (l2 : Int32) (q : Int32 × XW), k.2.2.1 w l0 l1 l2 = some q → WP K l mX8_round 8 182 n0 k0 (some (.int q.1)) q.2 132 [some (.ref l0), some (.int l1), some (.int l2), none] [] w) (hk3 : ∀ (w : XW) (l0 : Nat) (l1 : Int32) (l2 : Int32) (l3 : Int32) (q : Int32 × XW), k.2.2.2 w l0 l1 l2 l3 = some q → WP K l mX8_round 8 182 n0 k0 (some (.int q.1)) q.2 143 [some (.ref l0), some (.int l1), some (.int l2), some (.int l3)] [] w) {w : XW} {l0 : Nat} {l1 : Int32} {q : Int32 × XW} (h0 : eX8_round k w l0 l1 = some q) : WP K l mX8_round 8 182 n0 k0 (some (.int q.1)) q.2 0 [some (.ref l0), some (.int l1), none, none] [] w := by
  unfold eX8_round at h0
  refine wp_iload_n dX8_round_0 rfl ?_
  refine wp_i2l dX8_round_1 ?_
  refine wp_lconst (v := (0 : Int64)) dX8_round_2 (by decide) ?_
  refine wp_lconst (v := (1 : Int64)) dX8_round_3 (by decide) ?_
  obtain ⟨q1, e3, h2⟩ := Option.bind_eq_some_iff.mp h0
  clear h0
  refine wp_Si (As := [.long (l1.toInt64), .long (0 : Int64), .long (1 : Int64)]) (S := []) okM_X8_in tw785 tw784 rfl ⟨(Nat.le_of_ble_eq_true rfl), (Nat.le_of_ble_eq_true rfl)⟩ (Nat.le_of_ble_eq_true rfl) rfl dX8_round_4 (MX8_in e3) ?_
  refine wp_if_ne (tgt := 12) dX8_round_7 (by decide) (fun c4 => ?_) (fun c4 => ?_)
  · rw [if_neg c4] at h2
    refine wp_aload_n dX8_round_12 rfl ?_
    obtain ⟨q5, e7, h6⟩ := Option.bind_eq_some_iff.mp h2
    clear h2
    refine wp_Vi (As := []) (S := []) okM_X8_rests tw927 tw928 tw938 (OX8_rests e7) rfl rfl rfl ⟨(Nat.le_of_ble_eq_true rfl), (Nat.le_of_ble_eq_true rfl)⟩ (Nat.le_of_ble_eq_true rfl) rfl dX8_round_13 (MX8_rests e7) ?_
    refine wp_if_lt (tgt := 22) dX8_round_16 (by decide) (fun c8 => ?_) (fun c8 => ?_)
    · rw [if_pos c8] at h6
      refine wp_aload_n dX8_round_22 rfl ?_
      refine wp_iconst (v := (0 : Int32)) dX8_round_23 (by decide) ?_
      refine wp_sipush (v := (198 : Int32)) dX8_round_24 (by decide) ?_
      obtain ⟨q9, e11, h10⟩ := Option.bind_eq_some_iff.mp h6
      clear h6
      refine wp_Vv (As := [.int (0 : Int32), .int (198 : Int32)]) (S := []) okM_X8_copies tw877 twP_X8_copies tw875 (OX8_copies e11) rfl rfl rfl ⟨(Nat.le_of_ble_eq_true rfl), (Nat.le_of_ble_eq_true rfl)⟩ (Nat.le_of_ble_eq_true rfl) rfl dX8_round_27 (MX8_copies e11) ?_
      refine wp_iconst (v := (0 : Int32)) dX8_round_30 (by decide) ?_
      refine wp_istore_n (L1 := [some (.ref l0), some (.int l1), some (.int (0 : Int32)), none]) dX8_round_31 (Nat.le_of_ble_eq_true rfl) rfl ?_
      exact WP.wk (hk0 _ _ _ _ _ h10) (And.intro rfl (And.intro rfl (And.intro rfl trivial)))
    · rw [if_neg c8] at h6
      refine wp_bipush (v := (-4 : Int32)) dX8_round_19 (by decide) ?_
      cases h6
      exact wp_iret rfl dX8_round_21
  · rw [if_pos c4] at h2
    refine wp_iconst (v := (-1 : Int32)) dX8_round_10 (by decide) ?_
    cases h2
    exact wp_iret rfl dX8_round_11
def loX8_round : Nat → KTX8_round
  | 0 => (fun _ _ _ _ => none, fun _ _ _ _ _ => none, fun _ _ _ _ => none, fun _ _ _ _ _ => none)
  | n + 1 => (hX8_round_32 (loX8_round n), hX8_round_41 (loX8_round n), hX8_round_132 (loX8_round n), hX8_round_143 (loX8_round n))
theorem LOX8_round {K : CX} {l : Launch} {n0 k0 : Nat} : ∀ n : Nat, (∀ (w : XW) (l0 : Nat) (l1 : Int32) (l2 : Int32) (q : Int32 × XW), (loX8_round n).1 w l0 l1 l2 = some q → WP K l mX8_round 8 182 n0 k0 (some (.int q.1)) q.2 32 [some (.ref l0), some (.int l1), some (.int l2), none] [] w) ∧ (∀ (w : XW) (l0 : Nat) (l1 : Int32) (l2 : Int32) (l3 : Int32) (q : Int32 × XW), (loX8_round n).2.1 w l0 l1 l2 l3 = some q → WP K l mX8_round 8 182 n0 k0 (some (.int q.1)) q.2 41 [some (.ref l0), some (.int l1), some (.int l2), some (.int l3)] [] w) ∧ (∀ (w : XW) (l0 : Nat) (l1 : Int32) (l2 : Int32) (q : Int32 × XW), (loX8_round n).2.2.1 w l0 l1 l2 = some q → WP K l mX8_round 8 182 n0 k0 (some (.int q.1)) q.2 132 [some (.ref l0), some (.int l1), some (.int l2), none] [] w) ∧ (∀ (w : XW) (l0 : Nat) (l1 : Int32) (l2 : Int32) (l3 : Int32) (q : Int32 × XW), (loX8_round n).2.2.2 w l0 l1 l2 l3 = some q → WP K l mX8_round 8 182 n0 k0 (some (.int q.1)) q.2 143 [some (.ref l0), some (.int l1), some (.int l2), some (.int l3)] [] w) := by
  intro n
  induction n with
  | zero => exact ⟨fun _ _ _ _ q h => (by cases h), fun _ _ _ _ _ q h => (by cases h), fun _ _ _ _ q h => (by cases h), fun _ _ _ _ _ q h => (by cases h)⟩
  | succ n ih => exact ⟨fun _ _ _ _ q h => HX8_round_32 ih.1 ih.2.1 ih.2.2.1 ih.2.2.2 h, fun _ _ _ _ _ q h => HX8_round_41 ih.1 ih.2.1 ih.2.2.1 ih.2.2.2 h, fun _ _ _ _ q h => HX8_round_132 ih.1 ih.2.1 ih.2.2.1 ih.2.2.2 h, fun _ _ _ _ _ q h => HX8_round_143 ih.1 ih.2.1 ih.2.2.1 ih.2.2.2 h⟩
def fX8_round (w : XW) (l0 : Nat) (l1 : Int32) : Option (Int32 × XW) := if isO w l0 8 = true then eX8_round (loX8_round FU) w l0 l1 else none
theorem OX8_round {w : XW} {l0 : Nat} {l1 : Int32} {q : Int32 × XW} (h : fX8_round w l0 l1 = some q) : isO w l0 8 = true := Decidable.byContradiction fun z => by unfold fX8_round at h; rw [if_neg z] at h; cases h
theorem MX8_round {K : CX} {l : Launch} {w : XW} {l0 : Nat} {l1 : Int32} {q : Int32 × XW} (h : fX8_round w l0 l1 = some q) : MT K l mX8_round 8 182 [.ref l0, .int l1] w (some (.int q.1)) q.2 := by
  have z := OX8_round h
  unfold fX8_round at h
  rw [if_pos z] at h
  exact MT.of (by decide) (Nat.le_of_ble_eq_true rfl) rfl (EX8_round (LOX8_round FU).1 (LOX8_round FU).2.1 (LOX8_round FU).2.2.1 (LOX8_round FU).2.2.2 h)
