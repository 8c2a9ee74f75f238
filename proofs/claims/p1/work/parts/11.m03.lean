/-! jdk/internal/util/Preconditions.checkIndex(IILjava/util/function/BiFunction;)I: frames 1, words 20 -/
abbrev mJ3_checkIndex_8e157 : MR := (⟨"jdk/internal/util/Preconditions", "checkIndex", "(IILjava/util/function/BiFunction;)I"⟩, prog_17_method_11_code, 3, (some .int))
theorem dJ3_checkIndex_8e157_0 : decode prog_17_method_11_code 0 = .ok (.iload_n 0, 1) := by decide +kernel
theorem dJ3_checkIndex_8e157_1 : decode prog_17_method_11_code 1 = .ok (.ifCond .lt 8, 3) := by decide +kernel
theorem dJ3_checkIndex_8e157_4 : decode prog_17_method_11_code 4 = .ok (.iload_n 0, 1) := by decide +kernel
theorem dJ3_checkIndex_8e157_5 : decode prog_17_method_11_code 5 = .ok (.iload_n 1, 1) := by decide +kernel
theorem dJ3_checkIndex_8e157_6 : decode prog_17_method_11_code 6 = .ok (.if_icmp .lt 10, 3) := by decide +kernel
theorem dJ3_checkIndex_8e157_9 : decode prog_17_method_11_code 9 = .ok (.aload_n 2, 1) := by decide +kernel
theorem dJ3_checkIndex_8e157_10 : decode prog_17_method_11_code 10 = .ok (.iload_n 0, 1) := by decide +kernel
theorem dJ3_checkIndex_8e157_11 : decode prog_17_method_11_code 11 = .ok (.iload_n 1, 1) := by decide +kernel
theorem dJ3_checkIndex_8e157_12 : decode prog_17_method_11_code 12 = .ok (.invokestatic 95, 3) := by decide +kernel
theorem dJ3_checkIndex_8e157_15 : decode prog_17_method_11_code 15 = .ok (.athrow, 1) := by decide +kernel
theorem dJ3_checkIndex_8e157_16 : decode prog_17_method_11_code 16 = .ok (.iload_n 0, 1) := by decide +kernel
theorem dJ3_checkIndex_8e157_17 : decode prog_17_method_11_code 17 = .ok (.ireturn, 1) := by decide +kernel
theorem okM_J3_checkIndex_8e157 : okM mJ3_checkIndex_8e157 3 := ⟨tw209, tw11, by decide, by decide, by decide +kernel⟩
def bJ3_checkIndex_8e157_9 (w : XW) (l0 : Int32) (l1 : Int32) : Option (Int32 × XW) :=
  none
theorem BJ3_checkIndex_8e157_9 {K : CX} {l : Launch} {n0 k0 : Nat} {w : XW} {l0 : Int32} {l1 : Int32} {q : Int32 × XW} (h0 : bJ3_checkIndex_8e157_9 w l0 l1 = some q) : WP K l mJ3_checkIndex_8e157 1 20 n0 k0 (some (.int q.1)) q.2 9 [some (.int l0), some (.int l1), some (fv K)] [] w := by
  unfold bJ3_checkIndex_8e157_9 at h0
  cases h0
def eJ3_checkIndex_8e157 (w : XW) (l0 : Int32) (l1 : Int32) : Option (Int32 × XW) :=
  if l0 < 0 then
  bJ3_checkIndex_8e157_9 w l0 l1
  else
  if l0 < l1 then
  some (l0, w)
  else
  bJ3_checkIndex_8e157_9 w l0 l1
theorem EJ3_checkIndex_8e157 {K : CX} {l : Launch} {n0 k0 : Nat} {w : XW} {l0 : Int32} {l1 : Int32} {q : Int32 × XW} (h0 : eJ3_checkIndex_8e157 w l0 l1 = some q) : WP K l mJ3_checkIndex_8e157 1 20 n0 k0 (some (.int q.1)) q.2 0 [some (.int l0), some (.int l1), some (fv K)] [] w := by
  unfold eJ3_checkIndex_8e157 at h0
  refine wp_iload_n dJ3_checkIndex_8e157_0 rfl ?_
  refine wp_if_lt (tgt := 9) dJ3_checkIndex_8e157_1 (by decide) (fun c1 => ?_) (fun c1 => ?_)
  · rw [if_pos c1] at h0
    exact WP.wk (BJ3_checkIndex_8e157_9 h0) (And.intro rfl (And.intro rfl (And.intro rfl trivial)))
  · rw [if_neg c1] at h0
    refine wp_iload_n dJ3_checkIndex_8e157_4 rfl ?_
    refine wp_iload_n dJ3_checkIndex_8e157_5 rfl ?_
    refine wp_icmp_lt (tgt := 16) dJ3_checkIndex_8e157_6 (by decide) (fun c2 => ?_) (fun c2 => ?_)
    · rw [if_pos c2] at h0
      refine wp_iload_n dJ3_checkIndex_8e157_16 rfl ?_
      cases h0
      exact wp_iret rfl dJ3_checkIndex_8e157_17
    · rw [if_neg c2] at h0
      exact WP.wk (BJ3_checkIndex_8e157_9 h0) (And.intro rfl (And.intro rfl (And.intro rfl trivial)))
def fJ3_checkIndex_8e157 (w : XW) (l0 : Int32) (l1 : Int32) : Option (Int32 × XW) := eJ3_checkIndex_8e157 w l0 l1
theorem MJ3_checkIndex_8e157 {K : CX} {l : Launch} {w : XW} {l0 : Int32} {l1 : Int32} {q : Int32 × XW} (h : fJ3_checkIndex_8e157 w l0 l1 = some q) : MT K l mJ3_checkIndex_8e157 1 20 [.int l0, .int l1, fv K] w (some (.int q.1)) q.2 := by
  unfold fJ3_checkIndex_8e157 at h
  have hf : fv K = .null ∨ fv K = .float 4 := by unfold fv; split <;> simp
  have hE := EJ3_checkIndex_8e157 (K := K) (l := l) (n0 := w.1) (k0 := w.2.1) h
  rcases hf with hf | hf <;> (rw [hf] at hE ⊢; exact MT.of (by decide) (Nat.le_of_ble_eq_true rfl) rfl hE)
/-! java/lang/String.checkIndex(II)V: frames 2, words 42 -/
abbrev mJ0_checkIndex_df160 : MR := (⟨"java/lang/String", "checkIndex", "(II)V"⟩, prog_13_method_155_code, 2, none)
theorem dJ0_checkIndex_df160_0 : decode prog_13_method_155_code 0 = .ok (.iload_n 0, 1) := by decide +kernel
theorem dJ0_checkIndex_df160_1 : decode prog_13_method_155_code 1 = .ok (.iload_n 1, 1) := by decide +kernel
theorem dJ0_checkIndex_df160_2 : decode prog_13_method_155_code 2 = .ok (.getstatic 1053, 3) := by decide +kernel
theorem dJ0_checkIndex_df160_5 : decode prog_13_method_155_code 5 = .ok (.invokestatic 1059, 3) := by decide +kernel
theorem dJ0_checkIndex_df160_8 : decode prog_13_method_155_code 8 = .ok (.pop, 1) := by decide +kernel
theorem dJ0_checkIndex_df160_9 : decode prog_13_method_155_code 9 = .ok (.return_, 1) := by decide +kernel
theorem okM_J0_checkIndex_df160 : okM mJ0_checkIndex_df160 2 := ⟨tw204, tw9, by decide, by decide, by decide +kernel⟩
def eJ0_checkIndex_df160 (w : XW) (l0 : Int32) (l1 : Int32) : Option XW :=
  (fJ3_checkIndex_8e157 w l0 l1).bind fun q1 =>
  some q1.2
theorem EJ0_checkIndex_df160 {K : CX} {l : Launch} {n0 k0 : Nat} {w : XW} {l0 : Int32} {l1 : Int32} {q : XW} (h0 : eJ0_checkIndex_df160 w l0 l1 = some q) : WP K l mJ0_checkIndex_df160 2 42 n0 k0 none q 0 [some (.int l0), some (.int l1)] [] w := by
  unfold eJ0_checkIndex_df160 at h0
  refine wp_iload_n dJ0_checkIndex_df160_0 rfl ?_
  refine wp_iload_n dJ0_checkIndex_df160_1 rfl ?_
  refine wp_gets (v := fv K) (fun U hU => hU.2.2.2.2.2.2.2.2.2.2.2.2) tw205 dJ0_checkIndex_df160_2 ?_
  obtain ⟨q1, e3, h2⟩ := Option.bind_eq_some_iff.mp h0
  clear h0
  refine wp_Si (As := [.int l0, .int l1, fv K]) (S := []) okM_J3_checkIndex_8e157 tw208 tw207 rfl ⟨(Nat.le_of_ble_eq_true rfl), (Nat.le_of_ble_eq_true rfl)⟩ (Nat.le_of_ble_eq_true rfl) rfl dJ0_checkIndex_df160_5 (MJ3_checkIndex_8e157 e3) ?_
  refine wp_pop dJ0_checkIndex_df160_8 rfl ?_
  cases h2
  exact wp_vret rfl dJ0_checkIndex_df160_9
def fJ0_checkIndex_df160 (w : XW) (l0 : Int32) (l1 : Int32) : Option XW := eJ0_checkIndex_df160 w l0 l1
theorem MJ0_checkIndex_df160 {K : CX} {l : Launch} {w : XW} {l0 : Int32} {l1 : Int32} {q : XW} (h : fJ0_checkIndex_df160 w l0 l1 = some q) : MT K l mJ0_checkIndex_df160 2 42 [.int l0, .int l1] w none q := by
  unfold fJ0_checkIndex_df160 at h
  exact MT.of (by decide) (Nat.le_of_ble_eq_true rfl) rfl (EJ0_checkIndex_df160 h)
/-! java/lang/StringLatin1.charAt([BI)C: frames 3, words 63 -/
abbrev mJ1_charAt_3b067 : MR := (⟨"java/lang/StringLatin1", "charAt", "([BI)C"⟩, prog_14_method_2_code, 2, (some .char))
theorem dJ1_charAt_3b067_0 : decode prog_14_method_2_code 0 = .ok (.iload_n 1, 1) := by decide +kernel
theorem dJ1_charAt_3b067_1 : decode prog_14_method_2_code 1 = .ok (.aload_n 0, 1) := by decide +kernel
theorem dJ1_charAt_3b067_2 : decode prog_14_method_2_code 2 = .ok (.arraylength, 1) := by decide +kernel
theorem dJ1_charAt_3b067_3 : decode prog_14_method_2_code 3 = .ok (.invokestatic 9, 3) := by decide +kernel
theorem dJ1_charAt_3b067_6 : decode prog_14_method_2_code 6 = .ok (.aload_n 0, 1) := by decide +kernel
theorem dJ1_charAt_3b067_7 : decode prog_14_method_2_code 7 = .ok (.iload_n 1, 1) := by decide +kernel
theorem dJ1_charAt_3b067_8 : decode prog_14_method_2_code 8 = .ok (.baload, 1) := by decide +kernel
theorem dJ1_charAt_3b067_9 : decode prog_14_method_2_code 9 = .ok (.sipush 255, 3) := by decide +kernel
theorem dJ1_charAt_3b067_12 : decode prog_14_method_2_code 12 = .ok (.iand, 1) := by decide +kernel
theorem dJ1_charAt_3b067_13 : decode prog_14_method_2_code 13 = .ok (.i2c, 1) := by decide +kernel
theorem dJ1_charAt_3b067_14 : decode prog_14_method_2_code 14 = .ok (.ireturn, 1) := by decide +kernel
theorem okM_J1_charAt_3b067 : okM mJ1_charAt_3b067 2 := ⟨tw201, tw10, by decide, by decide, by decide +kernel⟩
def eJ1_charAt_3b067 (w : XW) (l1 : Int32) : Option (Int32 × XW) :=
  (fJ0_checkIndex_df160 w l1 (53 : Int32)).bind fun q1 =>
  (bI l1).bind fun x4 =>
  if vp_nar .char (((x4 &&& (255 : Int32)).toUInt32 % 65536).toInt32) = (((x4 &&& (255 : Int32)).toUInt32 % 65536).toInt32) then some ((((x4 &&& (255 : Int32)).toUInt32 % 65536).toInt32), q1) else none
theorem EJ1_charAt_3b067 {K : CX} {l : Launch} {n0 k0 : Nat} {w : XW} {l1 : Int32} {q : Int32 × XW} (h0 : eJ1_charAt_3b067 w l1 = some q) : WP K l mJ1_charAt_3b067 3 63 n0 k0 (some (.int q.1)) q.2 0 [some (.float 3), some (.int l1)] [] w := by
  unfold eJ1_charAt_3b067 at h0
  refine wp_iload_n dJ1_charAt_3b067_0 rfl ?_
  refine wp_xload_n dJ1_charAt_3b067_1 rfl ?_
  refine wp_xlen (v := 53) (by decide) dJ1_charAt_3b067_2 ?_
  obtain ⟨q1, e3, h2⟩ := Option.bind_eq_some_iff.mp h0
  clear h0
  refine wp_Sv (As := [.int l1, .int (53 : Int32)]) (S := []) okM_J0_checkIndex_df160 tw203 tw202 rfl ⟨(Nat.le_of_ble_eq_true rfl), (Nat.le_of_ble_eq_true rfl)⟩ (Nat.le_of_ble_eq_true rfl) rfl dJ1_charAt_3b067_3 (MJ0_checkIndex_df160 e3) ?_
  refine wp_xload_n dJ1_charAt_3b067_6 rfl ?_
  refine wp_iload_n dJ1_charAt_3b067_7 rfl ?_
  obtain ⟨x4, e6, h5⟩ := Option.bind_eq_some_iff.mp h2
  clear h2
  refine wp_xbald dJ1_charAt_3b067_8 e6 ?_
  refine wp_sipush (v := (255 : Int32)) dJ1_charAt_3b067_9 (by decide) ?_
  refine wp_iand dJ1_charAt_3b067_12 ?_
  refine wp_i2c dJ1_charAt_3b067_13 ?_
  have c7 : vp_nar .char (((x4 &&& (255 : Int32)).toUInt32 % 65536).toInt32) = (((x4 &&& (255 : Int32)).toUInt32 % 65536).toInt32) := Decidable.byContradiction fun z => by rw [if_neg z] at h5; cases h5
  rw [if_pos c7] at h5
  cases h5
  exact wp_zret rfl (nc_n c7) dJ1_charAt_3b067_14
def fJ1_charAt_3b067 (w : XW) (l1 : Int32) : Option (Int32 × XW) := eJ1_charAt_3b067 w l1
theorem MJ1_charAt_3b067 {K : CX} {l : Launch} {w : XW} {l1 : Int32} {q : Int32 × XW} (h : fJ1_charAt_3b067 w l1 = some q) : MT K l mJ1_charAt_3b067 3 63 [.float 3, .int l1] w (some (.int q.1)) q.2 := by
  unfold fJ1_charAt_3b067 at h
  exact MT.of (by decide) (Nat.le_of_ble_eq_true rfl) rfl (EJ1_charAt_3b067 h)
/-! java/lang/String.charAt(I)C: frames 4, words 84 -/
abbrev mJ0_charAt_5068e : MR := (⟨"java/lang/String", "charAt", "(I)C"⟩, prog_13_method_56_code, 2, (some .char))
theorem dJ0_charAt_5068e_0 : decode prog_13_method_56_code 0 = .ok (.aload_n 0, 1) := by decide +kernel
theorem dJ0_charAt_5068e_1 : decode prog_13_method_56_code 1 = .ok (.invokevirtual 492, 3) := by decide +kernel
theorem dJ0_charAt_5068e_4 : decode prog_13_method_56_code 4 = .ok (.ifCond .eq 12, 3) := by decide +kernel
theorem dJ0_charAt_5068e_7 : decode prog_13_method_56_code 7 = .ok (.aload_n 0, 1) := by decide +kernel
theorem dJ0_charAt_5068e_8 : decode prog_13_method_56_code 8 = .ok (.getfield 9, 3) := by decide +kernel
theorem dJ0_charAt_5068e_11 : decode prog_13_method_56_code 11 = .ok (.iload_n 1, 1) := by decide +kernel
theorem dJ0_charAt_5068e_12 : decode prog_13_method_56_code 12 = .ok (.invokestatic 495, 3) := by decide +kernel
theorem dJ0_charAt_5068e_15 : decode prog_13_method_56_code 15 = .ok (.ireturn, 1) := by decide +kernel
theorem dJ0_charAt_5068e_16 : decode prog_13_method_56_code 16 = .ok (.aload_n 0, 1) := by decide +kernel
theorem dJ0_charAt_5068e_17 : decode prog_13_method_56_code 17 = .ok (.getfield 9, 3) := by decide +kernel
theorem dJ0_charAt_5068e_20 : decode prog_13_method_56_code 20 = .ok (.iload_n 1, 1) := by decide +kernel
theorem dJ0_charAt_5068e_21 : decode prog_13_method_56_code 21 = .ok (.invokestatic 498, 3) := by decide +kernel
theorem dJ0_charAt_5068e_24 : decode prog_13_method_56_code 24 = .ok (.ireturn, 1) := by decide +kernel
theorem okM_J0_charAt_5068e : okM mJ0_charAt_5068e 1 := ⟨tw194, tw9, by decide, by decide, by decide +kernel⟩
def eJ0_charAt_5068e (w : XW) (l1 : Int32) : Option (Int32 × XW) :=
  (fJ0_isLatin1_aae02 w).bind fun q1 =>
  if q1.1 = 0 then
  none
  else
  (fJ1_charAt_3b067 q1.2 l1).bind fun q5 =>
  if vp_nar .char q5.1 = q5.1 then some (q5.1, q5.2) else none
theorem EJ0_charAt_5068e {K : CX} {l : Launch} {n0 k0 : Nat} {w : XW} {l1 : Int32} {q : Int32 × XW} (h0 : eJ0_charAt_5068e w l1 = some q) : WP K l mJ0_charAt_5068e 4 84 n0 k0 (some (.int q.1)) q.2 0 [some (.float 2), some (.int l1)] [] w := by
  unfold eJ0_charAt_5068e at h0
  refine wp_xload_n dJ0_charAt_5068e_0 rfl ?_
  obtain ⟨q1, e3, h2⟩ := Option.bind_eq_some_iff.mp h0
  clear h0
  refine wp_Xi (As := []) (S := []) okM_J0_isLatin1_aae02 rfl tw196 tw197 tw195 rfl ⟨(Nat.le_of_ble_eq_true rfl), (Nat.le_of_ble_eq_true rfl)⟩ (Nat.le_of_ble_eq_true rfl) rfl dJ0_charAt_5068e_1 (MJ0_isLatin1_aae02 e3) ?_
  refine wp_if_eq (tgt := 16) dJ0_charAt_5068e_4 (by decide) (fun c4 => ?_) (fun c4 => ?_)
  · rw [if_pos c4] at h2
    refine wp_xload_n dJ0_charAt_5068e_16 rfl ?_
    refine wp_xvalue tw1056 dJ0_charAt_5068e_17 ?_
    refine wp_iload_n dJ0_charAt_5068e_20 rfl ?_
    cases h2
  · rw [if_neg c4] at h2
    refine wp_xload_n dJ0_charAt_5068e_7 rfl ?_
    refine wp_xvalue tw1056 dJ0_charAt_5068e_8 ?_
    refine wp_iload_n dJ0_charAt_5068e_11 rfl ?_
    obtain ⟨q5, e7, h6⟩ := Option.bind_eq_some_iff.mp h2
    clear h2
    refine wp_Si (As := [.float 3, .int l1]) (S := []) okM_J1_charAt_3b067 tw200 tw199 rfl ⟨(Nat.le_of_ble_eq_true rfl), (Nat.le_of_ble_eq_true rfl)⟩ (Nat.le_of_ble_eq_true rfl) rfl dJ0_charAt_5068e_12 (MJ1_charAt_3b067 e7) ?_
    have c8 : vp_nar .char q5.1 = q5.1 := Decidable.byContradiction fun z => by rw [if_neg z] at h6; cases h6
    rw [if_pos c8] at h6
    cases h6
    exact wp_zret rfl (nc_n c8) dJ0_charAt_5068e_15
def fJ0_charAt_5068e (w : XW) (l1 : Int32) : Option (Int32 × XW) := eJ0_charAt_5068e w l1
theorem MJ0_charAt_5068e {K : CX} {l : Launch} {w : XW} {l1 : Int32} {q : Int32 × XW} (h : fJ0_charAt_5068e w l1 = some q) : MT K l mJ0_charAt_5068e 4 84 [.float 2, .int l1] w (some (.int q.1)) q.2 := by
  unfold fJ0_charAt_5068e at h
  exact MT.of (by decide) (Nat.le_of_ble_eq_true rfl) rfl (EJ0_charAt_5068e h)
/-! FractionRun$Text.add(C)V: frames 1, words 20 -/
abbrev mX6_add : MR := (⟨"FractionRun$Text", "add", "(C)V"⟩, prog_8_method_2_code, 2, none)
theorem dX6_add_0 : decode prog_8_method_2_code 0 = .ok (.aload_n 0, 1) := by decide +kernel
theorem dX6_add_1 : decode prog_8_method_2_code 1 = .ok (.getfield 15, 3) := by decide +kernel
theorem dX6_add_4 : decode prog_8_method_2_code 4 = .ok (.sipush 200, 3) := by decide +kernel
theorem dX6_add_7 : decode prog_8_method_2_code 7 = .ok (.if_icmp .ge 23, 3) := by decide +kernel
theorem dX6_add_10 : decode prog_8_method_2_code 10 = .ok (.aload_n 0, 1) := by decide +kernel
theorem dX6_add_11 : decode prog_8_method_2_code 11 = .ok (.getfield 9, 3) := by decide +kernel
theorem dX6_add_14 : decode prog_8_method_2_code 14 = .ok (.aload_n 0, 1) := by decide +kernel
theorem dX6_add_15 : decode prog_8_method_2_code 15 = .ok (.getfield 15, 3) := by decide +kernel
theorem dX6_add_18 : decode prog_8_method_2_code 18 = .ok (.iload_n 1, 1) := by decide +kernel
theorem dX6_add_19 : decode prog_8_method_2_code 19 = .ok (.castore, 1) := by decide +kernel
theorem dX6_add_20 : decode prog_8_method_2_code 20 = .ok (.aload_n 0, 1) := by decide +kernel
theorem dX6_add_21 : decode prog_8_method_2_code 21 = .ok (.dup, 1) := by decide +kernel
theorem dX6_add_22 : decode prog_8_method_2_code 22 = .ok (.getfield 15, 3) := by decide +kernel
theorem dX6_add_25 : decode prog_8_method_2_code 25 = .ok (.iconst 1, 1) := by decide +kernel
theorem dX6_add_26 : decode prog_8_method_2_code 26 = .ok (.iadd, 1) := by decide +kernel
theorem dX6_add_27 : decode prog_8_method_2_code 27 = .ok (.putfield 15, 3) := by decide +kernel
theorem dX6_add_30 : decode prog_8_method_2_code 30 = .ok (.return_, 1) := by decide +kernel
theorem okM_X6_add : okM mX6_add 1 := ⟨tw232, tw2, by decide, by decide, by decide +kernel⟩
def bX6_add_30 (w : XW) : Option XW :=
  some w
theorem BX6_add_30 {K : CX} {l : Launch} {n0 k0 : Nat} {w : XW} {q : XW} (h0 : bX6_add_30 w = some q) : WP K l mX6_add 1 20 n0 k0 none q 30 [none, none] [] w := by
  unfold bX6_add_30 at h0
  cases h0
  exact wp_vret rfl dX6_add_30
def eX6_add (w : XW) (l0 : Nat) (l1 : Int32) : Option XW :=
  (gI w l0 6 1).bind fun x1 =>
  if (200 : Int32) ≤ x1 then
  bX6_add_30 w
  else
  (gR w l0 6 0).bind fun x5 =>
  (gI w l0 6 1).bind fun x8 =>
  (sI w 1 x5 x8 (vp_nar .char l1)).bind fun w11 =>
  (gI w11 l0 6 1).bind fun x14 =>
  (pV w11 l0 6 1 (.int (x14 + (1 : Int32)))).bind fun w17 =>
  bX6_add_30 w17
theorem EX6_add {K : CX} {l : Launch} {n0 k0 : Nat} {w : XW} {l0 : Nat} {l1 : Int32} {q : XW} (h0 : eX6_add w l0 l1 = some q) : WP K l mX6_add 1 20 n0 k0 none q 0 [some (.ref l0), some (.int l1)] [] w := by
  unfold eX6_add at h0
  refine wp_aload_n dX6_add_0 rfl ?_
  obtain ⟨x1, e3, h2⟩ := Option.bind_eq_some_iff.mp h0
  clear h0
  refine wp_getI okX6 (k := 1) (by decide) tw32 dX6_add_1 e3 ?_
  refine wp_sipush (v := (200 : Int32)) dX6_add_4 (by decide) ?_
  refine wp_icmp_ge (tgt := 30) dX6_add_7 (by decide) (fun c4 => ?_) (fun c4 => ?_)
  · rw [if_pos c4] at h2
    exact WP.wk (BX6_add_30 h2) trivial
  · rw [if_neg c4] at h2
    refine wp_aload_n dX6_add_10 rfl ?_
    obtain ⟨x5, e7, h6⟩ := Option.bind_eq_some_iff.mp h2
    clear h2
    refine wp_getR okX6 (k := 0) (by decide) tw31 dX6_add_11 e7 ?_
    refine wp_aload_n dX6_add_14 rfl ?_
    obtain ⟨x8, e10, h9⟩ := Option.bind_eq_some_iff.mp h6
    clear h6
    refine wp_getI okX6 (k := 1) (by decide) tw32 dX6_add_15 e10 ?_
    refine wp_iload_n dX6_add_18 rfl ?_
    obtain ⟨w11, e13, h12⟩ := Option.bind_eq_some_iff.mp h9
    clear h9
    refine wp_cast dX6_add_19 e13 ?_
    refine wp_aload_n dX6_add_20 rfl ?_
    refine wp_dup dX6_add_21 rfl ?_
    obtain ⟨x14, e16, h15⟩ := Option.bind_eq_some_iff.mp h12
    clear h12
    refine wp_getI okX6 (k := 1) (by decide) tw32 dX6_add_22 e16 ?_
    refine wp_iconst (v := (1 : Int32)) dX6_add_25 (by decide) ?_
    refine wp_iadd dX6_add_26 ?_
    obtain ⟨w17, e19, h18⟩ := Option.bind_eq_some_iff.mp h15
    clear h15
    refine wp_putV okX6 (k := 1) (by decide) rfl tw32 dX6_add_27 rfl rfl e19 ?_
    exact WP.wk (BX6_add_30 h18) trivial
def fX6_add (w : XW) (l0 : Nat) (l1 : Int32) : Option XW := if isO w l0 6 = true then eX6_add w l0 l1 else none
theorem OX6_add {w : XW} {l0 : Nat} {l1 : Int32} {q : XW} (h : fX6_add w l0 l1 = some q) : isO w l0 6 = true := Decidable.byContradiction fun z => by unfold fX6_add at h; rw [if_neg z] at h; cases h
theorem MX6_add {K : CX} {l : Launch} {w : XW} {l0 : Nat} {l1 : Int32} {q : XW} (h : fX6_add w l0 l1 = some q) : MT K l mX6_add 1 20 [.ref l0, .int l1] w none q := by
  have z := OX6_add h
  unfold fX6_add at h
  rw [if_pos z] at h
  exact MT.of (by decide) (Nat.le_of_ble_eq_true rfl) rfl (EX6_add h)
/-! FractionRun.<init>()V: frames 6, words 144 -/
abbrev mX7_init : MR := (⟨"FractionRun", "<init>", "()V"⟩, prog_1_method_1_code, 2, none)
theorem dX7_init_0 : decode prog_1_method_1_code 0 = .ok (.aload_n 0, 1) := by decide +kernel
theorem dX7_init_1 : decode prog_1_method_1_code 1 = .ok (.invokespecial 1, 3) := by decide +kernel
theorem dX7_init_4 : decode prog_1_method_1_code 4 = .ok (.aload_n 0, 1) := by decide +kernel
theorem dX7_init_5 : decode prog_1_method_1_code 5 = .ok (.new 7, 3) := by decide +kernel
theorem dX7_init_8 : decode prog_1_method_1_code 8 = .ok (.dup, 1) := by decide +kernel
theorem dX7_init_9 : decode prog_1_method_1_code 9 = .ok (.invokespecial 9, 3) := by decide +kernel
theorem dX7_init_12 : decode prog_1_method_1_code 12 = .ok (.putfield 10, 3) := by decide +kernel
theorem dX7_init_15 : decode prog_1_method_1_code 15 = .ok (.aload_n 0, 1) := by decide +kernel
theorem dX7_init_16 : decode prog_1_method_1_code 16 = .ok (.new 16, 3) := by decide +kernel
theorem dX7_init_19 : decode prog_1_method_1_code 19 = .ok (.dup, 1) := by decide +kernel
theorem dX7_init_20 : decode prog_1_method_1_code 20 = .ok (.invokespecial 18, 3) := by decide +kernel
theorem dX7_init_23 : decode prog_1_method_1_code 23 = .ok (.putfield 19, 3) := by decide +kernel
theorem dX7_init_26 : decode prog_1_method_1_code 26 = .ok (.aload_n 0, 1) := by decide +kernel
theorem dX7_init_27 : decode prog_1_method_1_code 27 = .ok (.new 23, 3) := by decide +kernel
theorem dX7_init_30 : decode prog_1_method_1_code 30 = .ok (.dup, 1) := by decide +kernel
theorem dX7_init_31 : decode prog_1_method_1_code 31 = .ok (.invokespecial 25, 3) := by decide +kernel
theorem dX7_init_34 : decode prog_1_method_1_code 34 = .ok (.putfield 26, 3) := by decide +kernel
theorem dX7_init_37 : decode prog_1_method_1_code 37 = .ok (.aload_n 0, 1) := by decide +kernel
theorem dX7_init_38 : decode prog_1_method_1_code 38 = .ok (.new 23, 3) := by decide +kernel
theorem dX7_init_41 : decode prog_1_method_1_code 41 = .ok (.dup, 1) := by decide +kernel
theorem dX7_init_42 : decode prog_1_method_1_code 42 = .ok (.invokespecial 25, 3) := by decide +kernel
theorem dX7_init_45 : decode prog_1_method_1_code 45 = .ok (.putfield 30, 3) := by decide +kernel
theorem dX7_init_48 : decode prog_1_method_1_code 48 = .ok (.aload_n 0, 1) := by decide +kernel
theorem dX7_init_49 : decode prog_1_method_1_code 49 = .ok (.new 33, 3) := by decide +kernel
theorem dX7_init_52 : decode prog_1_method_1_code 52 = .ok (.dup, 1) := by decide +kernel
theorem dX7_init_53 : decode prog_1_method_1_code 53 = .ok (.invokespecial 35, 3) := by decide +kernel
theorem dX7_init_56 : decode prog_1_method_1_code 56 = .ok (.putfield 36, 3) := by decide +kernel
theorem dX7_init_59 : decode prog_1_method_1_code 59 = .ok (.aload_n 0, 1) := by decide +kernel
theorem dX7_init_60 : decode prog_1_method_1_code 60 = .ok (.new 33, 3) := by decide +kernel
theorem dX7_init_63 : decode prog_1_method_1_code 63 = .ok (.dup, 1) := by decide +kernel
theorem dX7_init_64 : decode prog_1_method_1_code 64 = .ok (.invokespecial 35, 3) := by decide +kernel
theorem dX7_init_67 : decode prog_1_method_1_code 67 = .ok (.putfield 40, 3) := by decide +kernel
theorem dX7_init_70 : decode prog_1_method_1_code 70 = .ok (.aload_n 0, 1) := by decide +kernel
theorem dX7_init_71 : decode prog_1_method_1_code 71 = .ok (.new 33, 3) := by decide +kernel
theorem dX7_init_74 : decode prog_1_method_1_code 74 = .ok (.dup, 1) := by decide +kernel
theorem dX7_init_75 : decode prog_1_method_1_code 75 = .ok (.invokespecial 35, 3) := by decide +kernel
theorem dX7_init_78 : decode prog_1_method_1_code 78 = .ok (.putfield 43, 3) := by decide +kernel
theorem dX7_init_81 : decode prog_1_method_1_code 81 = .ok (.aload_n 0, 1) := by decide +kernel
theorem dX7_init_82 : decode prog_1_method_1_code 82 = .ok (.new 46, 3) := by decide +kernel
theorem dX7_init_85 : decode prog_1_method_1_code 85 = .ok (.dup, 1) := by decide +kernel
theorem dX7_init_86 : decode prog_1_method_1_code 86 = .ok (.invokespecial 48, 3) := by decide +kernel
theorem dX7_init_89 : decode prog_1_method_1_code 89 = .ok (.putfield 49, 3) := by decide +kernel
theorem dX7_init_92 : decode prog_1_method_1_code 92 = .ok (.aload_n 0, 1) := by decide +kernel
theorem dX7_init_93 : decode prog_1_method_1_code 93 = .ok (.new 53, 3) := by decide +kernel
theorem dX7_init_96 : decode prog_1_method_1_code 96 = .ok (.dup, 1) := by decide +kernel
theorem dX7_init_97 : decode prog_1_method_1_code 97 = .ok (.invokespecial 55, 3) := by decide +kernel
theorem dX7_init_100 : decode prog_1_method_1_code 100 = .ok (.putfield 56, 3) := by decide +kernel
theorem dX7_init_103 : decode prog_1_method_1_code 103 = .ok (.aload_n 0, 1) := by decide +kernel
theorem dX7_init_104 : decode prog_1_method_1_code 104 = .ok (.bipush 6, 2) := by decide +kernel
theorem dX7_init_106 : decode prog_1_method_1_code 106 = .ok (.newarray .int, 2) := by decide +kernel
theorem dX7_init_108 : decode prog_1_method_1_code 108 = .ok (.putfield 60, 3) := by decide +kernel
theorem dX7_init_111 : decode prog_1_method_1_code 111 = .ok (.aload_n 0, 1) := by decide +kernel
theorem dX7_init_112 : decode prog_1_method_1_code 112 = .ok (.bipush 6, 2) := by decide +kernel
theorem dX7_init_114 : decode prog_1_method_1_code 114 = .ok (.newarray .int, 2) := by decide +kernel
theorem dX7_init_116 : decode prog_1_method_1_code 116 = .ok (.putfield 64, 3) := by decide +kernel
theorem dX7_init_119 : decode prog_1_method_1_code 119 = .ok (.aload_n 0, 1) := by decide +kernel
theorem dX7_init_120 : decode prog_1_method_1_code 120 = .ok (.sipush 366, 3) := by decide +kernel
theorem dX7_init_123 : decode prog_1_method_1_code 123 = .ok (.newarray .int, 2) := by decide +kernel
theorem dX7_init_125 : decode prog_1_method_1_code 125 = .ok (.putfield 67, 3) := by decide +kernel
theorem dX7_init_128 : decode prog_1_method_1_code 128 = .ok (.aload_n 0, 1) := by decide +kernel
theorem dX7_init_129 : decode prog_1_method_1_code 129 = .ok (.new 70, 3) := by decide +kernel
theorem dX7_init_132 : decode prog_1_method_1_code 132 = .ok (.dup, 1) := by decide +kernel
theorem dX7_init_133 : decode prog_1_method_1_code 133 = .ok (.invokespecial 72, 3) := by decide +kernel
theorem dX7_init_136 : decode prog_1_method_1_code 136 = .ok (.putfield 73, 3) := by decide +kernel
theorem dX7_init_139 : decode prog_1_method_1_code 139 = .ok (.aload_n 0, 1) := by decide +kernel
theorem dX7_init_140 : decode prog_1_method_1_code 140 = .ok (.bipush 8, 2) := by decide +kernel
theorem dX7_init_142 : decode prog_1_method_1_code 142 = .ok (.newarray .int, 2) := by decide +kernel
theorem dX7_init_144 : decode prog_1_method_1_code 144 = .ok (.putfield 77, 3) := by decide +kernel
theorem dX7_init_147 : decode prog_1_method_1_code 147 = .ok (.iconst 0, 1) := by decide +kernel
theorem dX7_init_148 : decode prog_1_method_1_code 148 = .ok (.istore_n 1, 1) := by decide +kernel
theorem dX7_init_149 : decode prog_1_method_1_code 149 = .ok (.iload_n 1, 1) := by decide +kernel
theorem dX7_init_150 : decode prog_1_method_1_code 150 = .ok (.ldc 80, 2) := by decide +kernel
theorem dX7_init_152 : decode prog_1_method_1_code 152 = .ok (.invokevirtual 82, 3) := by decide +kernel
theorem dX7_init_155 : decode prog_1_method_1_code 155 = .ok (.if_icmp .ge 22, 3) := by decide +kernel
theorem dX7_init_158 : decode prog_1_method_1_code 158 = .ok (.aload_n 0, 1) := by decide +kernel
theorem dX7_init_159 : decode prog_1_method_1_code 159 = .ok (.getfield 10, 3) := by decide +kernel
theorem dX7_init_162 : decode prog_1_method_1_code 162 = .ok (.ldc 80, 2) := by decide +kernel
theorem dX7_init_164 : decode prog_1_method_1_code 164 = .ok (.iload_n 1, 1) := by decide +kernel
theorem dX7_init_165 : decode prog_1_method_1_code 165 = .ok (.invokevirtual 88, 3) := by decide +kernel
theorem dX7_init_168 : decode prog_1_method_1_code 168 = .ok (.invokevirtual 92, 3) := by decide +kernel
theorem dX7_init_171 : decode prog_1_method_1_code 171 = .ok (.iinc 1 1, 3) := by decide +kernel
theorem dX7_init_174 : decode prog_1_method_1_code 174 = .ok (.goto (-25), 3) := by decide +kernel
theorem dX7_init_177 : decode prog_1_method_1_code 177 = .ok (.aload_n 0, 1) := by decide +kernel
theorem dX7_init_178 : decode prog_1_method_1_code 178 = .ok (.getfield 19, 3) := by decide +kernel
theorem dX7_init_181 : decode prog_1_method_1_code 181 = .ok (.aload_n 0, 1) := by decide +kernel
theorem dX7_init_182 : decode prog_1_method_1_code 182 = .ok (.getfield 10, 3) := by decide +kernel
theorem dX7_init_185 : decode prog_1_method_1_code 185 = .ok (.aload_n 0, 1) := by decide +kernel
theorem dX7_init_186 : decode prog_1_method_1_code 186 = .ok (.getfield 26, 3) := by decide +kernel
theorem dX7_init_189 : decode prog_1_method_1_code 189 = .ok (.invokevirtual 96, 3) := by decide +kernel
theorem dX7_init_192 : decode prog_1_method_1_code 192 = .ok (.pop, 1) := by decide +kernel
theorem dX7_init_193 : decode prog_1_method_1_code 193 = .ok (.aload_n 0, 1) := by decide +kernel
theorem dX7_init_194 : decode prog_1_method_1_code 194 = .ok (.getfield 10, 3) := by decide +kernel
theorem dX7_init_197 : decode prog_1_method_1_code 197 = .ok (.invokevirtual 100, 3) := by decide +kernel
theorem dX7_init_200 : decode prog_1_method_1_code 200 = .ok (.aload_n 0, 1) := by decide +kernel
theorem dX7_init_201 : decode prog_1_method_1_code 201 = .ok (.getfield 36, 3) := by decide +kernel
theorem dX7_init_204 : decode prog_1_method_1_code 204 = .ok (.aload_n 0, 1) := by decide +kernel
theorem dX7_init_205 : decode prog_1_method_1_code 205 = .ok (.getfield 26, 3) := by decide +kernel
theorem dX7_init_208 : decode prog_1_method_1_code 208 = .ok (.invokevirtual 103, 3) := by decide +kernel
theorem dX7_init_211 : decode prog_1_method_1_code 211 = .ok (.return_, 1) := by decide +kernel
theorem okM_X7_init : okM mX7_init 0 := ⟨tw21, tw1, by decide, by decide, by decide +kernel⟩
abbrev KTX7_init : Type := (XW → Nat → Int32 → Option XW)
def hX7_init_149 (k : KTX7_init) (w : XW) (l0 : Nat) (l1 : Int32) : Option XW :=
  (fJ0_length_8abf5 w).bind fun q1 =>
  if q1.1 ≤ l1 then
  (gR q1.2 l0 7 1).bind fun x5 =>
  (gR q1.2 l0 7 0).bind fun x8 =>
  (gR q1.2 l0 7 2).bind fun x11 =>
  (fX4_read q1.2 x5 x8 x11).bind fun q14 =>
  (gR q14.2 l0 7 0).bind fun x17 =>
  (fX6_clear q14.2 x17).bind fun q20 =>
  (gR q20 l0 7 4).bind fun x23 =>
  (gR q20 l0 7 2).bind fun x26 =>
  (fX5_begin q20 x23 x26).bind fun q29 =>
  some q29
  else
  (gR q1.2 l0 7 0).bind fun x32 =>
  (fJ0_charAt_5068e q1.2 l1).bind fun q35 =>
  (fX6_add q35.2 x32 q35.1).bind fun q38 =>
  k q38 l0 (l1 + (1 : Int32))
theorem HX7_init_149 {K : CX} {l : Launch} {n0 k0 : Nat} {k : KTX7_init} (hk0 : ∀ (w : XW) (l0 : Nat) (l1 : Int32) (q : XW), k w l0 l1 = some q → WP K l mX7_init 6 144 n0 k0 none q 149 [some (.ref l0), some (.int l1)] [] w) {w : XW} {l0 : Nat} {l1 : Int32} {q : XW} (h0 : hX7_init_149 k w l0 l1 = some q) : WP K l mX7_init 6 144 n0 k0 none q 149 [some (.ref l0), some (.int l1)] [] w := by
  unfold hX7_init_149 at h0
  refine wp_iload_n dX7_init_149 rfl ?_
  refine wp_ldcS rfl dX7_init_150 ?_
  obtain ⟨q1, e3, h2⟩ := Option.bind_eq_some_iff.mp h0
  clear h0
  refine wp_Xi (As := []) (S := [.int l1]) okM_J0_length_8abf5 rfl tw182 tw183 tw181 rfl ⟨(Nat.le_of_ble_eq_true rfl), (Nat.le_of_ble_eq_true rfl)⟩ (Nat.le_of_ble_eq_true rfl) rfl dX7_init_152 (MJ0_length_8abf5 e3) ?_
  refine wp_icmp_ge (tgt := 177) dX7_init_155 (by decide) (fun c4 => ?_) (fun c4 => ?_)
  · rw [if_pos c4] at h2
    refine wp_aload_n dX7_init_177 rfl ?_
    obtain ⟨x5, e7, h6⟩ := Option.bind_eq_some_iff.mp h2
    clear h2
    refine wp_getR okX7 (k := 1) (by decide) tw299 dX7_init_178 e7 ?_
    refine wp_aload_n dX7_init_181 rfl ?_
    obtain ⟨x8, e10, h9⟩ := Option.bind_eq_some_iff.mp h6
    clear h6
    refine wp_getR okX7 (k := 0) (by decide) tw298 dX7_init_182 e10 ?_
    refine wp_aload_n dX7_init_185 rfl ?_
    obtain ⟨x11, e13, h12⟩ := Option.bind_eq_some_iff.mp h9
    clear h9
    refine wp_getR okX7 (k := 2) (by decide) tw300 dX7_init_186 e13 ?_
    obtain ⟨q14, e16, h15⟩ := Option.bind_eq_some_iff.mp h12
    clear h12
    refine wp_Vi (As := [.ref x8, .ref x11]) (S := []) okM_X4_read tw234 tw235 tw233 (OX4_read e16) rfl rfl rfl ⟨(Nat.le_of_ble_eq_true rfl), (Nat.le_of_ble_eq_true rfl)⟩ (Nat.le_of_ble_eq_true rfl) rfl dX7_init_189 (MX4_read e16) ?_
    refine wp_pop dX7_init_192 rfl ?_
    refine wp_aload_n dX7_init_193 rfl ?_
    obtain ⟨x17, e19, h18⟩ := Option.bind_eq_some_iff.mp h15
    clear h15
    refine wp_getR okX7 (k := 0) (by decide) tw298 dX7_init_194 e19 ?_
    obtain ⟨q20, e22, h21⟩ := Option.bind_eq_some_iff.mp h18
    clear h18
    refine wp_Vv (As := []) (S := []) okM_X6_clear tw284 tw285 tw283 (OX6_clear e22) rfl rfl rfl ⟨(Nat.le_of_ble_eq_true rfl), (Nat.le_of_ble_eq_true rfl)⟩ (Nat.le_of_ble_eq_true rfl) rfl dX7_init_197 (MX6_clear e22) ?_
    refine wp_aload_n dX7_init_200 rfl ?_
    obtain ⟨x23, e25, h24⟩ := Option.bind_eq_some_iff.mp h21
    clear h21
    refine wp_getR okX7 (k := 4) (by decide) tw302 dX7_init_201 e25 ?_
    refine wp_aload_n dX7_init_204 rfl ?_
    obtain ⟨x26, e28, h27⟩ := Option.bind_eq_some_iff.mp h24
    clear h24
    refine wp_getR okX7 (k := 2) (by decide) tw300 dX7_init_205 e28 ?_
    obtain ⟨q29, e31, h30⟩ := Option.bind_eq_some_iff.mp h27
    clear h27
    refine wp_Vv (As := [.ref x26]) (S := []) okM_X5_begin tw288 tw289 tw287 (OX5_begin e31) rfl rfl rfl ⟨(Nat.le_of_ble_eq_true rfl), (Nat.le_of_ble_eq_true rfl)⟩ (Nat.le_of_ble_eq_true rfl) rfl dX7_init_208 (MX5_begin e31) ?_
    cases h30
    exact wp_vret rfl dX7_init_211
  · rw [if_neg c4] at h2
    refine wp_aload_n dX7_init_158 rfl ?_
    obtain ⟨x32, e34, h33⟩ := Option.bind_eq_some_iff.mp h2
    clear h2
    refine wp_getR okX7 (k := 0) (by decide) tw298 dX7_init_159 e34 ?_
    refine wp_ldcS rfl dX7_init_162 ?_
    refine wp_iload_n dX7_init_164 rfl ?_
    obtain ⟨q35, e37, h36⟩ := Option.bind_eq_some_iff.mp h33
    clear h33
    refine wp_Xi (As := [.int l1]) (S := [.ref x32]) okM_J0_charAt_5068e rfl tw192 tw193 tw191 rfl ⟨(Nat.le_of_ble_eq_true rfl), (Nat.le_of_ble_eq_true rfl)⟩ (Nat.le_of_ble_eq_true rfl) rfl dX7_init_165 (MJ0_charAt_5068e e37) ?_
    obtain ⟨q38, e40, h39⟩ := Option.bind_eq_some_iff.mp h36
    clear h36
    refine wp_Vv (As := [.int q35.1]) (S := []) okM_X6_add tw230 tw231 tw229 (OX6_add e40) rfl rfl rfl ⟨(Nat.le_of_ble_eq_true rfl), (Nat.le_of_ble_eq_true rfl)⟩ (Nat.le_of_ble_eq_true rfl) rfl dX7_init_168 (MX6_add e40) ?_
    refine wp_iinc (v := (l1 + (1 : Int32))) (L1 := [some (.ref l0), some (.int (l1 + (1 : Int32)))]) dX7_init_171 (Nat.le_of_ble_eq_true rfl) rfl (congrArg (fun z => l1 + z) (by decide)) rfl ?_
    refine wp_goto (tgt := 149) dX7_init_174 (by decide) ?_
    exact WP.wk (hk0 _ _ _ _ h39) (And.intro rfl (And.intro rfl trivial))
def eX7_init (k : KTX7_init) (w : XW) (l0 : Nat) : Option XW :=
  (some (xpush w 2 (xo 6 [.null, .int 0]))).bind fun w1 =>
  (fX6_init w1 w.1).bind fun q4 =>
  (pV q4 l0 7 0 (.ref w.1)).bind fun w7 =>
  (some (xpush w7 1 (xo 4 [.null]))).bind fun w10 =>
  (fX4_init w10 w7.1).bind fun q13 =>
  (pV q13 l0 7 1 (.ref w7.1)).bind fun w16 =>
  (some (xpush w16 6 (xo 1 [.null, .null, .null, .null, .null, .int 0]))).bind fun w19 =>
  (fX1_init w19 w16.1).bind fun q22 =>
  (pV q22 l0 7 2 (.ref w16.1)).bind fun w25 =>
  (some (xpush w25 6 (xo 1 [.null, .null, .null, .null, .null, .int 0]))).bind fun w28 =>
  (fX1_init w28 w25.1).bind fun q31 =>
  (pV q31 l0 7 3 (.ref w25.1)).bind fun w34 =>
  (some (xpush w34 7 (xo 5 [.null, .null, .int 0, .int 0, .int 0, .int 0, .int 0]))).bind fun w37 =>
  (fX5_init w37 w34.1).bind fun q40 =>
  (pV q40 l0 7 4 (.ref w34.1)).bind fun w43 =>
  (some (xpush w43 7 (xo 5 [.null, .null, .int 0, .int 0, .int 0, .int 0, .int 0]))).bind fun w46 =>
  (fX5_init w46 w43.1).bind fun q49 =>
  (pV q49 l0 7 5 (.ref w43.1)).bind fun w52 =>
  (some (xpush w52 7 (xo 5 [.null, .null, .int 0, .int 0, .int 0, .int 0, .int 0]))).bind fun w55 =>
  (fX5_init w55 w52.1).bind fun q58 =>
  (pV q58 l0 7 6 (.ref w52.1)).bind fun w61 =>
  (some (xpush w61 3 (xo 3 [.null, .int 0, .int 0]))).bind fun w64 =>
  (fX3_init w64 w61.1).bind fun q67 =>
  (pV q67 l0 7 7 (.ref w61.1)).bind fun w70 =>
  (some (xpush w70 3 (xo 2 [.null, .null, .int 0]))).bind fun w73 =>
  (fX2_init w73 w70.1).bind fun q76 =>
  (pV q76 l0 7 8 (.ref w70.1)).bind fun w79 =>
  (some (xpush w79 6 (xi 0 6 (fun _ => 0)))).bind fun w82 =>
  (pV w82 l0 7 9 (.ref w79.1)).bind fun w85 =>
  (some (xpush w85 6 (xi 0 6 (fun _ => 0)))).bind fun w88 =>
  (pV w88 l0 7 10 (.ref w85.1)).bind fun w91 =>
  (some (xpush w91 366 (xi 0 366 (fun _ => 0)))).bind fun w94 =>
  (pV w94 l0 7 12 (.ref w91.1)).bind fun w97 =>
  (some (xpush w97 2 (xo 0 [.null, .null]))).bind fun w100 =>
  (fX0_init w100 w97.1).bind fun q103 =>
  (pV q103 l0 7 13 (.ref w97.1)).bind fun w106 =>
  (some (xpush w106 8 (xi 0 8 (fun _ => 0)))).bind fun w109 =>
  (pV w109 l0 7 14 (.ref w106.1)).bind fun w112 =>
  k w112 l0 (0 : Int32)
theorem EX7_init {K : CX} {l : Launch} {n0 k0 : Nat} {k : KTX7_init} (hk0 : ∀ (w : XW) (l0 : Nat) (l1 : Int32) (q : XW), k w l0 l1 = some q → WP K l mX7_init 6 144 n0 k0 none q 149 [some (.ref l0), some (.int l1)] [] w) {w : XW} {l0 : Nat} {q : XW} (h0 : eX7_init k w l0 = some q) : WP K l mX7_init 6 144 n0 k0 none q 0 [some (.ref l0), none] [] w := by
  unfold eX7_init at h0
  refine wp_aload_n dX7_init_0 rfl ?_
  refine wp_objI tw22 tw23 twObjCode ⟨(Nat.le_of_ble_eq_true rfl), (Nat.le_of_ble_eq_true rfl)⟩ rfl dX7_init_1 ?_
  refine wp_aload_n dX7_init_4 rfl ?_
  obtain ⟨w1, e3, h2⟩ := Option.bind_eq_some_iff.mp h0
  clear h0
  refine wp_new (fs := [.null, .int 0]) okX6 tw25 tw26 tw2 dX7_init_5 (by decide +kernel) rfl ?_
  rw [Option.some.inj e3]
  refine wp_dup dX7_init_8 rfl ?_
  obtain ⟨q4, e6, h5⟩ := Option.bind_eq_some_iff.mp h2
  clear h2
  refine wp_callIN (As := []) (S := [.ref w.1, .ref l0]) okM_X6_init rfl tw28 rfl (by decide) rfl ⟨(Nat.le_of_ble_eq_true rfl), (Nat.le_of_ble_eq_true rfl)⟩ (Nat.le_of_ble_eq_true rfl) rfl dX7_init_9 (MX6_init e6) ?_
  obtain ⟨w7, e9, h8⟩ := Option.bind_eq_some_iff.mp h5
  clear h5
  refine wp_putF okX7 (k := 0) (by decide) rfl rfl rfl tw298 dX7_init_12 rfl rfl e9 ?_
  refine wp_aload_n dX7_init_15 rfl ?_
  obtain ⟨w10, e12, h11⟩ := Option.bind_eq_some_iff.mp h8
  clear h8
  refine wp_new (fs := [.null]) okX4 tw41 tw42 tw3 dX7_init_16 (by decide +kernel) rfl ?_
  rw [Option.some.inj e12]
  refine wp_dup dX7_init_19 rfl ?_
  obtain ⟨q13, e15, h14⟩ := Option.bind_eq_some_iff.mp h11
  clear h11
  refine wp_callIN (As := []) (S := [.ref w7.1, .ref l0]) okM_X4_init rfl tw44 rfl (by decide) rfl ⟨(Nat.le_of_ble_eq_true rfl), (Nat.le_of_ble_eq_true rfl)⟩ (Nat.le_of_ble_eq_true rfl) rfl dX7_init_20 (MX4_init e15) ?_
  obtain ⟨w16, e18, h17⟩ := Option.bind_eq_some_iff.mp h14
  clear h14
  refine wp_putF okX7 (k := 1) (by decide) rfl rfl rfl tw299 dX7_init_23 rfl rfl e18 ?_
  refine wp_aload_n dX7_init_26 rfl ?_
  obtain ⟨w19, e21, h20⟩ := Option.bind_eq_some_iff.mp h17
  clear h17
  refine wp_new (fs := [.null, .null, .null, .null, .null, .int 0]) okX1 tw52 tw53 tw4 dX7_init_27 (by decide +kernel) rfl ?_
  rw [Option.some.inj e21]
  refine wp_dup dX7_init_30 rfl ?_
  obtain ⟨q22, e24, h23⟩ := Option.bind_eq_some_iff.mp h20
  clear h20
  refine wp_callIN (As := []) (S := [.ref w16.1, .ref l0]) okM_X1_init rfl tw55 rfl (by decide) rfl ⟨(Nat.le_of_ble_eq_true rfl), (Nat.le_of_ble_eq_true rfl)⟩ (Nat.le_of_ble_eq_true rfl) rfl dX7_init_31 (MX1_init e24) ?_
  obtain ⟨w25, e27, h26⟩ := Option.bind_eq_some_iff.mp h23
  clear h23
  refine wp_putF okX7 (k := 2) (by decide) rfl rfl rfl tw300 dX7_init_34 rfl rfl e27 ?_
  refine wp_aload_n dX7_init_37 rfl ?_
  obtain ⟨w28, e30, h29⟩ := Option.bind_eq_some_iff.mp h26
  clear h26
  refine wp_new (fs := [.null, .null, .null, .null, .null, .int 0]) okX1 tw52 tw53 tw4 dX7_init_38 (by decide +kernel) rfl ?_
  rw [Option.some.inj e30]
  refine wp_dup dX7_init_41 rfl ?_
  obtain ⟨q31, e33, h32⟩ := Option.bind_eq_some_iff.mp h29
  clear h29
  refine wp_callIN (As := []) (S := [.ref w25.1, .ref l0]) okM_X1_init rfl tw55 rfl (by decide) rfl ⟨(Nat.le_of_ble_eq_true rfl), (Nat.le_of_ble_eq_true rfl)⟩ (Nat.le_of_ble_eq_true rfl) rfl dX7_init_42 (MX1_init e33) ?_
  obtain ⟨w34, e36, h35⟩ := Option.bind_eq_some_iff.mp h32
  clear h32
  refine wp_putF okX7 (k := 3) (by decide) rfl rfl rfl tw301 dX7_init_45 rfl rfl e36 ?_
  refine wp_aload_n dX7_init_48 rfl ?_
  obtain ⟨w37, e39, h38⟩ := Option.bind_eq_some_iff.mp h35
  clear h35
  refine wp_new (fs := [.null, .null, .int 0, .int 0, .int 0, .int 0, .int 0]) okX5 tw86 tw87 tw5 dX7_init_49 (by decide +kernel) rfl ?_
  rw [Option.some.inj e39]
  refine wp_dup dX7_init_52 rfl ?_
  obtain ⟨q40, e42, h41⟩ := Option.bind_eq_some_iff.mp h38
  clear h38
  refine wp_callIN (As := []) (S := [.ref w34.1, .ref l0]) okM_X5_init rfl tw89 rfl (by decide) rfl ⟨(Nat.le_of_ble_eq_true rfl), (Nat.le_of_ble_eq_true rfl)⟩ (Nat.le_of_ble_eq_true rfl) rfl dX7_init_53 (MX5_init e42) ?_
  obtain ⟨w43, e45, h44⟩ := Option.bind_eq_some_iff.mp h41
  clear h41
  refine wp_putF okX7 (k := 4) (by decide) rfl rfl rfl tw302 dX7_init_56 rfl rfl e45 ?_
  refine wp_aload_n dX7_init_59 rfl ?_
  obtain ⟨w46, e48, h47⟩ := Option.bind_eq_some_iff.mp h44
  clear h44
  refine wp_new (fs := [.null, .null, .int 0, .int 0, .int 0, .int 0, .int 0]) okX5 tw86 tw87 tw5 dX7_init_60 (by decide +kernel) rfl ?_
  rw [Option.some.inj e48]
  refine wp_dup dX7_init_63 rfl ?_
  obtain ⟨q49, e51, h50⟩ := Option.bind_eq_some_iff.mp h47
  clear h47
  refine wp_callIN (As := []) (S := [.ref w43.1, .ref l0]) okM_X5_init rfl tw89 rfl (by decide) rfl ⟨(Nat.le_of_ble_eq_true rfl), (Nat.le_of_ble_eq_true rfl)⟩ (Nat.le_of_ble_eq_true rfl) rfl dX7_init_64 (MX5_init e51) ?_
  obtain ⟨w52, e54, h53⟩ := Option.bind_eq_some_iff.mp h50
  clear h50
  refine wp_putF okX7 (k := 5) (by decide) rfl rfl rfl tw303 dX7_init_67 rfl rfl e54 ?_
  refine wp_aload_n dX7_init_70 rfl ?_
  obtain ⟨w55, e57, h56⟩ := Option.bind_eq_some_iff.mp h53
  clear h53
  refine wp_new (fs := [.null, .null, .int 0, .int 0, .int 0, .int 0, .int 0]) okX5 tw86 tw87 tw5 dX7_init_71 (by decide +kernel) rfl ?_
  rw [Option.some.inj e57]
  refine wp_dup dX7_init_74 rfl ?_
  obtain ⟨q58, e60, h59⟩ := Option.bind_eq_some_iff.mp h56
  clear h56
  refine wp_callIN (As := []) (S := [.ref w52.1, .ref l0]) okM_X5_init rfl tw89 rfl (by decide) rfl ⟨(Nat.le_of_ble_eq_true rfl), (Nat.le_of_ble_eq_true rfl)⟩ (Nat.le_of_ble_eq_true rfl) rfl dX7_init_75 (MX5_init e60) ?_
  obtain ⟨w61, e63, h62⟩ := Option.bind_eq_some_iff.mp h59
  clear h59
  refine wp_putF okX7 (k := 6) (by decide) rfl rfl rfl tw304 dX7_init_78 rfl rfl e63 ?_
  refine wp_aload_n dX7_init_81 rfl ?_
  obtain ⟨w64, e66, h65⟩ := Option.bind_eq_some_iff.mp h62
  clear h62
  refine wp_new (fs := [.null, .int 0, .int 0]) okX3 tw124 tw125 tw6 dX7_init_82 (by decide +kernel) rfl ?_
  rw [Option.some.inj e66]
  refine wp_dup dX7_init_85 rfl ?_
  obtain ⟨q67, e69, h68⟩ := Option.bind_eq_some_iff.mp h65
  clear h65
  refine wp_callI (As := []) (S := [.ref w61.1, .ref l0]) okM_X3_init rfl tw127 rfl tw126 rfl ⟨(Nat.le_of_ble_eq_true rfl), (Nat.le_of_ble_eq_true rfl)⟩ (Nat.le_of_ble_eq_true rfl) rfl dX7_init_86 (MX3_init e69) ?_
  obtain ⟨w70, e72, h71⟩ := Option.bind_eq_some_iff.mp h68
  clear h68
  refine wp_putF okX7 (k := 7) (by decide) rfl rfl rfl tw305 dX7_init_89 rfl rfl e72 ?_
  refine wp_aload_n dX7_init_92 rfl ?_
  obtain ⟨w73, e75, h74⟩ := Option.bind_eq_some_iff.mp h71
  clear h71
  refine wp_new (fs := [.null, .null, .int 0]) okX2 tw144 tw145 tw7 dX7_init_93 (by decide +kernel) rfl ?_
  rw [Option.some.inj e75]
  refine wp_dup dX7_init_96 rfl ?_
  obtain ⟨q76, e78, h77⟩ := Option.bind_eq_some_iff.mp h74
  clear h74
  refine wp_callI (As := []) (S := [.ref w70.1, .ref l0]) okM_X2_init rfl tw147 rfl tw146 rfl ⟨(Nat.le_of_ble_eq_true rfl), (Nat.le_of_ble_eq_true rfl)⟩ (Nat.le_of_ble_eq_true rfl) rfl dX7_init_97 (MX2_init e78) ?_
  obtain ⟨w79, e81, h80⟩ := Option.bind_eq_some_iff.mp h77
  clear h77
  refine wp_putF okX7 (k := 8) (by decide) rfl rfl rfl tw306 dX7_init_100 rfl rfl e81 ?_
  refine wp_aload_n dX7_init_103 rfl ?_
  refine wp_bipush (v := (6 : Int32)) dX7_init_104 (by decide) ?_
  obtain ⟨w82, e84, h83⟩ := Option.bind_eq_some_iff.mp h80
  clear h80
  refine wp_newI (N := 6) tw51 dX7_init_106 (by decide) (by decide) (by decide) ?_
  rw [Option.some.inj e84]
  obtain ⟨w85, e87, h86⟩ := Option.bind_eq_some_iff.mp h83
  clear h83
  refine wp_putF okX7 (k := 9) (by decide) rfl rfl rfl tw307 dX7_init_108 rfl rfl e87 ?_
  refine wp_aload_n dX7_init_111 rfl ?_
  refine wp_bipush (v := (6 : Int32)) dX7_init_112 (by decide) ?_
  obtain ⟨w88, e90, h89⟩ := Option.bind_eq_some_iff.mp h86
  clear h86
  refine wp_newI (N := 6) tw51 dX7_init_114 (by decide) (by decide) (by decide) ?_
  rw [Option.some.inj e90]
  obtain ⟨w91, e93, h92⟩ := Option.bind_eq_some_iff.mp h89
  clear h89
  refine wp_putF okX7 (k := 10) (by decide) rfl rfl rfl tw308 dX7_init_116 rfl rfl e93 ?_
  refine wp_aload_n dX7_init_119 rfl ?_
  refine wp_sipush (v := (366 : Int32)) dX7_init_120 (by decide) ?_
  obtain ⟨w94, e96, h95⟩ := Option.bind_eq_some_iff.mp h92
  clear h92
  refine wp_newI (N := 366) tw51 dX7_init_123 (by decide) (by decide) (by decide) ?_
  rw [Option.some.inj e96]
  obtain ⟨w97, e99, h98⟩ := Option.bind_eq_some_iff.mp h95
  clear h95
  refine wp_putF okX7 (k := 12) (by decide) rfl rfl rfl tw310 dX7_init_125 rfl rfl e99 ?_
  refine wp_aload_n dX7_init_128 rfl ?_
  obtain ⟨w100, e102, h101⟩ := Option.bind_eq_some_iff.mp h98
  clear h98
  refine wp_new (fs := [.null, .null]) okX0 tw166 tw167 tw8 dX7_init_129 (by decide +kernel) rfl ?_
  rw [Option.some.inj e102]
  refine wp_dup dX7_init_132 rfl ?_
  obtain ⟨q103, e105, h104⟩ := Option.bind_eq_some_iff.mp h101
  clear h101
  refine wp_callIN (As := []) (S := [.ref w97.1, .ref l0]) okM_X0_init rfl tw169 rfl (by decide) rfl ⟨(Nat.le_of_ble_eq_true rfl), (Nat.le_of_ble_eq_true rfl)⟩ (Nat.le_of_ble_eq_true rfl) rfl dX7_init_133 (MX0_init e105) ?_
  obtain ⟨w106, e108, h107⟩ := Option.bind_eq_some_iff.mp h104
  clear h104
  refine wp_putF okX7 (k := 13) (by decide) rfl rfl rfl tw311 dX7_init_136 rfl rfl e108 ?_
  refine wp_aload_n dX7_init_139 rfl ?_
  refine wp_bipush (v := (8 : Int32)) dX7_init_140 (by decide) ?_
  obtain ⟨w109, e111, h110⟩ := Option.bind_eq_some_iff.mp h107
  clear h107
  refine wp_newI (N := 8) tw51 dX7_init_142 (by decide) (by decide) (by decide) ?_
  rw [Option.some.inj e111]
  obtain ⟨w112, e114, h113⟩ := Option.bind_eq_some_iff.mp h110
  clear h110
  refine wp_putF okX7 (k := 14) (by decide) rfl rfl rfl tw312 dX7_init_144 rfl rfl e114 ?_
  refine wp_iconst (v := (0 : Int32)) dX7_init_147 (by decide) ?_
  refine wp_istore_n (L1 := [some (.ref l0), some (.int (0 : Int32))]) dX7_init_148 (Nat.le_of_ble_eq_true rfl) rfl ?_
  exact WP.wk (hk0 _ _ _ _ h113) (And.intro rfl (And.intro rfl trivial))
def loX7_init : Nat → KTX7_init
  | 0 => fun _ _ _ => none
  | n + 1 => hX7_init_149 (loX7_init n)
theorem LOX7_init {K : CX} {l : Launch} {n0 k0 : Nat} : ∀ n : Nat, (∀ (w : XW) (l0 : Nat) (l1 : Int32) (q : XW), (loX7_init n) w l0 l1 = some q → WP K l mX7_init 6 144 n0 k0 none q 149 [some (.ref l0), some (.int l1)] [] w) := by
  intro n
  induction n with
  | zero => exact fun _ _ _ q h => (by cases h)
  | succ n ih => exact fun _ _ _ q h => HX7_init_149 ih h
def fX7_init (w : XW) (l0 : Nat) : Option XW := eX7_init (loX7_init FU) w l0
theorem MX7_init {K : CX} {l : Launch} {w : XW} {l0 : Nat} {q : XW} (h : fX7_init w l0 = some q) : MT K l mX7_init 6 144 [.ref l0] w none q := by
  unfold fX7_init at h
  exact MT.of (by decide) (Nat.le_of_ble_eq_true rfl) rfl (EX7_init (LOX7_init FU) h)
/-! FractionRunModel.prime(I)I: frames 1, words 20 -/
abbrev mX8_prime : MR := (⟨"FractionRunModel", "prime", "(I)I"⟩, prog_10_method_5_code, 1, (some .int))
theorem dX8_prime_0 : decode prog_10_method_5_code 0 = .ok (.iload_n 0, 1) := by decide +kernel
theorem dX8_prime_1 : decode prog_10_method_5_code 1 = .ok (.ifCond .ne 7, 3) := by decide +kernel
theorem dX8_prime_4 : decode prog_10_method_5_code 4 = .ok (.iconst 2, 1) := by decide +kernel
theorem dX8_prime_5 : decode prog_10_method_5_code 5 = .ok (.goto 43, 3) := by decide +kernel
theorem dX8_prime_8 : decode prog_10_method_5_code 8 = .ok (.iload_n 0, 1) := by decide +kernel
theorem dX8_prime_9 : decode prog_10_method_5_code 9 = .ok (.iconst 1, 1) := by decide +kernel
theorem dX8_prime_10 : decode prog_10_method_5_code 10 = .ok (.if_icmp .ne 7, 3) := by decide +kernel
theorem dX8_prime_13 : decode prog_10_method_5_code 13 = .ok (.iconst 3, 1) := by decide +kernel
theorem dX8_prime_14 : decode prog_10_method_5_code 14 = .ok (.goto 34, 3) := by decide +kernel
theorem dX8_prime_17 : decode prog_10_method_5_code 17 = .ok (.iload_n 0, 1) := by decide +kernel
theorem dX8_prime_18 : decode prog_10_method_5_code 18 = .ok (.iconst 2, 1) := by decide +kernel
theorem dX8_prime_19 : decode prog_10_method_5_code 19 = .ok (.if_icmp .ne 7, 3) := by decide +kernel
theorem dX8_prime_22 : decode prog_10_method_5_code 22 = .ok (.iconst 5, 1) := by decide +kernel
theorem dX8_prime_23 : decode prog_10_method_5_code 23 = .ok (.goto 25, 3) := by decide +kernel
theorem dX8_prime_26 : decode prog_10_method_5_code 26 = .ok (.iload_n 0, 1) := by decide +kernel
theorem dX8_prime_27 : decode prog_10_method_5_code 27 = .ok (.iconst 3, 1) := by decide +kernel
theorem dX8_prime_28 : decode prog_10_method_5_code 28 = .ok (.if_icmp .ne 8, 3) := by decide +kernel
theorem dX8_prime_31 : decode prog_10_method_5_code 31 = .ok (.bipush 7, 2) := by decide +kernel
theorem dX8_prime_33 : decode prog_10_method_5_code 33 = .ok (.goto 15, 3) := by decide +kernel
theorem dX8_prime_36 : decode prog_10_method_5_code 36 = .ok (.iload_n 0, 1) := by decide +kernel
theorem dX8_prime_37 : decode prog_10_method_5_code 37 = .ok (.iconst 4, 1) := by decide +kernel
theorem dX8_prime_38 : decode prog_10_method_5_code 38 = .ok (.if_icmp .ne 8, 3) := by decide +kernel
theorem dX8_prime_41 : decode prog_10_method_5_code 41 = .ok (.bipush 11, 2) := by decide +kernel
theorem dX8_prime_43 : decode prog_10_method_5_code 43 = .ok (.goto 5, 3) := by decide +kernel
theorem dX8_prime_46 : decode prog_10_method_5_code 46 = .ok (.bipush 13, 2) := by decide +kernel
theorem dX8_prime_48 : decode prog_10_method_5_code 48 = .ok (.ireturn, 1) := by decide +kernel
theorem okM_X8_prime : okM mX8_prime 1 := ⟨tw700, tw15, by decide, by decide, by decide +kernel⟩
def bX8_prime_48 (w : XW) (s0 : Int32) : Option (Int32 × XW) :=
  some (s0, w)
theorem BX8_prime_48 {K : CX} {l : Launch} {n0 k0 : Nat} {w : XW} {s0 : Int32} {q : Int32 × XW} (h0 : bX8_prime_48 w s0 = some q) : WP K l mX8_prime 1 20 n0 k0 (some (.int q.1)) q.2 48 [none] [.int s0] w := by
  unfold bX8_prime_48 at h0
  cases h0
  exact wp_iret rfl dX8_prime_48
def eX8_prime (w : XW) (l0 : Int32) : Option (Int32 × XW) :=
  if l0 = 0 then
  bX8_prime_48 w (2 : Int32)
  else
  if l0 = (1 : Int32) then
  bX8_prime_48 w (3 : Int32)
  else
  if l0 = (2 : Int32) then
  bX8_prime_48 w (5 : Int32)
  else
  if l0 = (3 : Int32) then
  bX8_prime_48 w (7 : Int32)
  else
  if l0 = (4 : Int32) then
  bX8_prime_48 w (11 : Int32)
  else
  bX8_prime_48 w (13 : Int32)
theorem EX8_prime {K : CX} {l : Launch} {n0 k0 : Nat} {w : XW} {l0 : Int32} {q : Int32 × XW} (h0 : eX8_prime w l0 = some q) : WP K l mX8_prime 1 20 n0 k0 (some (.int q.1)) q.2 0 [some (.int l0)] [] w := by
  unfold eX8_prime at h0
  refine wp_iload_n dX8_prime_0 rfl ?_
  refine wp_if_ne (tgt := 8) dX8_prime_1 (by decide) (fun c1 => ?_) (fun c1 => ?_)
  · rw [if_neg c1] at h0
    refine wp_iload_n dX8_prime_8 rfl ?_
    refine wp_iconst (v := (1 : Int32)) dX8_prime_9 (by decide) ?_
    refine wp_icmp_ne (tgt := 17) dX8_prime_10 (by decide) (fun c2 => ?_) (fun c2 => ?_)
    · rw [if_neg c2] at h0
      refine wp_iload_n dX8_prime_17 rfl ?_
      refine wp_iconst (v := (2 : Int32)) dX8_prime_18 (by decide) ?_
      refine wp_icmp_ne (tgt := 26) dX8_prime_19 (by decide) (fun c3 => ?_) (fun c3 => ?_)
      · rw [if_neg c3] at h0
        refine wp_iload_n dX8_prime_26 rfl ?_
        refine wp_iconst (v := (3 : Int32)) dX8_prime_27 (by decide) ?_
        refine wp_icmp_ne (tgt := 36) dX8_prime_28 (by decide) (fun c4 => ?_) (fun c4 => ?_)
        · rw [if_neg c4] at h0
          refine wp_iload_n dX8_prime_36 rfl ?_
          refine wp_iconst (v := (4 : Int32)) dX8_prime_37 (by decide) ?_
          refine wp_icmp_ne (tgt := 46) dX8_prime_38 (by decide) (fun c5 => ?_) (fun c5 => ?_)
          · rw [if_neg c5] at h0
            refine wp_bipush (v := (13 : Int32)) dX8_prime_46 (by decide) ?_
            exact WP.wk (BX8_prime_48 h0) trivial
          · rw [if_pos c5] at h0
            refine wp_bipush (v := (11 : Int32)) dX8_prime_41 (by decide) ?_
            refine wp_goto (tgt := 48) dX8_prime_43 (by decide) ?_
            exact WP.wk (BX8_prime_48 h0) trivial
        · rw [if_pos c4] at h0
          refine wp_bipush (v := (7 : Int32)) dX8_prime_31 (by decide) ?_
          refine wp_goto (tgt := 48) dX8_prime_33 (by decide) ?_
          exact WP.wk (BX8_prime_48 h0) trivial
      · rw [if_pos c3] at h0
        refine wp_iconst (v := (5 : Int32)) dX8_prime_22 (by decide) ?_
        refine wp_goto (tgt := 48) dX8_prime_23 (by decide) ?_
        exact WP.wk (BX8_prime_48 h0) trivial
    · rw [if_pos c2] at h0
      refine wp_iconst (v := (3 : Int32)) dX8_prime_13 (by decide) ?_
      refine wp_goto (tgt := 48) dX8_prime_14 (by decide) ?_
      exact WP.wk (BX8_prime_48 h0) trivial
  · rw [if_pos c1] at h0
    refine wp_iconst (v := (2 : Int32)) dX8_prime_4 (by decide) ?_
    refine wp_goto (tgt := 48) dX8_prime_5 (by decide) ?_
    exact WP.wk (BX8_prime_48 h0) trivial
def fX8_prime (w : XW) (l0 : Int32) : Option (Int32 × XW) := eX8_prime w l0
theorem MX8_prime {K : CX} {l : Launch} {w : XW} {l0 : Int32} {q : Int32 × XW} (h : fX8_prime w l0 = some q) : MT K l mX8_prime 1 20 [.int l0] w (some (.int q.1)) q.2 := by
  unfold fX8_prime at h
  exact MT.of (by decide) (Nat.le_of_ble_eq_true rfl) rfl (EX8_prime h)
/-! FractionRunModel.powerIn(II)I: frames 2, words 40 -/
abbrev mX8_powerIn : MR := (⟨"FractionRunModel", "powerIn", "(II)I"⟩, prog_10_method_6_code, 4, (some .int))
theorem dX8_powerIn_0 : decode prog_10_method_6_code 0 = .ok (.iload_n 0, 1) := by decide +kernel
theorem dX8_powerIn_1 : decode prog_10_method_6_code 1 = .ok (.istore_n 2, 1) := by decide +kernel
theorem dX8_powerIn_2 : decode prog_10_method_6_code 2 = .ok (.iconst 0, 1) := by decide +kernel
theorem dX8_powerIn_3 : decode prog_10_method_6_code 3 = .ok (.istore_n 3, 1) := by decide +kernel
theorem dX8_powerIn_4 : decode prog_10_method_6_code 4 = .ok (.iload_n 2, 1) := by decide +kernel
theorem dX8_powerIn_5 : decode prog_10_method_6_code 5 = .ok (.iload_n 1, 1) := by decide +kernel
theorem dX8_powerIn_6 : decode prog_10_method_6_code 6 = .ok (.invokestatic 64, 3) := by decide +kernel
theorem dX8_powerIn_9 : decode prog_10_method_6_code 9 = .ok (.irem, 1) := by decide +kernel
theorem dX8_powerIn_10 : decode prog_10_method_6_code 10 = .ok (.ifCond .ne 16, 3) := by decide +kernel
theorem dX8_powerIn_13 : decode prog_10_method_6_code 13 = .ok (.iload_n 2, 1) := by decide +kernel
theorem dX8_powerIn_14 : decode prog_10_method_6_code 14 = .ok (.iload_n 1, 1) := by decide +kernel
theorem dX8_powerIn_15 : decode prog_10_method_6_code 15 = .ok (.invokestatic 64, 3) := by decide +kernel
theorem dX8_powerIn_18 : decode prog_10_method_6_code 18 = .ok (.idiv, 1) := by decide +kernel
theorem dX8_powerIn_19 : decode prog_10_method_6_code 19 = .ok (.istore_n 2, 1) := by decide +kernel
theorem dX8_powerIn_20 : decode prog_10_method_6_code 20 = .ok (.iinc 3 1, 3) := by decide +kernel
theorem dX8_powerIn_23 : decode prog_10_method_6_code 23 = .ok (.goto (-19), 3) := by decide +kernel
theorem dX8_powerIn_26 : decode prog_10_method_6_code 26 = .ok (.iload_n 3, 1) := by decide +kernel
theorem dX8_powerIn_27 : decode prog_10_method_6_code 27 = .ok (.ireturn, 1) := by decide +kernel
theorem okM_X8_powerIn : okM mX8_powerIn 2 := ⟨tw697, tw15, by decide, by decide, by decide +kernel⟩
abbrev KTX8_powerIn : Type := (XW → Int32 → Int32 → Int32 → Option (Int32 × XW))
def hX8_powerIn_4 (k : KTX8_powerIn) (w : XW) (l1 : Int32) (l2 : Int32) (l3 : Int32) : Option (Int32 × XW) :=
  (fX8_prime w l1).bind fun q1 =>
  if q1.1 = 0 then none else
  if (irm l2 q1.1) = 0 then
  (fX8_prime q1.2 l1).bind fun q7 =>
  if q7.1 = 0 then none else
  k q7.2 l1 (l2 / q7.1) (l3 + (1 : Int32))
  else
  some (l3, q1.2)
theorem HX8_powerIn_4 {K : CX} {l : Launch} {n0 k0 : Nat} {k : KTX8_powerIn} (hk0 : ∀ (w : XW) (l1 : Int32) (l2 : Int32) (l3 : Int32) (q : Int32 × XW), k w l1 l2 l3 = some q → WP K l mX8_powerIn 2 40 n0 k0 (some (.int q.1)) q.2 4 [none, some (.int l1), some (.int l2), some (.int l3)] [] w) {w : XW} {l1 : Int32} {l2 : Int32} {l3 : Int32} {q : Int32 × XW} (h0 : hX8_powerIn_4 k w l1 l2 l3 = some q) : WP K l mX8_powerIn 2 40 n0 k0 (some (.int q.1)) q.2 4 [none, some (.int l1), some (.int l2), some (.int l3)] [] w := by
  unfold hX8_powerIn_4 at h0
  refine wp_iload_n dX8_powerIn_4 rfl ?_
  refine wp_iload_n dX8_powerIn_5 rfl ?_
  obtain ⟨q1, e3, h2⟩ := Option.bind_eq_some_iff.mp h0
  clear h0
  refine wp_Si (As := [.int l1]) (S := [.int l2]) okM_X8_prime tw699 tw698 rfl ⟨(Nat.le_of_ble_eq_true rfl), (Nat.le_of_ble_eq_true rfl)⟩ (Nat.le_of_ble_eq_true rfl) rfl dX8_powerIn_6 (MX8_prime e3) ?_
  have c4 : ¬ q1.1 = 0 := by intro z; rw [if_pos z] at h2; cases h2
  rw [if_neg c4] at h2
  have h5 := h2; clear h2
  refine wp_irm dX8_powerIn_9 c4 ?_
  refine wp_if_ne (tgt := 26) dX8_powerIn_10 (by decide) (fun c6 => ?_) (fun c6 => ?_)
  · rw [if_neg c6] at h5
    refine wp_iload_n dX8_powerIn_26 rfl ?_
    cases h5
    exact wp_iret rfl dX8_powerIn_27
  · rw [if_pos c6] at h5
    refine wp_iload_n dX8_powerIn_13 rfl ?_
    refine wp_iload_n dX8_powerIn_14 rfl ?_
    obtain ⟨q7, e9, h8⟩ := Option.bind_eq_some_iff.mp h5
    clear h5
    refine wp_Si (As := [.int l1]) (S := [.int l2]) okM_X8_prime tw699 tw698 rfl ⟨(Nat.le_of_ble_eq_true rfl), (Nat.le_of_ble_eq_true rfl)⟩ (Nat.le_of_ble_eq_true rfl) rfl dX8_powerIn_15 (MX8_prime e9) ?_
    have c10 : ¬ q7.1 = 0 := by intro z; rw [if_pos z] at h8; cases h8
    rw [if_neg c10] at h8
    have h11 := h8; clear h8
    refine wp_idiv dX8_powerIn_18 c10 ?_
    refine wp_istore_n (L1 := [none, some (.int l1), some (.int (l2 / q7.1)), some (.int l3)]) dX8_powerIn_19 (Nat.le_of_ble_eq_true rfl) rfl ?_
    refine wp_iinc (v := (l3 + (1 : Int32))) (L1 := [none, some (.int l1), some (.int (l2 / q7.1)), some (.int (l3 + (1 : Int32)))]) dX8_powerIn_20 (Nat.le_of_ble_eq_true rfl) rfl (congrArg (fun z => l3 + z) (by decide)) rfl ?_
    refine wp_goto (tgt := 4) dX8_powerIn_23 (by decide) ?_
    exact WP.wk (hk0 _ _ _ _ _ h11) (And.intro rfl (And.intro rfl (And.intro rfl trivial)))
def eX8_powerIn (k : KTX8_powerIn) (w : XW) (l0 : Int32) (l1 : Int32) : Option (Int32 × XW) :=
  k w l1 l0 (0 : Int32)
theorem EX8_powerIn {K : CX} {l : Launch} {n0 k0 : Nat} {k : KTX8_powerIn} (hk0 : ∀ (w : XW) (l1 : Int32) (l2 : Int32) (l3 : Int32) (q : Int32 × XW), k w l1 l2 l3 = some q → WP K l mX8_powerIn 2 40 n0 k0 (some (.int q.1)) q.2 4 [none, some (.int l1), some (.int l2), some (.int l3)] [] w) {w : XW} {l0 : Int32} {l1 : Int32} {q : Int32 × XW} (h0 : eX8_powerIn k w l0 l1 = some q) : WP K l mX8_powerIn 2 40 n0 k0 (some (.int q.1)) q.2 0 [some (.int l0), some (.int l1), none, none] [] w := by
  unfold eX8_powerIn at h0
  refine wp_iload_n dX8_powerIn_0 rfl ?_
  refine wp_istore_n (L1 := [some (.int l0), some (.int l1), some (.int l0), none]) dX8_powerIn_1 (Nat.le_of_ble_eq_true rfl) rfl ?_
  refine wp_iconst (v := (0 : Int32)) dX8_powerIn_2 (by decide) ?_
  refine wp_istore_n (L1 := [some (.int l0), some (.int l1), some (.int l0), some (.int (0 : Int32))]) dX8_powerIn_3 (Nat.le_of_ble_eq_true rfl) rfl ?_
  exact WP.wk (hk0 _ _ _ _ _ h0) (And.intro rfl (And.intro rfl (And.intro rfl trivial)))
def loX8_powerIn : Nat → KTX8_powerIn
  | 0 => fun _ _ _ _ => none
  | n + 1 => hX8_powerIn_4 (loX8_powerIn n)
theorem LOX8_powerIn {K : CX} {l : Launch} {n0 k0 : Nat} : ∀ n : Nat, (∀ (w : XW) (l1 : Int32) (l2 : Int32) (l3 : Int32) (q : Int32 × XW), (loX8_powerIn n) w l1 l2 l3 = some q → WP K l mX8_powerIn 2 40 n0 k0 (some (.int q.1)) q.2 4 [none, some (.int l1), some (.int l2), some (.int l3)] [] w) := by
  intro n
  induction n with
  | zero => exact fun _ _ _ _ q h => (by cases h)
  | succ n ih => exact fun _ _ _ _ q h => HX8_powerIn_4 ih h
def fX8_powerIn (w : XW) (l0 : Int32) (l1 : Int32) : Option (Int32 × XW) := eX8_powerIn (loX8_powerIn FU) w l0 l1
theorem MX8_powerIn {K : CX} {l : Launch} {w : XW} {l0 : Int32} {l1 : Int32} {q : Int32 × XW} (h : fX8_powerIn w l0 l1 = some q) : MT K l mX8_powerIn 2 40 [.int l0, .int l1] w (some (.int q.1)) q.2 := by
  unfold fX8_powerIn at h
  exact MT.of (by decide) (Nat.le_of_ble_eq_true rfl) rfl (EX8_powerIn (LOX8_powerIn FU) h)
/-! FractionRunModel.tells(III)V: frames 3, words 63 -/
abbrev mX8_tells : MR := (⟨"FractionRunModel", "tells", "(III)V"⟩, prog_10_method_8_code, 5, none)
theorem dX8_tells_0 : decode prog_10_method_8_code 0 = .ok (.aload_n 0, 1) := by decide +kernel
theorem dX8_tells_1 : decode prog_10_method_8_code 1 = .ok (.getfield 16, 3) := by decide +kernel
theorem dX8_tells_4 : decode prog_10_method_8_code 4 = .ok (.aload_n 0, 1) := by decide +kernel
theorem dX8_tells_5 : decode prog_10_method_8_code 5 = .ok (.getfield 53, 3) := by decide +kernel
theorem dX8_tells_8 : decode prog_10_method_8_code 8 = .ok (.iload_n 3, 1) := by decide +kernel
theorem dX8_tells_9 : decode prog_10_method_8_code 9 = .ok (.iastore, 1) := by decide +kernel
theorem dX8_tells_10 : decode prog_10_method_8_code 10 = .ok (.iconst 0, 1) := by decide +kernel
theorem dX8_tells_11 : decode prog_10_method_8_code 11 = .ok (.istore 4, 2) := by decide +kernel
theorem dX8_tells_13 : decode prog_10_method_8_code 13 = .ok (.iload 4, 2) := by decide +kernel
theorem dX8_tells_15 : decode prog_10_method_8_code 15 = .ok (.bipush 6, 2) := by decide +kernel
theorem dX8_tells_17 : decode prog_10_method_8_code 17 = .ok (.if_icmp .ge 37, 3) := by decide +kernel
theorem dX8_tells_20 : decode prog_10_method_8_code 20 = .ok (.aload_n 0, 1) := by decide +kernel
theorem dX8_tells_21 : decode prog_10_method_8_code 21 = .ok (.getfield 19, 3) := by decide +kernel
theorem dX8_tells_24 : decode prog_10_method_8_code 24 = .ok (.bipush 6, 2) := by decide +kernel
theorem dX8_tells_26 : decode prog_10_method_8_code 26 = .ok (.aload_n 0, 1) := by decide +kernel
theorem dX8_tells_27 : decode prog_10_method_8_code 27 = .ok (.getfield 53, 3) := by decide +kernel
theorem dX8_tells_30 : decode prog_10_method_8_code 30 = .ok (.imul, 1) := by decide +kernel
theorem dX8_tells_31 : decode prog_10_method_8_code 31 = .ok (.iload 4, 2) := by decide +kernel
theorem dX8_tells_33 : decode prog_10_method_8_code 33 = .ok (.iadd, 1) := by decide +kernel
theorem dX8_tells_34 : decode prog_10_method_8_code 34 = .ok (.iload_n 1, 1) := by decide +kernel
theorem dX8_tells_35 : decode prog_10_method_8_code 35 = .ok (.iload 4, 2) := by decide +kernel
theorem dX8_tells_37 : decode prog_10_method_8_code 37 = .ok (.invokestatic 68, 3) := by decide +kernel
theorem dX8_tells_40 : decode prog_10_method_8_code 40 = .ok (.iload_n 2, 1) := by decide +kernel
theorem dX8_tells_41 : decode prog_10_method_8_code 41 = .ok (.iload 4, 2) := by decide +kernel
theorem dX8_tells_43 : decode prog_10_method_8_code 43 = .ok (.invokestatic 68, 3) := by decide +kernel
theorem dX8_tells_46 : decode prog_10_method_8_code 46 = .ok (.isub, 1) := by decide +kernel
theorem dX8_tells_47 : decode prog_10_method_8_code 47 = .ok (.iastore, 1) := by decide +kernel
theorem dX8_tells_48 : decode prog_10_method_8_code 48 = .ok (.iinc 4 1, 3) := by decide +kernel
theorem dX8_tells_51 : decode prog_10_method_8_code 51 = .ok (.goto (-38), 3) := by decide +kernel
theorem dX8_tells_54 : decode prog_10_method_8_code 54 = .ok (.aload_n 0, 1) := by decide +kernel
theorem dX8_tells_55 : decode prog_10_method_8_code 55 = .ok (.dup, 1) := by decide +kernel
theorem dX8_tells_56 : decode prog_10_method_8_code 56 = .ok (.getfield 53, 3) := by decide +kernel
theorem dX8_tells_59 : decode prog_10_method_8_code 59 = .ok (.iconst 1, 1) := by decide +kernel
theorem dX8_tells_60 : decode prog_10_method_8_code 60 = .ok (.iadd, 1) := by decide +kernel
theorem dX8_tells_61 : decode prog_10_method_8_code 61 = .ok (.putfield 53, 3) := by decide +kernel
theorem dX8_tells_64 : decode prog_10_method_8_code 64 = .ok (.return_, 1) := by decide +kernel
theorem okM_X8_tells : okM mX8_tells 3 := ⟨tw694, tw15, by decide, by decide, by decide +kernel⟩
abbrev KTX8_tells : Type := (XW → Nat → Int32 → Int32 → Int32 → Option XW)
def hX8_tells_13 (k : KTX8_tells) (w : XW) (l0 : Nat) (l1 : Int32) (l2 : Int32) (l4 : Int32) : Option XW :=
  if (6 : Int32) ≤ l4 then
  (gI w l0 8 3).bind fun x2 =>
  (pV w l0 8 3 (.int (x2 + (1 : Int32)))).bind fun w5 =>
  some w5
  else
  (gR w l0 8 5).bind fun x8 =>
  (gI w l0 8 3).bind fun x11 =>
  (fX8_powerIn w l1 l4).bind fun q14 =>
  (fX8_powerIn q14.2 l2 l4).bind fun q17 =>
  (sI q17.2 0 x8 (((6 : Int32) * x11) + l4) (q14.1 - q17.1)).bind fun w20 =>
  k w20 l0 l1 l2 (l4 + (1 : Int32))
theorem HX8_tells_13 {K : CX} {l : Launch} {n0 k0 : Nat} {k : KTX8_tells} (hk0 : ∀ (w : XW) (l0 : Nat) (l1 : Int32) (l2 : Int32) (l4 : Int32) (q : XW), k w l0 l1 l2 l4 = some q → WP K l mX8_tells 3 63 n0 k0 none q 13 [some (.ref l0), some (.int l1), some (.int l2), none, some (.int l4)] [] w) {w : XW} {l0 : Nat} {l1 : Int32} {l2 : Int32} {l4 : Int32} {q : XW} (h0 : hX8_tells_13 k w l0 l1 l2 l4 = some q) : WP K l mX8_tells 3 63 n0 k0 none q 13 [some (.ref l0), some (.int l1), some (.int l2), none, some (.int l4)] [] w := by
  unfold hX8_tells_13 at h0
  refine wp_iload dX8_tells_13 rfl ?_
  refine wp_bipush (v := (6 : Int32)) dX8_tells_15 (by decide) ?_
  refine wp_icmp_ge (tgt := 54) dX8_tells_17 (by decide) (fun c1 => ?_) (fun c1 => ?_)
  · rw [if_pos c1] at h0
    refine wp_aload_n dX8_tells_54 rfl ?_
    refine wp_dup dX8_tells_55 rfl ?_
    obtain ⟨x2, e4, h3⟩ := Option.bind_eq_some_iff.mp h0
    clear h0
    refine wp_getI okX8 (k := 3) (by decide) tw708 dX8_tells_56 e4 ?_
    refine wp_iconst (v := (1 : Int32)) dX8_tells_59 (by decide) ?_
    refine wp_iadd dX8_tells_60 ?_
    obtain ⟨w5, e7, h6⟩ := Option.bind_eq_some_iff.mp h3
    clear h3
    refine wp_putV okX8 (k := 3) (by decide) rfl tw708 dX8_tells_61 rfl rfl e7 ?_
    cases h6
    exact wp_vret rfl dX8_tells_64
  · rw [if_neg c1] at h0
    refine wp_aload_n dX8_tells_20 rfl ?_
    obtain ⟨x8, e10, h9⟩ := Option.bind_eq_some_iff.mp h0
    clear h0
    refine wp_getR okX8 (k := 5) (by decide) tw710 dX8_tells_21 e10 ?_
    refine wp_bipush (v := (6 : Int32)) dX8_tells_24 (by decide) ?_
    refine wp_aload_n dX8_tells_26 rfl ?_
    obtain ⟨x11, e13, h12⟩ := Option.bind_eq_some_iff.mp h9
    clear h9
    refine wp_getI okX8 (k := 3) (by decide) tw708 dX8_tells_27 e13 ?_
    refine wp_imul dX8_tells_30 ?_
    refine wp_iload dX8_tells_31 rfl ?_
    refine wp_iadd dX8_tells_33 ?_
    refine wp_iload_n dX8_tells_34 rfl ?_
    refine wp_iload dX8_tells_35 rfl ?_
    obtain ⟨q14, e16, h15⟩ := Option.bind_eq_some_iff.mp h12
    clear h12
    refine wp_Si (As := [.int l1, .int l4]) (S := [.int (((6 : Int32) * x11) + l4), .ref x8]) okM_X8_powerIn tw696 tw695 rfl ⟨(Nat.le_of_ble_eq_true rfl), (Nat.le_of_ble_eq_true rfl)⟩ (Nat.le_of_ble_eq_true rfl) rfl dX8_tells_37 (MX8_powerIn e16) ?_
    refine wp_iload_n dX8_tells_40 rfl ?_
    refine wp_iload dX8_tells_41 rfl ?_
    obtain ⟨q17, e19, h18⟩ := Option.bind_eq_some_iff.mp h15
    clear h15
    refine wp_Si (As := [.int l2, .int l4]) (S := [.int q14.1, .int (((6 : Int32) * x11) + l4), .ref x8]) okM_X8_powerIn tw696 tw695 rfl ⟨(Nat.le_of_ble_eq_true rfl), (Nat.le_of_ble_eq_true rfl)⟩ (Nat.le_of_ble_eq_true rfl) rfl dX8_tells_43 (MX8_powerIn e19) ?_
    refine wp_isub dX8_tells_46 ?_
    obtain ⟨w20, e22, h21⟩ := Option.bind_eq_some_iff.mp h18
    clear h18
    refine wp_iast dX8_tells_47 e22 ?_
    refine wp_iinc (v := (l4 + (1 : Int32))) (L1 := [some (.ref l0), some (.int l1), some (.int l2), none, some (.int (l4 + (1 : Int32)))]) dX8_tells_48 (Nat.le_of_ble_eq_true rfl) rfl (congrArg (fun z => l4 + z) (by decide)) rfl ?_
    refine wp_goto (tgt := 13) dX8_tells_51 (by decide) ?_
    exact WP.wk (hk0 _ _ _ _ _ _ h21) (And.intro rfl (And.intro rfl (And.intro rfl (And.intro rfl trivial))))
def eX8_tells (k : KTX8_tells) (w : XW) (l0 : Nat) (l1 : Int32) (l2 : Int32) (l3 : Int32) : Option XW :=
  (gR w l0 8 4).bind fun x1 =>
  (gI w l0 8 3).bind fun x4 =>
  (sI w 0 x1 x4 l3).bind fun w7 =>
  k w7 l0 l1 l2 (0 : Int32)
theorem EX8_tells {K : CX} {l : Launch} {n0 k0 : Nat} {k : KTX8_tells} (hk0 : ∀ (w : XW) (l0 : Nat) (l1 : Int32) (l2 : Int32) (l4 : Int32) (q : XW), k w l0 l1 l2 l4 = some q → WP K l mX8_tells 3 63 n0 k0 none q 13 [some (.ref l0), some (.int l1), some (.int l2), none, some (.int l4)] [] w) {w : XW} {l0 : Nat} {l1 : Int32} {l2 : Int32} {l3 : Int32} {q : XW} (h0 : eX8_tells k w l0 l1 l2 l3 = some q) : WP K l mX8_tells 3 63 n0 k0 none q 0 [some (.ref l0), some (.int l1), some (.int l2), some (.int l3), none] [] w := by
  unfold eX8_tells at h0
  refine wp_aload_n dX8_tells_0 rfl ?_
  obtain ⟨x1, e3, h2⟩ := Option.bind_eq_some_iff.mp h0
  clear h0
  refine wp_getR okX8 (k := 4) (by decide) tw709 dX8_tells_1 e3 ?_
  refine wp_aload_n dX8_tells_4 rfl ?_
  obtain ⟨x4, e6, h5⟩ := Option.bind_eq_some_iff.mp h2
  clear h2
  refine wp_getI okX8 (k := 3) (by decide) tw708 dX8_tells_5 e6 ?_
  refine wp_iload_n dX8_tells_8 rfl ?_
  obtain ⟨w7, e9, h8⟩ := Option.bind_eq_some_iff.mp h5
  clear h5
  refine wp_iast dX8_tells_9 e9 ?_
  refine wp_iconst (v := (0 : Int32)) dX8_tells_10 (by decide) ?_
  refine wp_istore (L1 := [some (.ref l0), some (.int l1), some (.int l2), some (.int l3), some (.int (0 : Int32))]) dX8_tells_11 (Nat.le_of_ble_eq_true rfl) rfl ?_
  exact WP.wk (hk0 _ _ _ _ _ _ h8) (And.intro rfl (And.intro rfl (And.intro rfl (And.intro rfl trivial))))
def loX8_tells : Nat → KTX8_tells
  | 0 => fun _ _ _ _ _ => none
  | n + 1 => hX8_tells_13 (loX8_tells n)
theorem LOX8_tells {K : CX} {l : Launch} {n0 k0 : Nat} : ∀ n : Nat, (∀ (w : XW) (l0 : Nat) (l1 : Int32) (l2 : Int32) (l4 : Int32) (q : XW), (loX8_tells n) w l0 l1 l2 l4 = some q → WP K l mX8_tells 3 63 n0 k0 none q 13 [some (.ref l0), some (.int l1), some (.int l2), none, some (.int l4)] [] w) := by
  intro n
  induction n with
  | zero => exact fun _ _ _ _ _ q h => (by cases h)
  | succ n ih => exact fun _ _ _ _ _ q h => HX8_tells_13 ih h
def fX8_tells (w : XW) (l0 : Nat) (l1 : Int32) (l2 : Int32) (l3 : Int32) : Option XW := if isO w l0 8 = true then eX8_tells (loX8_tells FU) w l0 l1 l2 l3 else none
theorem OX8_tells {w : XW} {l0 : Nat} {l1 : Int32} {l2 : Int32} {l3 : Int32} {q : XW} (h : fX8_tells w l0 l1 l2 l3 = some q) : isO w l0 8 = true := Decidable.byContradiction fun z => by unfold fX8_tells at h; rw [if_neg z] at h; cases h
theorem MX8_tells {K : CX} {l : Launch} {w : XW} {l0 : Nat} {l1 : Int32} {l2 : Int32} {l3 : Int32} {q : XW} (h : fX8_tells w l0 l1 l2 l3 = some q) : MT K l mX8_tells 3 63 [.ref l0, .int l1, .int l2, .int l3] w none q := by
  have z := OX8_tells h
  unfold fX8_tells at h
  rw [if_pos z] at h
  exact MT.of (by decide) (Nat.le_of_ble_eq_true rfl) rfl (EX8_tells (LOX8_tells FU) h)
/-! FractionRunModel.settles()V: frames 1, words 20 -/
abbrev mX8_settles : MR := (⟨"FractionRunModel", "settles", "()V"⟩, prog_10_method_9_code, 2, none)
theorem dX8_settles_0 : decode prog_10_method_9_code 0 = .ok (.aload_n 0, 1) := by decide +kernel
theorem dX8_settles_1 : decode prog_10_method_9_code 1 = .ok (.aload_n 0, 1) := by decide +kernel
theorem dX8_settles_2 : decode prog_10_method_9_code 2 = .ok (.getfield 53, 3) := by decide +kernel
theorem dX8_settles_5 : decode prog_10_method_9_code 5 = .ok (.putfield 72, 3) := by decide +kernel
theorem dX8_settles_8 : decode prog_10_method_9_code 8 = .ok (.iconst 0, 1) := by decide +kernel
theorem dX8_settles_9 : decode prog_10_method_9_code 9 = .ok (.istore_n 1, 1) := by decide +kernel
theorem dX8_settles_10 : decode prog_10_method_9_code 10 = .ok (.iload_n 1, 1) := by decide +kernel
theorem dX8_settles_11 : decode prog_10_method_9_code 11 = .ok (.bipush 18, 2) := by decide +kernel
theorem dX8_settles_13 : decode prog_10_method_9_code 13 = .ok (.if_icmp .ge 16, 3) := by decide +kernel
theorem dX8_settles_16 : decode prog_10_method_9_code 16 = .ok (.aload_n 0, 1) := by decide +kernel
theorem dX8_settles_17 : decode prog_10_method_9_code 17 = .ok (.getfield 25, 3) := by decide +kernel
theorem dX8_settles_20 : decode prog_10_method_9_code 20 = .ok (.iload_n 1, 1) := by decide +kernel
theorem dX8_settles_21 : decode prog_10_method_9_code 21 = .ok (.iconst 0, 1) := by decide +kernel
theorem dX8_settles_22 : decode prog_10_method_9_code 22 = .ok (.iastore, 1) := by decide +kernel
theorem dX8_settles_23 : decode prog_10_method_9_code 23 = .ok (.iinc 1 1, 3) := by decide +kernel
theorem dX8_settles_26 : decode prog_10_method_9_code 26 = .ok (.goto (-16), 3) := by decide +kernel
theorem dX8_settles_29 : decode prog_10_method_9_code 29 = .ok (.iconst 0, 1) := by decide +kernel
theorem dX8_settles_30 : decode prog_10_method_9_code 30 = .ok (.istore_n 1, 1) := by decide +kernel
theorem dX8_settles_31 : decode prog_10_method_9_code 31 = .ok (.iload_n 1, 1) := by decide +kernel
theorem dX8_settles_32 : decode prog_10_method_9_code 32 = .ok (.aload_n 0, 1) := by decide +kernel
theorem dX8_settles_33 : decode prog_10_method_9_code 33 = .ok (.getfield 72, 3) := by decide +kernel
theorem dX8_settles_36 : decode prog_10_method_9_code 36 = .ok (.if_icmp .ge 31, 3) := by decide +kernel
theorem dX8_settles_39 : decode prog_10_method_9_code 39 = .ok (.aload_n 0, 1) := by decide +kernel
theorem dX8_settles_40 : decode prog_10_method_9_code 40 = .ok (.getfield 7, 3) := by decide +kernel
theorem dX8_settles_43 : decode prog_10_method_9_code 43 = .ok (.iload_n 1, 1) := by decide +kernel
theorem dX8_settles_44 : decode prog_10_method_9_code 44 = .ok (.aload_n 0, 1) := by decide +kernel
theorem dX8_settles_45 : decode prog_10_method_9_code 45 = .ok (.getfield 16, 3) := by decide +kernel
theorem dX8_settles_48 : decode prog_10_method_9_code 48 = .ok (.iload_n 1, 1) := by decide +kernel
theorem dX8_settles_49 : decode prog_10_method_9_code 49 = .ok (.iaload, 1) := by decide +kernel
theorem dX8_settles_50 : decode prog_10_method_9_code 50 = .ok (.iastore, 1) := by decide +kernel
theorem dX8_settles_51 : decode prog_10_method_9_code 51 = .ok (.aload_n 0, 1) := by decide +kernel
theorem dX8_settles_52 : decode prog_10_method_9_code 52 = .ok (.getfield 25, 3) := by decide +kernel
theorem dX8_settles_55 : decode prog_10_method_9_code 55 = .ok (.bipush 6, 2) := by decide +kernel
theorem dX8_settles_57 : decode prog_10_method_9_code 57 = .ok (.iload_n 1, 1) := by decide +kernel
theorem dX8_settles_58 : decode prog_10_method_9_code 58 = .ok (.iadd, 1) := by decide +kernel
theorem dX8_settles_59 : decode prog_10_method_9_code 59 = .ok (.iload_n 1, 1) := by decide +kernel
theorem dX8_settles_60 : decode prog_10_method_9_code 60 = .ok (.iastore, 1) := by decide +kernel
theorem dX8_settles_61 : decode prog_10_method_9_code 61 = .ok (.iinc 1 1, 3) := by decide +kernel
theorem dX8_settles_64 : decode prog_10_method_9_code 64 = .ok (.goto (-33), 3) := by decide +kernel
theorem dX8_settles_67 : decode prog_10_method_9_code 67 = .ok (.iconst 0, 1) := by decide +kernel
theorem dX8_settles_68 : decode prog_10_method_9_code 68 = .ok (.istore_n 1, 1) := by decide +kernel
theorem dX8_settles_69 : decode prog_10_method_9_code 69 = .ok (.iload_n 1, 1) := by decide +kernel
theorem dX8_settles_70 : decode prog_10_method_9_code 70 = .ok (.bipush 48, 2) := by decide +kernel
theorem dX8_settles_72 : decode prog_10_method_9_code 72 = .ok (.if_icmp .ge 21, 3) := by decide +kernel
theorem dX8_settles_75 : decode prog_10_method_9_code 75 = .ok (.aload_n 0, 1) := by decide +kernel
theorem dX8_settles_76 : decode prog_10_method_9_code 76 = .ok (.getfield 13, 3) := by decide +kernel
theorem dX8_settles_79 : decode prog_10_method_9_code 79 = .ok (.iload_n 1, 1) := by decide +kernel
theorem dX8_settles_80 : decode prog_10_method_9_code 80 = .ok (.aload_n 0, 1) := by decide +kernel
theorem dX8_settles_81 : decode prog_10_method_9_code 81 = .ok (.getfield 19, 3) := by decide +kernel
theorem dX8_settles_84 : decode prog_10_method_9_code 84 = .ok (.iload_n 1, 1) := by decide +kernel
theorem dX8_settles_85 : decode prog_10_method_9_code 85 = .ok (.iaload, 1) := by decide +kernel
theorem dX8_settles_86 : decode prog_10_method_9_code 86 = .ok (.iastore, 1) := by decide +kernel
theorem dX8_settles_87 : decode prog_10_method_9_code 87 = .ok (.iinc 1 1, 3) := by decide +kernel
theorem dX8_settles_90 : decode prog_10_method_9_code 90 = .ok (.goto (-21), 3) := by decide +kernel
theorem dX8_settles_93 : decode prog_10_method_9_code 93 = .ok (.iconst 0, 1) := by decide +kernel
theorem dX8_settles_94 : decode prog_10_method_9_code 94 = .ok (.istore_n 1, 1) := by decide +kernel
theorem dX8_settles_95 : decode prog_10_method_9_code 95 = .ok (.iload_n 1, 1) := by decide +kernel
theorem dX8_settles_96 : decode prog_10_method_9_code 96 = .ok (.bipush 6, 2) := by decide +kernel
theorem dX8_settles_98 : decode prog_10_method_9_code 98 = .ok (.if_icmp .ge 21, 3) := by decide +kernel
theorem dX8_settles_101 : decode prog_10_method_9_code 101 = .ok (.aload_n 0, 1) := by decide +kernel
theorem dX8_settles_102 : decode prog_10_method_9_code 102 = .ok (.getfield 25, 3) := by decide +kernel
theorem dX8_settles_105 : decode prog_10_method_9_code 105 = .ok (.iload_n 1, 1) := by decide +kernel
theorem dX8_settles_106 : decode prog_10_method_9_code 106 = .ok (.aload_n 0, 1) := by decide +kernel
theorem dX8_settles_107 : decode prog_10_method_9_code 107 = .ok (.getfield 22, 3) := by decide +kernel
theorem dX8_settles_110 : decode prog_10_method_9_code 110 = .ok (.iload_n 1, 1) := by decide +kernel
theorem dX8_settles_111 : decode prog_10_method_9_code 111 = .ok (.iaload, 1) := by decide +kernel
theorem dX8_settles_112 : decode prog_10_method_9_code 112 = .ok (.iastore, 1) := by decide +kernel
theorem dX8_settles_113 : decode prog_10_method_9_code 113 = .ok (.iinc 1 1, 3) := by decide +kernel
theorem dX8_settles_116 : decode prog_10_method_9_code 116 = .ok (.goto (-21), 3) := by decide +kernel
theorem dX8_settles_119 : decode prog_10_method_9_code 119 = .ok (.aload_n 0, 1) := by decide +kernel
theorem dX8_settles_120 : decode prog_10_method_9_code 120 = .ok (.getfield 25, 3) := by decide +kernel
theorem dX8_settles_123 : decode prog_10_method_9_code 123 = .ok (.bipush 14, 2) := by decide +kernel
theorem dX8_settles_125 : decode prog_10_method_9_code 125 = .ok (.aload_n 0, 1) := by decide +kernel
theorem dX8_settles_126 : decode prog_10_method_9_code 126 = .ok (.getfield 72, 3) := by decide +kernel
theorem dX8_settles_129 : decode prog_10_method_9_code 129 = .ok (.iastore, 1) := by decide +kernel
theorem dX8_settles_130 : decode prog_10_method_9_code 130 = .ok (.aload_n 0, 1) := by decide +kernel
theorem dX8_settles_131 : decode prog_10_method_9_code 131 = .ok (.iconst 0, 1) := by decide +kernel
theorem dX8_settles_132 : decode prog_10_method_9_code 132 = .ok (.putfield 75, 3) := by decide +kernel
theorem dX8_settles_135 : decode prog_10_method_9_code 135 = .ok (.aload_n 0, 1) := by decide +kernel
theorem dX8_settles_136 : decode prog_10_method_9_code 136 = .ok (.iconst 0, 1) := by decide +kernel
theorem dX8_settles_137 : decode prog_10_method_9_code 137 = .ok (.putfield 78, 3) := by decide +kernel
theorem dX8_settles_140 : decode prog_10_method_9_code 140 = .ok (.aload_n 0, 1) := by decide +kernel
theorem dX8_settles_141 : decode prog_10_method_9_code 141 = .ok (.iconst 0, 1) := by decide +kernel
theorem dX8_settles_142 : decode prog_10_method_9_code 142 = .ok (.putfield 81, 3) := by decide +kernel
theorem dX8_settles_145 : decode prog_10_method_9_code 145 = .ok (.return_, 1) := by decide +kernel
theorem okM_X8_settles : okM mX8_settles 0 := ⟨tw704, tw15, by decide, by decide, by decide +kernel⟩
abbrev KTX8_settles : Type := (XW → Nat → Int32 → Option XW) × (XW → Nat → Int32 → Option XW) × (XW → Nat → Int32 → Option XW) × (XW → Nat → Int32 → Option XW)
def hX8_settles_95 (k : KTX8_settles) (w : XW) (l0 : Nat) (l1 : Int32) : Option XW :=
  if (6 : Int32) ≤ l1 then
  (gR w l0 8 7).bind fun x2 =>
  (gI w l0 8 0).bind fun x5 =>
  (sI w 0 x2 (14 : Int32) x5).bind fun w8 =>
  (pV w8 l0 8 8 (.int (0 : Int32))).bind fun w11 =>
  (pV w11 l0 8 9 (.int (0 : Int32))).bind fun w14 =>
  (pV w14 l0 8 15 (.int (0 : Int32))).bind fun w17 =>
  some w17
  else
  (gR w l0 8 7).bind fun x20 =>
  (gR w l0 8 6).bind fun x23 =>
  (aI w 0 x23 l1).bind fun x26 =>
  (sI w 0 x20 l1 x26).bind fun w29 =>
  k.2.2.2 w29 l0 (l1 + (1 : Int32))
theorem HX8_settles_95 {K : CX} {l : Launch} {n0 k0 : Nat} {k : KTX8_settles} (hk0 : ∀ (w : XW) (l0 : Nat) (l1 : Int32) (q : XW), k.1 w l0 l1 = some q → WP K l mX8_settles 1 20 n0 k0 none q 10 [some (.ref l0), some (.int l1)] [] w) (hk1 : ∀ (w : XW) (l0 : Nat) (l1 : Int32) (q : XW), k.2.1 w l0 l1 = some q → WP K l mX8_settles 1 20 n0 k0 none q 31 [some (.ref l0), some (.int l1)] [] w) (hk2 : ∀ (w : XW) (l0 : Nat) (l1 : Int32) (q : XW), k.2.2.1 w l0 l1 = some q → WP K l mX8_settles 1 20 n0 k0 none q 69 [some (.ref l0), some (.int l1)] [] w) (hk3 : ∀ (w : XW) (l0 : Nat) (l1 : Int32) (q : XW), k.2.2.2 w l0 l1 = some q → WP K l mX8_settles 1 20 n0 k0 none q 95 [some (.ref l0), some (.int l1)] [] w) {w : XW} {l0 : Nat} {l1 : Int32} {q : XW} (h0 : hX8_settles_95 k w l0 l1 = some q) : WP K l mX8_settles 1 20 n0 k0 none q 95 [some (.ref l0), some (.int l1)] [] w := by
  unfold hX8_settles_95 at h0
  refine wp_iload_n dX8_settles_95 rfl ?_
  refine wp_bipush (v := (6 : Int32)) dX8_settles_96 (by decide) ?_
  refine wp_icmp_ge (tgt := 119) dX8_settles_98 (by decide) (fun c1 => ?_) (fun c1 => ?_)
  · rw [if_pos c1] at h0
    refine wp_aload_n dX8_settles_119 rfl ?_
    obtain ⟨x2, e4, h3⟩ := Option.bind_eq_some_iff.mp h0
    clear h0
    refine wp_getR okX8 (k := 7) (by decide) tw712 dX8_settles_120 e4 ?_
    refine wp_bipush (v := (14 : Int32)) dX8_settles_123 (by decide) ?_
    refine wp_aload_n dX8_settles_125 rfl ?_
    obtain ⟨x5, e7, h6⟩ := Option.bind_eq_some_iff.mp h3
    clear h3
    refine wp_getI okX8 (k := 0) (by decide) tw705 dX8_settles_126 e7 ?_
    obtain ⟨w8, e10, h9⟩ := Option.bind_eq_some_iff.mp h6
    clear h6
    refine wp_iast dX8_settles_129 e10 ?_
    refine wp_aload_n dX8_settles_130 rfl ?_
    refine wp_iconst (v := (0 : Int32)) dX8_settles_131 (by decide) ?_
    obtain ⟨w11, e13, h12⟩ := Option.bind_eq_some_iff.mp h9
    clear h9
    refine wp_putV okX8 (k := 8) (by decide) rfl tw713 dX8_settles_132 rfl rfl e13 ?_
    refine wp_aload_n dX8_settles_135 rfl ?_
    refine wp_iconst (v := (0 : Int32)) dX8_settles_136 (by decide) ?_
    obtain ⟨w14, e16, h15⟩ := Option.bind_eq_some_iff.mp h12
    clear h12
    refine wp_putV okX8 (k := 9) (by decide) rfl tw714 dX8_settles_137 rfl rfl e16 ?_
    refine wp_aload_n dX8_settles_140 rfl ?_
    refine wp_iconst (v := (0 : Int32)) dX8_settles_141 (by decide) ?_
    obtain ⟨w17, e19, h18⟩ := Option.bind_eq_some_iff.mp h15
    clear h15
    refine wp_putV okX8 (k := 15) (by decide) rfl tw720 dX8_settles_142 rfl rfl e19 ?_
    cases h18
    exact wp_vret rfl dX8_settles_145
  · rw [if_neg c1] at h0
    refine wp_aload_n dX8_settles_101 rfl ?_
    obtain ⟨x20, e22, h21⟩ := Option.bind_eq_some_iff.mp h0
    clear h0
    refine wp_getR okX8 (k := 7) (by decide) tw712 dX8_settles_102 e22 ?_
    refine wp_iload_n dX8_settles_105 rfl ?_
    refine wp_aload_n dX8_settles_106 rfl ?_
    obtain ⟨x23, e25, h24⟩ := Option.bind_eq_some_iff.mp h21
    clear h21
    refine wp_getR okX8 (k := 6) (by decide) tw711 dX8_settles_107 e25 ?_
    refine wp_iload_n dX8_settles_110 rfl ?_
    obtain ⟨x26, e28, h27⟩ := Option.bind_eq_some_iff.mp h24
    clear h24
    refine wp_iald dX8_settles_111 e28 ?_
    obtain ⟨w29, e31, h30⟩ := Option.bind_eq_some_iff.mp h27
    clear h27
    refine wp_iast dX8_settles_112 e31 ?_
    refine wp_iinc (v := (l1 + (1 : Int32))) (L1 := [some (.ref l0), some (.int (l1 + (1 : Int32)))]) dX8_settles_113 (Nat.le_of_ble_eq_true rfl) rfl (congrArg (fun z => l1 + z) (by decide)) rfl ?_
    refine wp_goto (tgt := 95) dX8_settles_116 (by decide) ?_
    exact WP.wk (hk3 _ _ _ _ h30) (And.intro rfl (And.intro rfl trivial))
def hX8_settles_69 (k : KTX8_settles) (w : XW) (l0 : Nat) (l1 : Int32) : Option XW :=
  if (48 : Int32) ≤ l1 then
  k.2.2.2 w l0 (0 : Int32)
  else
  (gR w l0 8 2).bind fun x2 =>
  (gR w l0 8 5).bind fun x5 =>
  (aI w 0 x5 l1).bind fun x8 =>
  (sI w 0 x2 l1 x8).bind fun w11 =>
  k.2.2.1 w11 l0 (l1 + (1 : Int32))
theorem HX8_settles_69 {K : CX} {l : Launch} {n0 k0 : Nat} {k : KTX8_settles} (hk0 : ∀ (w : XW) (l0 : Nat) (l1 : Int32) (q : XW), k.1 w l0 l1 = some q → WP K l mX8_settles 1 20 n0 k0 none q 10 [some (.ref l0), some (.int l1)] [] w) (hk1 : ∀ (w : XW) (l0 : Nat) (l1 : Int32) (q : XW), k.2.1 w l0 l1 = some q → WP K l mX8_settles 1 20 n0 k0 none q 31 [some (.ref l0), some (.int l1)] [] w) (hk2 : ∀ (w : XW) (l0 : Nat) (l1 : Int32) (q : XW), k.2.2.1 w l0 l1 = some q → WP K l mX8_settles 1 20 n0 k0 none q 69 [some (.ref l0), some (.int l1)] [] w) (hk3 : ∀ (w : XW) (l0 : Nat) (l1 : Int32) (q : XW), k.2.2.2 w l0 l1 = some q → WP K l mX8_settles 1 20 n0 k0 none q 95 [some (.ref l0), some (.int l1)] [] w) {w : XW} {l0 : Nat} {l1 : Int32} {q : XW} (h0 : hX8_settles_69 k w l0 l1 = some q) : WP K l mX8_settles 1 20 n0 k0 none q 69 [some (.ref l0), some (.int l1)] [] w := by
  unfold hX8_settles_69 at h0
  refine wp_iload_n dX8_settles_69 rfl ?_
  refine wp_bipush (v := (48 : Int32)) dX8_settles_70 (by decide) ?_
  refine wp_icmp_ge (tgt := 93) dX8_settles_72 (by decide) (fun c1 => ?_) (fun c1 => ?_)
  · rw [if_pos c1] at h0
    refine wp_iconst (v := (0 : Int32)) dX8_settles_93 (by decide) ?_
    refine wp_istore_n (L1 := [some (.ref l0), some (.int (0 : Int32))]) dX8_settles_94 (Nat.le_of_ble_eq_true rfl) rfl ?_
    exact WP.wk (hk3 _ _ _ _ h0) (And.intro rfl (And.intro rfl trivial))
  · rw [if_neg c1] at h0
    refine wp_aload_n dX8_settles_75 rfl ?_
    obtain ⟨x2, e4, h3⟩ := Option.bind_eq_some_iff.mp h0
    clear h0
    refine wp_getR okX8 (k := 2) (by decide) tw707 dX8_settles_76 e4 ?_
    refine wp_iload_n dX8_settles_79 rfl ?_
    refine wp_aload_n dX8_settles_80 rfl ?_
    obtain ⟨x5, e7, h6⟩ := Option.bind_eq_some_iff.mp h3
    clear h3
    refine wp_getR okX8 (k := 5) (by decide) tw710 dX8_settles_81 e7 ?_
    refine wp_iload_n dX8_settles_84 rfl ?_
    obtain ⟨x8, e10, h9⟩ := Option.bind_eq_some_iff.mp h6
    clear h6
    refine wp_iald dX8_settles_85 e10 ?_
    obtain ⟨w11, e13, h12⟩ := Option.bind_eq_some_iff.mp h9
    clear h9
    refine wp_iast dX8_settles_86 e13 ?_
    refine wp_iinc (v := (l1 + (1 : Int32))) (L1 := [some (.ref l0), some (.int (l1 + (1 : Int32)))]) dX8_settles_87 (Nat.le_of_ble_eq_true rfl) rfl (congrArg (fun z => l1 + z) (by decide)) rfl ?_
    refine wp_goto (tgt := 69) dX8_settles_90 (by decide) ?_
    exact WP.wk (hk2 _ _ _ _ h12) (And.intro rfl (And.intro rfl trivial))
def hX8_settles_31 (k : KTX8_settles) (w : XW) (l0 : Nat) (l1 : Int32) : Option XW :=
  (gI w l0 8 0).bind fun x1 =>
  if x1 ≤ l1 then
  k.2.2.1 w l0 (0 : Int32)
  else
  (gR w l0 8 1).bind fun x5 =>
  (gR w l0 8 4).bind fun x8 =>
  (aI w 0 x8 l1).bind fun x11 =>
  (sI w 0 x5 l1 x11).bind fun w14 =>
  (gR w14 l0 8 7).bind fun x17 =>
  (sI w14 0 x17 ((6 : Int32) + l1) l1).bind fun w20 =>
  k.2.1 w20 l0 (l1 + (1 : Int32))
theorem HX8_settles_31 {K : CX} {l : Launch} {n0 k0 : Nat} {k : KTX8_settles} (hk0 : ∀ (w : XW) (l0 : Nat) (l1 : Int32) (q : XW), k.1 w l0 l1 = some q → WP K l mX8_settles 1 20 n0 k0 none q 10 [some (.ref l0), some (.int l1)] [] w) (hk1 : ∀ (w : XW) (l0 : Nat) (l1 : Int32) (q : XW), k.2.1 w l0 l1 = some q → WP K l mX8_settles 1 20 n0 k0 none q 31 [some (.ref l0), some (.int l1)] [] w) (hk2 : ∀ (w : XW) (l0 : Nat) (l1 : Int32) (q : XW), k.2.2.1 w l0 l1 = some q → WP K l mX8_settles 1 20 n0 k0 none q 69 [some (.ref l0), some (.int l1)] [] w) (hk3 : ∀ (w : XW) (l0 : Nat) (l1 : Int32) (q : XW), k.2.2.2 w l0 l1 = some q → WP K l mX8_settles 1 20 n0 k0 none q 95 [some (.ref l0), some (.int l1)] [] w) {w : XW} {l0 : Nat} {l1 : Int32} {q : XW} (h0 : hX8_settles_31 k w l0 l1 = some q) : WP K l mX8_settles 1 20 n0 k0 none q 31 [some (.ref l0), some (.int l1)] [] w := by
  unfold hX8_settles_31 at h0
  refine wp_iload_n dX8_settles_31 rfl ?_
  refine wp_aload_n dX8_settles_32 rfl ?_
  obtain ⟨x1, e3, h2⟩ := Option.bind_eq_some_iff.mp h0
  clear h0
  refine wp_getI okX8 (k := 0) (by decide) tw705 dX8_settles_33 e3 ?_
  refine wp_icmp_ge (tgt := 67) dX8_settles_36 (by decide) (fun c4 => ?_) (fun c4 => ?_)
  · rw [if_pos c4] at h2
    refine wp_iconst (v := (0 : Int32)) dX8_settles_67 (by decide) ?_
    refine wp_istore_n (L1 := [some (.ref l0), some (.int (0 : Int32))]) dX8_settles_68 (Nat.le_of_ble_eq_true rfl) rfl ?_
    exact WP.wk (hk2 _ _ _ _ h2) (And.intro rfl (And.intro rfl trivial))
  · rw [if_neg c4] at h2
    refine wp_aload_n dX8_settles_39 rfl ?_
    obtain ⟨x5, e7, h6⟩ := Option.bind_eq_some_iff.mp h2
    clear h2
    refine wp_getR okX8 (k := 1) (by decide) tw706 dX8_settles_40 e7 ?_
    refine wp_iload_n dX8_settles_43 rfl ?_
    refine wp_aload_n dX8_settles_44 rfl ?_
    obtain ⟨x8, e10, h9⟩ := Option.bind_eq_some_iff.mp h6
    clear h6
    refine wp_getR okX8 (k := 4) (by decide) tw709 dX8_settles_45 e10 ?_
    refine wp_iload_n dX8_settles_48 rfl ?_
    obtain ⟨x11, e13, h12⟩ := Option.bind_eq_some_iff.mp h9
    clear h9
    refine wp_iald dX8_settles_49 e13 ?_
    obtain ⟨w14, e16, h15⟩ := Option.bind_eq_some_iff.mp h12
    clear h12
    refine wp_iast dX8_settles_50 e16 ?_
    refine wp_aload_n dX8_settles_51 rfl ?_
    obtain ⟨x17, e19, h18⟩ := Option.bind_eq_some_iff.mp h15
    clear h15
    refine wp_getR okX8 (k := 7) (by decide) tw712 dX8_settles_52 e19 ?_
    refine wp_bipush (v := (6 : Int32)) dX8_settles_55 (by decide) ?_
    refine wp_iload_n dX8_settles_57 rfl ?_
    refine wp_iadd dX8_settles_58 ?_
    refine wp_iload_n dX8_settles_59 rfl ?_
    obtain ⟨w20, e22, h21⟩ := Option.bind_eq_some_iff.mp h18
    clear h18
    refine wp_iast dX8_settles_60 e22 ?_
    refine wp_iinc (v := (l1 + (1 : Int32))) (L1 := [some (.ref l0), some (.int (l1 + (1 : Int32)))]) dX8_settles_61 (Nat.le_of_ble_eq_true rfl) rfl (congrArg (fun z => l1 + z) (by decide)) rfl ?_
    refine wp_goto (tgt := 31) dX8_settles_64 (by decide) ?_
    exact WP.wk (hk1 _ _ _ _ h21) (And.intro rfl (And.intro rfl trivial))
def hX8_settles_10 (k : KTX8_settles) (w : XW) (l0 : Nat) (l1 : Int32) : Option XW :=
  if (18 : Int32) ≤ l1 then
  k.2.1 w l0 (0 : Int32)
  else
  (gR w l0 8 7).bind fun x2 =>
  (sI w 0 x2 l1 (0 : Int32)).bind fun w5 =>
  k.1 w5 l0 (l1 + (1 : Int32))
theorem HX8_settles_10 {K : CX} {l : Launch} {n0 k0 : Nat} {k : KTX8_settles} (hk0 : ∀ (w : XW) (l0 : Nat) (l1 : Int32) (q : XW), k.1 w l0 l1 = some q → WP K l mX8_settles 1 20 n0 k0 none q 10 [some (.ref l0), some (.int l1)] [] w) (hk1 : ∀ (w : XW) (l0 : Nat) (l1 : Int32) (q : XW), k.2.1 w l0 l1 = some q → WP K l mX8_settles 1 20 n0 k0 none q 31 [some (.ref l0), some (.int l1)] [] w) (hk2 : ∀ (w : XW) (l0 : Nat) (l1 : Int32) (q : XW), k.2.2.1 w l0 l1 = some q → WP K l mX8_settles 1 20 n0 k0 none q 69 [some (.ref l0), some (.int l1)] [] w) (hk3 : ∀ (w : XW) (l0 : Nat) (l1 : Int32) (q : XW), k.2.2.2 w l0 l1 = some q → WP K l mX8_settles 1 20 n0 k0 none q 95 [some (.ref l0), some (.int l1)] [] w) {w : XW} {l0 : Nat} {l1 : Int32} {q : XW} (h0 : hX8_settles_10 k w l0 l1 = some q) : WP K l mX8_settles 1 20 n0 k0 none q 10 [some (.ref l0), some (.int l1)] [] w := by
  unfold hX8_settles_10 at h0
  refine wp_iload_n dX8_settles_10 rfl ?_
  refine wp_bipush (v := (18 : Int32)) dX8_settles_11 (by decide) ?_
  refine wp_icmp_ge (tgt := 29) dX8_settles_13 (by decide) (fun c1 => ?_) (fun c1 => ?_)
  · rw [if_pos c1] at h0
    refine wp_iconst (v := (0 : Int32)) dX8_settles_29 (by decide) ?_
    refine wp_istore_n (L1 := [some (.ref l0), some (.int (0 : Int32))]) dX8_settles_30 (Nat.le_of_ble_eq_true rfl) rfl ?_
    exact WP.wk (hk1 _ _ _ _ h0) (And.intro rfl (And.intro rfl trivial))
  · rw [if_neg c1] at h0
    refine wp_aload_n dX8_settles_16 rfl ?_
    obtain ⟨x2, e4, h3⟩ := Option.bind_eq_some_iff.mp h0
    clear h0
    refine wp_getR okX8 (k := 7) (by decide) tw712 dX8_settles_17 e4 ?_
    refine wp_iload_n dX8_settles_20 rfl ?_
    refine wp_iconst (v := (0 : Int32)) dX8_settles_21 (by decide) ?_
    obtain ⟨w5, e7, h6⟩ := Option.bind_eq_some_iff.mp h3
    clear h3
    refine wp_iast dX8_settles_22 e7 ?_
    refine wp_iinc (v := (l1 + (1 : Int32))) (L1 := [some (.ref l0), some (.int (l1 + (1 : Int32)))]) dX8_settles_23 (Nat.le_of_ble_eq_true rfl) rfl (congrArg (fun z => l1 + z) (by decide)) rfl ?_
    refine wp_goto (tgt := 10) dX8_settles_26 (by decide) ?_
    exact WP.wk (hk0 _ _ _ _ h6) (And.intro rfl (And.intro rfl trivial))
def eX8_settles (k : KTX8_settles) (w : XW) (l0 : Nat) : Option XW :=
  (gI w l0 8 3).bind fun x1 =>
  (pV w l0 8 0 (.int x1)).bind fun w4 =>
  k.1 w4 l0 (0 : Int32)
theorem EX8_settles {K : CX} {l : Launch} {n0 k0 : Nat} {k : KTX8_settles} (hk0 : ∀ (w : XW) (l0 : Nat) (l1 : Int32) (q : XW), k.1 w l0 l1 = some q → WP K l mX8_settles 1 20 n0 k0 none q 10 [some (.ref l0), some (.int l1)] [] w) (hk1 : ∀ (w : XW) (l0 : Nat) (l1 : Int32) (q : XW), k.2.1 w l0 l1 = some q → WP K l mX8_settles 1 20 n0 k0 none q 31 [some (.ref l0), some (.int l1)] [] w) (hk2 : ∀ (w : XW) (l0 : Nat) (l1 : Int32) (q : XW), k.2.2.1 w l0 l1 = some q → WP K l mX8_settles 1 20 n0 k0 none q 69 [some (.ref l0), some (.int l1)] [] w) (hk3 : ∀ (w : XW) (l0 : Nat) (l1 : Int32) (q : XW), k.2.2.2 w l0 l1 = some q → WP K l mX8_settles 1 20 n0 k0 none q 95 [some (.ref l0), some (.int l1)] [] w) {w : XW} {l0 : Nat} {q : XW} (h0 : eX8_settles k w l0 = some q) : WP K l mX8_settles 1 20 n0 k0 none q 0 [some (.ref l0), none] [] w := by
  unfold eX8_settles at h0
  refine wp_aload_n dX8_settles_0 rfl ?_
  refine wp_aload_n dX8_settles_1 rfl ?_
  obtain ⟨x1, e3, h2⟩ := Option.bind_eq_some_iff.mp h0
  clear h0
  refine wp_getI okX8 (k := 3) (by decide) tw708 dX8_settles_2 e3 ?_
  obtain ⟨w4, e6, h5⟩ := Option.bind_eq_some_iff.mp h2
  clear h2
  refine wp_putV okX8 (k := 0) (by decide) rfl tw705 dX8_settles_5 rfl rfl e6 ?_
  refine wp_iconst (v := (0 : Int32)) dX8_settles_8 (by decide) ?_
  refine wp_istore_n (L1 := [some (.ref l0), some (.int (0 : Int32))]) dX8_settles_9 (Nat.le_of_ble_eq_true rfl) rfl ?_
  exact WP.wk (hk0 _ _ _ _ h5) (And.intro rfl (And.intro rfl trivial))
def loX8_settles : Nat → KTX8_settles
  | 0 => (fun _ _ _ => none, fun _ _ _ => none, fun _ _ _ => none, fun _ _ _ => none)
  | n + 1 => (hX8_settles_10 (loX8_settles n), hX8_settles_31 (loX8_settles n), hX8_settles_69 (loX8_settles n), hX8_settles_95 (loX8_settles n))
theorem LOX8_settles {K : CX} {l : Launch} {n0 k0 : Nat} : ∀ n : Nat, (∀ (w : XW) (l0 : Nat) (l1 : Int32) (q : XW), (loX8_settles n).1 w l0 l1 = some q → WP K l mX8_settles 1 20 n0 k0 none q 10 [some (.ref l0), some (.int l1)] [] w) ∧ (∀ (w : XW) (l0 : Nat) (l1 : Int32) (q : XW), (loX8_settles n).2.1 w l0 l1 = some q → WP K l mX8_settles 1 20 n0 k0 none q 31 [some (.ref l0), some (.int l1)] [] w) ∧ (∀ (w : XW) (l0 : Nat) (l1 : Int32) (q : XW), (loX8_settles n).2.2.1 w l0 l1 = some q → WP K l mX8_settles 1 20 n0 k0 none q 69 [some (.ref l0), some (.int l1)] [] w) ∧ (∀ (w : XW) (l0 : Nat) (l1 : Int32) (q : XW), (loX8_settles n).2.2.2 w l0 l1 = some q → WP K l mX8_settles 1 20 n0 k0 none q 95 [some (.ref l0), some (.int l1)] [] w) := by
  intro n
  induction n with
  | zero => exact ⟨fun _ _ _ q h => (by cases h), fun _ _ _ q h => (by cases h), fun _ _ _ q h => (by cases h), fun _ _ _ q h => (by cases h)⟩
  | succ n ih => exact ⟨fun _ _ _ q h => HX8_settles_10 ih.1 ih.2.1 ih.2.2.1 ih.2.2.2 h, fun _ _ _ q h => HX8_settles_31 ih.1 ih.2.1 ih.2.2.1 ih.2.2.2 h, fun _ _ _ q h => HX8_settles_69 ih.1 ih.2.1 ih.2.2.1 ih.2.2.2 h, fun _ _ _ q h => HX8_settles_95 ih.1 ih.2.1 ih.2.2.1 ih.2.2.2 h⟩
def fX8_settles (w : XW) (l0 : Nat) : Option XW := if isO w l0 8 = true then eX8_settles (loX8_settles FU) w l0 else none
theorem OX8_settles {w : XW} {l0 : Nat} {q : XW} (h : fX8_settles w l0 = some q) : isO w l0 8 = true := Decidable.byContradiction fun z => by unfold fX8_settles at h; rw [if_neg z] at h; cases h
theorem MX8_settles {K : CX} {l : Launch} {w : XW} {l0 : Nat} {q : XW} (h : fX8_settles w l0 = some q) : MT K l mX8_settles 1 20 [.ref l0] w none q := by
  have z := OX8_settles h
  unfold fX8_settles at h
  rw [if_pos z] at h
  exact MT.of (by decide) (Nat.le_of_ble_eq_true rfl) rfl (EX8_settles (LOX8_settles FU).1 (LOX8_settles FU).2.1 (LOX8_settles FU).2.2.1 (LOX8_settles FU).2.2.2 h)
