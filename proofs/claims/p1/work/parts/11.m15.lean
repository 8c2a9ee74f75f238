/-! FractionRunModel.map(II)I: frames 8, words 185 -/
abbrev mX8_map : MR := (⟨"FractionRunModel", "map", "(II)I"⟩, prog_10_method_52_code, 3, (some .int))
theorem dX8_map_0 : decode prog_10_method_52_code 0 = .ok (.iload_n 1, 1) := by decide +kernel
theorem dX8_map_1 : decode prog_10_method_52_code 1 = .ok (.i2l, 1) := by decide +kernel
theorem dX8_map_2 : decode prog_10_method_52_code 2 = .ok (.lconst 0, 1) := by decide +kernel
theorem dX8_map_3 : decode prog_10_method_52_code 3 = .ok (.ldc2_w 213, 3) := by decide +kernel
theorem dX8_map_6 : decode prog_10_method_52_code 6 = .ok (.invokestatic 88, 3) := by decide +kernel
theorem dX8_map_9 : decode prog_10_method_52_code 9 = .ok (.ifCond .eq 24, 3) := by decide +kernel
theorem dX8_map_12 : decode prog_10_method_52_code 12 = .ok (.iload_n 2, 1) := by decide +kernel
theorem dX8_map_13 : decode prog_10_method_52_code 13 = .ok (.i2l, 1) := by decide +kernel
theorem dX8_map_14 : decode prog_10_method_52_code 14 = .ok (.lconst 0, 1) := by decide +kernel
theorem dX8_map_15 : decode prog_10_method_52_code 15 = .ok (.ldc2_w 161, 3) := by decide +kernel
theorem dX8_map_18 : decode prog_10_method_52_code 18 = .ok (.invokestatic 88, 3) := by decide +kernel
theorem dX8_map_21 : decode prog_10_method_52_code 21 = .ok (.ifCond .eq 12, 3) := by decide +kernel
theorem dX8_map_24 : decode prog_10_method_52_code 24 = .ok (.aload_n 0, 1) := by decide +kernel
theorem dX8_map_25 : decode prog_10_method_52_code 25 = .ok (.iload_n 1, 1) := by decide +kernel
theorem dX8_map_26 : decode prog_10_method_52_code 26 = .ok (.iload_n 2, 1) := by decide +kernel
theorem dX8_map_27 : decode prog_10_method_52_code 27 = .ok (.invokevirtual 215, 3) := by decide +kernel
theorem dX8_map_30 : decode prog_10_method_52_code 30 = .ok (.goto 4, 3) := by decide +kernel
theorem dX8_map_33 : decode prog_10_method_52_code 33 = .ok (.iconst (-1), 1) := by decide +kernel
theorem dX8_map_34 : decode prog_10_method_52_code 34 = .ok (.ireturn, 1) := by decide +kernel
theorem okM_X8_map : okM mX8_map 2 := ⟨tw971, tw15, by decide, by decide, by decide +kernel⟩
def bX8_map_34 (w : XW) (s0 : Int32) : Option (Int32 × XW) :=
  some (s0, w)
theorem BX8_map_34 {K : CX} {l : Launch} {n0 k0 : Nat} {w : XW} {s0 : Int32} {q : Int32 × XW} (h0 : bX8_map_34 w s0 = some q) : WP K l mX8_map 8 185 n0 k0 (some (.int q.1)) q.2 34 [none, none, none] [.int s0] w := by
  unfold bX8_map_34 at h0
  cases h0
  exact wp_iret rfl dX8_map_34
def bX8_map_33 (w : XW) : Option (Int32 × XW) :=
  bX8_map_34 w (-1 : Int32)
theorem BX8_map_33 {K : CX} {l : Launch} {n0 k0 : Nat} {w : XW} {q : Int32 × XW} (h0 : bX8_map_33 w = some q) : WP K l mX8_map 8 185 n0 k0 (some (.int q.1)) q.2 33 [none, none, none] [] w := by
  unfold bX8_map_33 at h0
  refine wp_iconst (v := (-1 : Int32)) dX8_map_33 (by decide) ?_
  exact WP.wk (BX8_map_34 h0) trivial
def eX8_map (w : XW) (l0 : Nat) (l1 : Int32) (l2 : Int32) : Option (Int32 × XW) :=
  (fX8_in w (l1.toInt64) (0 : Int64) (40 : Int64)).bind fun q1 =>
  if q1.1 = 0 then
  bX8_map_33 q1.2
  else
  (fX8_in q1.2 (l2.toInt64) (0 : Int64) (5 : Int64)).bind fun q5 =>
  if q5.1 = 0 then
  bX8_map_33 q5.2
  else
  (fX8_mapOf q5.2 l0 l1 l2).bind fun q9 =>
  bX8_map_34 q9.2 q9.1
theorem EX8_map {K : CX} {l : Launch} {n0 k0 : Nat} {w : XW} {l0 : Nat} {l1 : Int32} {l2 : Int32} {q : Int32 × XW} (h0 : eX8_map w l0 l1 l2 = some q) : WP K l mX8_map 8 185 n0 k0 (some (.int q.1)) q.2 0 [some (.ref l0), some (.int l1), some (.int l2)] [] w := by
  unfold eX8_map at h0
  refine wp_iload_n dX8_map_0 rfl ?_
  refine wp_i2l dX8_map_1 ?_
  refine wp_lconst (v := (0 : Int64)) dX8_map_2 (by decide) ?_
  refine wp_ldc2 tw972 dX8_map_3 ?_
  obtain ⟨q1, e3, h2⟩ := Option.bind_eq_some_iff.mp h0
  clear h0
  refine wp_Si (As := [.long (l1.toInt64), .long (0 : Int64), .long (40 : Int64)]) (S := []) okM_X8_in tw785 tw784 rfl ⟨(Nat.le_of_ble_eq_true rfl), (Nat.le_of_ble_eq_true rfl)⟩ (Nat.le_of_ble_eq_true rfl) rfl dX8_map_6 (MX8_in e3) ?_
  refine wp_if_eq (tgt := 33) dX8_map_9 (by decide) (fun c4 => ?_) (fun c4 => ?_)
  · rw [if_pos c4] at h2
    exact WP.wk (BX8_map_33 h2) trivial
  · rw [if_neg c4] at h2
    refine wp_iload_n dX8_map_12 rfl ?_
    refine wp_i2l dX8_map_13 ?_
    refine wp_lconst (v := (0 : Int64)) dX8_map_14 (by decide) ?_
    refine wp_ldc2 tw837 dX8_map_15 ?_
    obtain ⟨q5, e7, h6⟩ := Option.bind_eq_some_iff.mp h2
    clear h2
    refine wp_Si (As := [.long (l2.toInt64), .long (0 : Int64), .long (5 : Int64)]) (S := []) okM_X8_in tw785 tw784 rfl ⟨(Nat.le_of_ble_eq_true rfl), (Nat.le_of_ble_eq_true rfl)⟩ (Nat.le_of_ble_eq_true rfl) rfl dX8_map_18 (MX8_in e7) ?_
    refine wp_if_eq (tgt := 33) dX8_map_21 (by decide) (fun c8 => ?_) (fun c8 => ?_)
    · rw [if_pos c8] at h6
      exact WP.wk (BX8_map_33 h6) trivial
    · rw [if_neg c8] at h6
      refine wp_aload_n dX8_map_24 rfl ?_
      refine wp_iload_n dX8_map_25 rfl ?_
      refine wp_iload_n dX8_map_26 rfl ?_
      obtain ⟨q9, e11, h10⟩ := Option.bind_eq_some_iff.mp h6
      clear h6
      refine wp_Vi (As := [.int l1, .int l2]) (S := []) okM_X8_mapOf tw975 twP_X8_mapOf tw973 (OX8_mapOf e11) rfl rfl rfl ⟨(Nat.le_of_ble_eq_true rfl), (Nat.le_of_ble_eq_true rfl)⟩ (Nat.le_of_ble_eq_true rfl) rfl dX8_map_27 (MX8_mapOf e11) ?_
      refine wp_goto (tgt := 34) dX8_map_30 (by decide) ?_
      exact WP.wk (BX8_map_34 h10) trivial
def fX8_map (w : XW) (l0 : Nat) (l1 : Int32) (l2 : Int32) : Option (Int32 × XW) := if isO w l0 8 = true then eX8_map w l0 l1 l2 else none
theorem OX8_map {w : XW} {l0 : Nat} {l1 : Int32} {l2 : Int32} {q : Int32 × XW} (h : fX8_map w l0 l1 l2 = some q) : isO w l0 8 = true := Decidable.byContradiction fun z => by unfold fX8_map at h; rw [if_neg z] at h; cases h
theorem MX8_map {K : CX} {l : Launch} {w : XW} {l0 : Nat} {l1 : Int32} {l2 : Int32} {q : Int32 × XW} (h : fX8_map w l0 l1 l2 = some q) : MT K l mX8_map 8 185 [.ref l0, .int l1, .int l2] w (some (.int q.1)) q.2 := by
  have z := OX8_map h
  unfold fX8_map at h
  rw [if_pos z] at h
  exact MT.of (by decide) (Nat.le_of_ble_eq_true rfl) rfl (EX8_map h)
/-! FractionRun.sources(III)I: frames 7, words 161 -/
abbrev mX7_sources : MR := (⟨"FractionRun", "sources", "(III)I"⟩, prog_1_method_22_code, 6, (some .int))
theorem dX7_sources_0 : decode prog_1_method_22_code 0 = .ok (.iload_n 1, 1) := by decide +kernel
theorem dX7_sources_1 : decode prog_1_method_22_code 1 = .ok (.invokestatic 144, 3) := by decide +kernel
theorem dX7_sources_4 : decode prog_1_method_22_code 4 = .ok (.ifCond .eq 23, 3) := by decide +kernel
theorem dX7_sources_7 : decode prog_1_method_22_code 7 = .ok (.iload_n 2, 1) := by decide +kernel
theorem dX7_sources_8 : decode prog_1_method_22_code 8 = .ok (.ifCond .lt 19, 3) := by decide +kernel
theorem dX7_sources_11 : decode prog_1_method_22_code 11 = .ok (.iload_n 2, 1) := by decide +kernel
theorem dX7_sources_12 : decode prog_1_method_22_code 12 = .ok (.sipush 999, 3) := by decide +kernel
theorem dX7_sources_15 : decode prog_1_method_22_code 15 = .ok (.if_icmp .gt 12, 3) := by decide +kernel
theorem dX7_sources_18 : decode prog_1_method_22_code 18 = .ok (.iload_n 3, 1) := by decide +kernel
theorem dX7_sources_19 : decode prog_1_method_22_code 19 = .ok (.ifCond .lt 8, 3) := by decide +kernel
theorem dX7_sources_22 : decode prog_1_method_22_code 22 = .ok (.iload_n 3, 1) := by decide +kernel
theorem dX7_sources_23 : decode prog_1_method_22_code 23 = .ok (.iconst 1, 1) := by decide +kernel
theorem dX7_sources_24 : decode prog_1_method_22_code 24 = .ok (.if_icmp .le 5, 3) := by decide +kernel
theorem dX7_sources_27 : decode prog_1_method_22_code 27 = .ok (.iconst (-1), 1) := by decide +kernel
theorem dX7_sources_28 : decode prog_1_method_22_code 28 = .ok (.ireturn, 1) := by decide +kernel
theorem dX7_sources_29 : decode prog_1_method_22_code 29 = .ok (.iconst 0, 1) := by decide +kernel
theorem dX7_sources_30 : decode prog_1_method_22_code 30 = .ok (.istore 4, 2) := by decide +kernel
theorem dX7_sources_32 : decode prog_1_method_22_code 32 = .ok (.iconst 0, 1) := by decide +kernel
theorem dX7_sources_33 : decode prog_1_method_22_code 33 = .ok (.istore 5, 2) := by decide +kernel
theorem dX7_sources_35 : decode prog_1_method_22_code 35 = .ok (.iload 5, 2) := by decide +kernel
theorem dX7_sources_37 : decode prog_1_method_22_code 37 = .ok (.bipush 40, 2) := by decide +kernel
theorem dX7_sources_39 : decode prog_1_method_22_code 39 = .ok (.if_icmp .gt 31, 3) := by decide +kernel
theorem dX7_sources_42 : decode prog_1_method_22_code 42 = .ok (.aload_n 0, 1) := by decide +kernel
theorem dX7_sources_43 : decode prog_1_method_22_code 43 = .ok (.iload 5, 2) := by decide +kernel
theorem dX7_sources_45 : decode prog_1_method_22_code 45 = .ok (.iload_n 1, 1) := by decide +kernel
theorem dX7_sources_46 : decode prog_1_method_22_code 46 = .ok (.invokevirtual 227, 3) := by decide +kernel
theorem dX7_sources_49 : decode prog_1_method_22_code 49 = .ok (.iload_n 2, 1) := by decide +kernel
theorem dX7_sources_50 : decode prog_1_method_22_code 50 = .ok (.if_icmp .ne 14, 3) := by decide +kernel
theorem dX7_sources_53 : decode prog_1_method_22_code 53 = .ok (.iload_n 3, 1) := by decide +kernel
theorem dX7_sources_54 : decode prog_1_method_22_code 54 = .ok (.iconst 1, 1) := by decide +kernel
theorem dX7_sources_55 : decode prog_1_method_22_code 55 = .ok (.if_icmp .ne 6, 3) := by decide +kernel
theorem dX7_sources_58 : decode prog_1_method_22_code 58 = .ok (.iload 5, 2) := by decide +kernel
theorem dX7_sources_60 : decode prog_1_method_22_code 60 = .ok (.ireturn, 1) := by decide +kernel
theorem dX7_sources_61 : decode prog_1_method_22_code 61 = .ok (.iinc 4 1, 3) := by decide +kernel
theorem dX7_sources_64 : decode prog_1_method_22_code 64 = .ok (.iinc 5 1, 3) := by decide +kernel
theorem dX7_sources_67 : decode prog_1_method_22_code 67 = .ok (.goto (-32), 3) := by decide +kernel
theorem dX7_sources_70 : decode prog_1_method_22_code 70 = .ok (.iload_n 3, 1) := by decide +kernel
theorem dX7_sources_71 : decode prog_1_method_22_code 71 = .ok (.iconst 1, 1) := by decide +kernel
theorem dX7_sources_72 : decode prog_1_method_22_code 72 = .ok (.if_icmp .ne 8, 3) := by decide +kernel
theorem dX7_sources_75 : decode prog_1_method_22_code 75 = .ok (.bipush (-4), 2) := by decide +kernel
theorem dX7_sources_77 : decode prog_1_method_22_code 77 = .ok (.goto 5, 3) := by decide +kernel
theorem dX7_sources_80 : decode prog_1_method_22_code 80 = .ok (.iload 4, 2) := by decide +kernel
theorem dX7_sources_82 : decode prog_1_method_22_code 82 = .ok (.ireturn, 1) := by decide +kernel
theorem okM_X7_sources : okM mX7_sources 3 := ⟨tw569, tw1, by decide, by decide, by decide +kernel⟩
abbrev KTX7_sources : Type := (XW → Nat → Int32 → Int32 → Int32 → Int32 → Int32 → Option (Int32 × XW))
def bX7_sources_82 (k : KTX7_sources) (w : XW) (s0 : Int32) : Option (Int32 × XW) :=
  some (s0, w)
theorem BX7_sources_82 {K : CX} {l : Launch} {n0 k0 : Nat} {k : KTX7_sources} (hk0 : ∀ (w : XW) (l0 : Nat) (l1 : Int32) (l2 : Int32) (l3 : Int32) (l4 : Int32) (l5 : Int32) (q : Int32 × XW), k w l0 l1 l2 l3 l4 l5 = some q → WP K l mX7_sources 7 161 n0 k0 (some (.int q.1)) q.2 35 [some (.ref l0), some (.int l1), some (.int l2), some (.int l3), some (.int l4), some (.int l5)] [] w) {w : XW} {s0 : Int32} {q : Int32 × XW} (h0 : bX7_sources_82 k w s0 = some q) : WP K l mX7_sources 7 161 n0 k0 (some (.int q.1)) q.2 82 [none, none, none, none, none, none] [.int s0] w := by
  unfold bX7_sources_82 at h0
  cases h0
  exact wp_iret rfl dX7_sources_82
def bX7_sources_64 (k : KTX7_sources) (w : XW) (l0 : Nat) (l1 : Int32) (l2 : Int32) (l3 : Int32) (l4 : Int32) (l5 : Int32) : Option (Int32 × XW) :=
  k w l0 l1 l2 l3 l4 (l5 + (1 : Int32))
theorem BX7_sources_64 {K : CX} {l : Launch} {n0 k0 : Nat} {k : KTX7_sources} (hk0 : ∀ (w : XW) (l0 : Nat) (l1 : Int32) (l2 : Int32) (l3 : Int32) (l4 : Int32) (l5 : Int32) (q : Int32 × XW), k w l0 l1 l2 l3 l4 l5 = some q → WP K l mX7_sources 7 161 n0 k0 (some (.int q.1)) q.2 35 [some (.ref l0), some (.int l1), some (.int l2), some (.int l3), some (.int l4), some (.int l5)] [] w) {w : XW} {l0 : Nat} {l1 : Int32} {l2 : Int32} {l3 : Int32} {l4 : Int32} {l5 : Int32} {q : Int32 × XW} (h0 : bX7_sources_64 k w l0 l1 l2 l3 l4 l5 = some q) : WP K l mX7_sources 7 161 n0 k0 (some (.int q.1)) q.2 64 [some (.ref l0), some (.int l1), some (.int l2), some (.int l3), some (.int l4), some (.int l5)] [] w := by
  unfold bX7_sources_64 at h0
  refine wp_iinc (v := (l5 + (1 : Int32))) (L1 := [some (.ref l0), some (.int l1), some (.int l2), some (.int l3), some (.int l4), some (.int (l5 + (1 : Int32)))]) dX7_sources_64 (Nat.le_of_ble_eq_true rfl) rfl (congrArg (fun z => l5 + z) (by decide)) rfl ?_
  refine wp_goto (tgt := 35) dX7_sources_67 (by decide) ?_
  exact WP.wk (hk0 _ _ _ _ _ _ _ _ h0) (And.intro rfl (And.intro rfl (And.intro rfl (And.intro rfl (And.intro rfl (And.intro rfl trivial))))))
def bX7_sources_27 (k : KTX7_sources) (w : XW) : Option (Int32 × XW) :=
  some ((-1 : Int32), w)
theorem BX7_sources_27 {K : CX} {l : Launch} {n0 k0 : Nat} {k : KTX7_sources} (hk0 : ∀ (w : XW) (l0 : Nat) (l1 : Int32) (l2 : Int32) (l3 : Int32) (l4 : Int32) (l5 : Int32) (q : Int32 × XW), k w l0 l1 l2 l3 l4 l5 = some q → WP K l mX7_sources 7 161 n0 k0 (some (.int q.1)) q.2 35 [some (.ref l0), some (.int l1), some (.int l2), some (.int l3), some (.int l4), some (.int l5)] [] w) {w : XW} {q : Int32 × XW} (h0 : bX7_sources_27 k w = some q) : WP K l mX7_sources 7 161 n0 k0 (some (.int q.1)) q.2 27 [none, none, none, none, none, none] [] w := by
  unfold bX7_sources_27 at h0
  refine wp_iconst (v := (-1 : Int32)) dX7_sources_27 (by decide) ?_
  cases h0
  exact wp_iret rfl dX7_sources_28
def hX7_sources_35 (k : KTX7_sources) (w : XW) (l0 : Nat) (l1 : Int32) (l2 : Int32) (l3 : Int32) (l4 : Int32) (l5 : Int32) : Option (Int32 × XW) :=
  if (40 : Int32) < l5 then
  if l3 = (1 : Int32) then
  bX7_sources_82 k w (-4 : Int32)
  else
  bX7_sources_82 k w l4
  else
  (fX7_powerAtRestFrom w l0 l5 l1).bind fun q3 =>
  if q3.1 = l2 then
  if l3 = (1 : Int32) then
  some (l5, q3.2)
  else
  bX7_sources_64 k q3.2 l0 l1 l2 l3 (l4 + (1 : Int32)) l5
  else
  bX7_sources_64 k q3.2 l0 l1 l2 l3 l4 l5
theorem HX7_sources_35 {K : CX} {l : Launch} {n0 k0 : Nat} {k : KTX7_sources} (hk0 : ∀ (w : XW) (l0 : Nat) (l1 : Int32) (l2 : Int32) (l3 : Int32) (l4 : Int32) (l5 : Int32) (q : Int32 × XW), k w l0 l1 l2 l3 l4 l5 = some q → WP K l mX7_sources 7 161 n0 k0 (some (.int q.1)) q.2 35 [some (.ref l0), some (.int l1), some (.int l2), some (.int l3), some (.int l4), some (.int l5)] [] w) {w : XW} {l0 : Nat} {l1 : Int32} {l2 : Int32} {l3 : Int32} {l4 : Int32} {l5 : Int32} {q : Int32 × XW} (h0 : hX7_sources_35 k w l0 l1 l2 l3 l4 l5 = some q) : WP K l mX7_sources 7 161 n0 k0 (some (.int q.1)) q.2 35 [some (.ref l0), some (.int l1), some (.int l2), some (.int l3), some (.int l4), some (.int l5)] [] w := by
  unfold hX7_sources_35 at h0
  refine wp_iload dX7_sources_35 rfl ?_
  refine wp_bipush (v := (40 : Int32)) dX7_sources_37 (by decide) ?_
  refine wp_icmp_gt (tgt := 70) dX7_sources_39 (by decide) (fun c1 => ?_) (fun c1 => ?_)
  · rw [if_pos c1] at h0
    refine wp_iload_n dX7_sources_70 rfl ?_
    refine wp_iconst (v := (1 : Int32)) dX7_sources_71 (by decide) ?_
    refine wp_icmp_ne (tgt := 80) dX7_sources_72 (by decide) (fun c2 => ?_) (fun c2 => ?_)
    · rw [if_neg c2] at h0
      refine wp_iload dX7_sources_80 rfl ?_
      exact WP.wk (BX7_sources_82 hk0 h0) trivial
    · rw [if_pos c2] at h0
      refine wp_bipush (v := (-4 : Int32)) dX7_sources_75 (by decide) ?_
      refine wp_goto (tgt := 82) dX7_sources_77 (by decide) ?_
      exact WP.wk (BX7_sources_82 hk0 h0) trivial
  · rw [if_neg c1] at h0
    refine wp_aload_n dX7_sources_42 rfl ?_
    refine wp_iload dX7_sources_43 rfl ?_
    refine wp_iload_n dX7_sources_45 rfl ?_
    obtain ⟨q3, e5, h4⟩ := Option.bind_eq_some_iff.mp h0
    clear h0
    refine wp_Vi (As := [.int l5, .int l1]) (S := []) okM_X7_powerAtRestFrom tw560 twP_X7_powerAtRestFrom tw558 (OX7_powerAtRestFrom e5) rfl rfl rfl ⟨(Nat.le_of_ble_eq_true rfl), (Nat.le_of_ble_eq_true rfl)⟩ (Nat.le_of_ble_eq_true rfl) rfl dX7_sources_46 (MX7_powerAtRestFrom e5) ?_
    refine wp_iload_n dX7_sources_49 rfl ?_
    refine wp_icmp_ne (tgt := 64) dX7_sources_50 (by decide) (fun c6 => ?_) (fun c6 => ?_)
    · rw [if_neg c6] at h4
      exact WP.wk (BX7_sources_64 hk0 h4) (And.intro rfl (And.intro rfl (And.intro rfl (And.intro rfl (And.intro rfl (And.intro rfl trivial))))))
    · rw [if_pos c6] at h4
      refine wp_iload_n dX7_sources_53 rfl ?_
      refine wp_iconst (v := (1 : Int32)) dX7_sources_54 (by decide) ?_
      refine wp_icmp_ne (tgt := 61) dX7_sources_55 (by decide) (fun c7 => ?_) (fun c7 => ?_)
      · rw [if_neg c7] at h4
        refine wp_iinc (v := (l4 + (1 : Int32))) (L1 := [some (.ref l0), some (.int l1), some (.int l2), some (.int l3), some (.int (l4 + (1 : Int32))), some (.int l5)]) dX7_sources_61 (Nat.le_of_ble_eq_true rfl) rfl (congrArg (fun z => l4 + z) (by decide)) rfl ?_
        exact WP.wk (BX7_sources_64 hk0 h4) (And.intro rfl (And.intro rfl (And.intro rfl (And.intro rfl (And.intro rfl (And.intro rfl trivial))))))
      · rw [if_pos c7] at h4
        refine wp_iload dX7_sources_58 rfl ?_
        cases h4
        exact wp_iret rfl dX7_sources_60
def eX7_sources (k : KTX7_sources) (w : XW) (l0 : Nat) (l1 : Int32) (l2 : Int32) (l3 : Int32) : Option (Int32 × XW) :=
  (fX7_isPrime w l1).bind fun q1 =>
  if q1.1 = 0 then
  bX7_sources_27 k q1.2
  else
  if l2 < 0 then
  bX7_sources_27 k q1.2
  else
  if (999 : Int32) < l2 then
  bX7_sources_27 k q1.2
  else
  if l3 < 0 then
  bX7_sources_27 k q1.2
  else
  if l3 ≤ (1 : Int32) then
  k q1.2 l0 l1 l2 l3 (0 : Int32) (0 : Int32)
  else
  bX7_sources_27 k q1.2
theorem EX7_sources {K : CX} {l : Launch} {n0 k0 : Nat} {k : KTX7_sources} (hk0 : ∀ (w : XW) (l0 : Nat) (l1 : Int32) (l2 : Int32) (l3 : Int32) (l4 : Int32) (l5 : Int32) (q : Int32 × XW), k w l0 l1 l2 l3 l4 l5 = some q → WP K l mX7_sources 7 161 n0 k0 (some (.int q.1)) q.2 35 [some (.ref l0), some (.int l1), some (.int l2), some (.int l3), some (.int l4), some (.int l5)] [] w) {w : XW} {l0 : Nat} {l1 : Int32} {l2 : Int32} {l3 : Int32} {q : Int32 × XW} (h0 : eX7_sources k w l0 l1 l2 l3 = some q) : WP K l mX7_sources 7 161 n0 k0 (some (.int q.1)) q.2 0 [some (.ref l0), some (.int l1), some (.int l2), some (.int l3), none, none] [] w := by
  unfold eX7_sources at h0
  refine wp_iload_n dX7_sources_0 rfl ?_
  obtain ⟨q1, e3, h2⟩ := Option.bind_eq_some_iff.mp h0
  clear h0
  refine wp_Si (As := [.int l1]) (S := []) okM_X7_isPrime tw399 tw398 rfl ⟨(Nat.le_of_ble_eq_true rfl), (Nat.le_of_ble_eq_true rfl)⟩ (Nat.le_of_ble_eq_true rfl) rfl dX7_sources_1 (MX7_isPrime e3) ?_
  refine wp_if_eq (tgt := 27) dX7_sources_4 (by decide) (fun c4 => ?_) (fun c4 => ?_)
  · rw [if_pos c4] at h2
    exact WP.wk (BX7_sources_27 hk0 h2) trivial
  · rw [if_neg c4] at h2
    refine wp_iload_n dX7_sources_7 rfl ?_
    refine wp_if_lt (tgt := 27) dX7_sources_8 (by decide) (fun c5 => ?_) (fun c5 => ?_)
    · rw [if_pos c5] at h2
      exact WP.wk (BX7_sources_27 hk0 h2) trivial
    · rw [if_neg c5] at h2
      refine wp_iload_n dX7_sources_11 rfl ?_
      refine wp_sipush (v := (999 : Int32)) dX7_sources_12 (by decide) ?_
      refine wp_icmp_gt (tgt := 27) dX7_sources_15 (by decide) (fun c6 => ?_) (fun c6 => ?_)
      · rw [if_pos c6] at h2
        exact WP.wk (BX7_sources_27 hk0 h2) trivial
      · rw [if_neg c6] at h2
        refine wp_iload_n dX7_sources_18 rfl ?_
        refine wp_if_lt (tgt := 27) dX7_sources_19 (by decide) (fun c7 => ?_) (fun c7 => ?_)
        · rw [if_pos c7] at h2
          exact WP.wk (BX7_sources_27 hk0 h2) trivial
        · rw [if_neg c7] at h2
          refine wp_iload_n dX7_sources_22 rfl ?_
          refine wp_iconst (v := (1 : Int32)) dX7_sources_23 (by decide) ?_
          refine wp_icmp_le (tgt := 29) dX7_sources_24 (by decide) (fun c8 => ?_) (fun c8 => ?_)
          · rw [if_pos c8] at h2
            refine wp_iconst (v := (0 : Int32)) dX7_sources_29 (by decide) ?_
            refine wp_istore (L1 := [some (.ref l0), some (.int l1), some (.int l2), some (.int l3), some (.int (0 : Int32)), none]) dX7_sources_30 (Nat.le_of_ble_eq_true rfl) rfl ?_
            refine wp_iconst (v := (0 : Int32)) dX7_sources_32 (by decide) ?_
            refine wp_istore (L1 := [some (.ref l0), some (.int l1), some (.int l2), some (.int l3), some (.int (0 : Int32)), some (.int (0 : Int32))]) dX7_sources_33 (Nat.le_of_ble_eq_true rfl) rfl ?_
            exact WP.wk (hk0 _ _ _ _ _ _ _ _ h2) (And.intro rfl (And.intro rfl (And.intro rfl (And.intro rfl (And.intro rfl (And.intro rfl trivial))))))
          · rw [if_neg c8] at h2
            exact WP.wk (BX7_sources_27 hk0 h2) trivial
def loX7_sources : Nat → KTX7_sources
  | 0 => fun _ _ _ _ _ _ _ => none
  | n + 1 => hX7_sources_35 (loX7_sources n)
theorem LOX7_sources {K : CX} {l : Launch} {n0 k0 : Nat} : ∀ n : Nat, (∀ (w : XW) (l0 : Nat) (l1 : Int32) (l2 : Int32) (l3 : Int32) (l4 : Int32) (l5 : Int32) (q : Int32 × XW), (loX7_sources n) w l0 l1 l2 l3 l4 l5 = some q → WP K l mX7_sources 7 161 n0 k0 (some (.int q.1)) q.2 35 [some (.ref l0), some (.int l1), some (.int l2), some (.int l3), some (.int l4), some (.int l5)] [] w) := by
  intro n
  induction n with
  | zero => exact fun _ _ _ _ _ _ _ q h => (by cases h)
  | succ n ih => exact fun _ _ _ _ _ _ _ q h => HX7_sources_35 ih h
def fX7_sources (w : XW) (l0 : Nat) (l1 : Int32) (l2 : Int32) (l3 : Int32) : Option (Int32 × XW) := if isO w l0 7 = true then eX7_sources (loX7_sources FU) w l0 l1 l2 l3 else none
theorem OX7_sources {w : XW} {l0 : Nat} {l1 : Int32} {l2 : Int32} {l3 : Int32} {q : Int32 × XW} (h : fX7_sources w l0 l1 l2 l3 = some q) : isO w l0 7 = true := Decidable.byContradiction fun z => by unfold fX7_sources at h; rw [if_neg z] at h; cases h
theorem MX7_sources {K : CX} {l : Launch} {w : XW} {l0 : Nat} {l1 : Int32} {l2 : Int32} {l3 : Int32} {q : Int32 × XW} (h : fX7_sources w l0 l1 l2 l3 = some q) : MT K l mX7_sources 7 161 [.ref l0, .int l1, .int l2, .int l3] w (some (.int q.1)) q.2 := by
  have z := OX7_sources h
  unfold fX7_sources at h
  rw [if_pos z] at h
  exact MT.of (by decide) (Nat.le_of_ble_eq_true rfl) rfl (EX7_sources (LOX7_sources FU) h)
/-! FractionRunModel.sources(III)I: frames 8, words 185 -/
abbrev mX8_sources : MR := (⟨"FractionRunModel", "sources", "(III)I"⟩, prog_10_method_53_code, 8, (some .int))
theorem dX8_sources_0 : decode prog_10_method_53_code 0 = .ok (.iload_n 1, 1) := by decide +kernel
theorem dX8_sources_1 : decode prog_10_method_53_code 1 = .ok (.i2l, 1) := by decide +kernel
theorem dX8_sources_2 : decode prog_10_method_53_code 2 = .ok (.lconst 0, 1) := by decide +kernel
theorem dX8_sources_3 : decode prog_10_method_53_code 3 = .ok (.ldc2_w 161, 3) := by decide +kernel
theorem dX8_sources_6 : decode prog_10_method_53_code 6 = .ok (.invokestatic 88, 3) := by decide +kernel
theorem dX8_sources_9 : decode prog_10_method_53_code 9 = .ok (.ifCond .eq 25, 3) := by decide +kernel
theorem dX8_sources_12 : decode prog_10_method_53_code 12 = .ok (.iload_n 2, 1) := by decide +kernel
theorem dX8_sources_13 : decode prog_10_method_53_code 13 = .ok (.i2l, 1) := by decide +kernel
theorem dX8_sources_14 : decode prog_10_method_53_code 14 = .ok (.lconst 0, 1) := by decide +kernel
theorem dX8_sources_15 : decode prog_10_method_53_code 15 = .ok (.ldc2_w 133, 3) := by decide +kernel
theorem dX8_sources_18 : decode prog_10_method_53_code 18 = .ok (.invokestatic 88, 3) := by decide +kernel
theorem dX8_sources_21 : decode prog_10_method_53_code 21 = .ok (.ifCond .eq 13, 3) := by decide +kernel
theorem dX8_sources_24 : decode prog_10_method_53_code 24 = .ok (.iload_n 3, 1) := by decide +kernel
theorem dX8_sources_25 : decode prog_10_method_53_code 25 = .ok (.i2l, 1) := by decide +kernel
theorem dX8_sources_26 : decode prog_10_method_53_code 26 = .ok (.lconst 0, 1) := by decide +kernel
theorem dX8_sources_27 : decode prog_10_method_53_code 27 = .ok (.lconst 1, 1) := by decide +kernel
theorem dX8_sources_28 : decode prog_10_method_53_code 28 = .ok (.invokestatic 88, 3) := by decide +kernel
theorem dX8_sources_31 : decode prog_10_method_53_code 31 = .ok (.ifCond .ne 5, 3) := by decide +kernel
theorem dX8_sources_34 : decode prog_10_method_53_code 34 = .ok (.iconst (-1), 1) := by decide +kernel
theorem dX8_sources_35 : decode prog_10_method_53_code 35 = .ok (.ireturn, 1) := by decide +kernel
theorem dX8_sources_36 : decode prog_10_method_53_code 36 = .ok (.iconst 0, 1) := by decide +kernel
theorem dX8_sources_37 : decode prog_10_method_53_code 37 = .ok (.istore 4, 2) := by decide +kernel
theorem dX8_sources_39 : decode prog_10_method_53_code 39 = .ok (.bipush (-4), 2) := by decide +kernel
theorem dX8_sources_41 : decode prog_10_method_53_code 41 = .ok (.istore 5, 2) := by decide +kernel
theorem dX8_sources_43 : decode prog_10_method_53_code 43 = .ok (.bipush 40, 2) := by decide +kernel
theorem dX8_sources_45 : decode prog_10_method_53_code 45 = .ok (.istore 6, 2) := by decide +kernel
theorem dX8_sources_47 : decode prog_10_method_53_code 47 = .ok (.iload 6, 2) := by decide +kernel
theorem dX8_sources_49 : decode prog_10_method_53_code 49 = .ok (.ifCond .lt 56, 3) := by decide +kernel
theorem dX8_sources_52 : decode prog_10_method_53_code 52 = .ok (.aload_n 0, 1) := by decide +kernel
theorem dX8_sources_53 : decode prog_10_method_53_code 53 = .ok (.iload 6, 2) := by decide +kernel
theorem dX8_sources_55 : decode prog_10_method_53_code 55 = .ok (.iload_n 1, 1) := by decide +kernel
theorem dX8_sources_56 : decode prog_10_method_53_code 56 = .ok (.invokevirtual 215, 3) := by decide +kernel
theorem dX8_sources_59 : decode prog_10_method_53_code 59 = .ok (.iload_n 2, 1) := by decide +kernel
theorem dX8_sources_60 : decode prog_10_method_53_code 60 = .ok (.if_icmp .ne 7, 3) := by decide +kernel
theorem dX8_sources_63 : decode prog_10_method_53_code 63 = .ok (.iconst 1, 1) := by decide +kernel
theorem dX8_sources_64 : decode prog_10_method_53_code 64 = .ok (.goto 4, 3) := by decide +kernel
theorem dX8_sources_67 : decode prog_10_method_53_code 67 = .ok (.iconst 0, 1) := by decide +kernel
theorem dX8_sources_68 : decode prog_10_method_53_code 68 = .ok (.istore 7, 2) := by decide +kernel
theorem dX8_sources_70 : decode prog_10_method_53_code 70 = .ok (.iload 4, 2) := by decide +kernel
theorem dX8_sources_72 : decode prog_10_method_53_code 72 = .ok (.iload 7, 2) := by decide +kernel
theorem dX8_sources_74 : decode prog_10_method_53_code 74 = .ok (.ifCond .eq 7, 3) := by decide +kernel
theorem dX8_sources_77 : decode prog_10_method_53_code 77 = .ok (.iconst 1, 1) := by decide +kernel
theorem dX8_sources_78 : decode prog_10_method_53_code 78 = .ok (.goto 4, 3) := by decide +kernel
theorem dX8_sources_81 : decode prog_10_method_53_code 81 = .ok (.iconst 0, 1) := by decide +kernel
theorem dX8_sources_82 : decode prog_10_method_53_code 82 = .ok (.iadd, 1) := by decide +kernel
theorem dX8_sources_83 : decode prog_10_method_53_code 83 = .ok (.istore 4, 2) := by decide +kernel
theorem dX8_sources_85 : decode prog_10_method_53_code 85 = .ok (.iload 7, 2) := by decide +kernel
theorem dX8_sources_87 : decode prog_10_method_53_code 87 = .ok (.ifCond .eq 8, 3) := by decide +kernel
theorem dX8_sources_90 : decode prog_10_method_53_code 90 = .ok (.iload 6, 2) := by decide +kernel
theorem dX8_sources_92 : decode prog_10_method_53_code 92 = .ok (.goto 5, 3) := by decide +kernel
theorem dX8_sources_95 : decode prog_10_method_53_code 95 = .ok (.iload 5, 2) := by decide +kernel
theorem dX8_sources_97 : decode prog_10_method_53_code 97 = .ok (.istore 5, 2) := by decide +kernel
theorem dX8_sources_99 : decode prog_10_method_53_code 99 = .ok (.iinc 6 (-1), 3) := by decide +kernel
theorem dX8_sources_102 : decode prog_10_method_53_code 102 = .ok (.goto (-55), 3) := by decide +kernel
theorem dX8_sources_105 : decode prog_10_method_53_code 105 = .ok (.iload_n 3, 1) := by decide +kernel
theorem dX8_sources_106 : decode prog_10_method_53_code 106 = .ok (.ifCond .ne 8, 3) := by decide +kernel
theorem dX8_sources_109 : decode prog_10_method_53_code 109 = .ok (.iload 4, 2) := by decide +kernel
theorem dX8_sources_111 : decode prog_10_method_53_code 111 = .ok (.goto 5, 3) := by decide +kernel
theorem dX8_sources_114 : decode prog_10_method_53_code 114 = .ok (.iload 5, 2) := by decide +kernel
theorem dX8_sources_116 : decode prog_10_method_53_code 116 = .ok (.ireturn, 1) := by decide +kernel
theorem okM_X8_sources : okM mX8_sources 3 := ⟨tw980, tw15, by decide, by decide, by decide +kernel⟩
abbrev KTX8_sources : Type := (XW → Nat → Int32 → Int32 → Int32 → Int32 → Int32 → Int32 → Option (Int32 × XW))
def bX8_sources_116 (k : KTX8_sources) (w : XW) (s0 : Int32) : Option (Int32 × XW) :=
  some (s0, w)
theorem BX8_sources_116 {K : CX} {l : Launch} {n0 k0 : Nat} {k : KTX8_sources} (hk0 : ∀ (w : XW) (l0 : Nat) (l1 : Int32) (l2 : Int32) (l3 : Int32) (l4 : Int32) (l5 : Int32) (l6 : Int32) (q : Int32 × XW), k w l0 l1 l2 l3 l4 l5 l6 = some q → WP K l mX8_sources 8 185 n0 k0 (some (.int q.1)) q.2 47 [some (.ref l0), some (.int l1), some (.int l2), some (.int l3), some (.int l4), some (.int l5), some (.int l6), none] [] w) {w : XW} {s0 : Int32} {q : Int32 × XW} (h0 : bX8_sources_116 k w s0 = some q) : WP K l mX8_sources 8 185 n0 k0 (some (.int q.1)) q.2 116 [none, none, none, none, none, none, none, none] [.int s0] w := by
  unfold bX8_sources_116 at h0
  cases h0
  exact wp_iret rfl dX8_sources_116
def bX8_sources_97 (k : KTX8_sources) (w : XW) (l0 : Nat) (l1 : Int32) (l2 : Int32) (l3 : Int32) (l4 : Int32) (l6 : Int32) (s0 : Int32) : Option (Int32 × XW) :=
  k w l0 l1 l2 l3 l4 s0 (l6 + (-1 : Int32))
theorem BX8_sources_97 {K : CX} {l : Launch} {n0 k0 : Nat} {k : KTX8_sources} (hk0 : ∀ (w : XW) (l0 : Nat) (l1 : Int32) (l2 : Int32) (l3 : Int32) (l4 : Int32) (l5 : Int32) (l6 : Int32) (q : Int32 × XW), k w l0 l1 l2 l3 l4 l5 l6 = some q → WP K l mX8_sources 8 185 n0 k0 (some (.int q.1)) q.2 47 [some (.ref l0), some (.int l1), some (.int l2), some (.int l3), some (.int l4), some (.int l5), some (.int l6), none] [] w) {w : XW} {l0 : Nat} {l1 : Int32} {l2 : Int32} {l3 : Int32} {l4 : Int32} {l6 : Int32} {s0 : Int32} {q : Int32 × XW} (h0 : bX8_sources_97 k w l0 l1 l2 l3 l4 l6 s0 = some q) : WP K l mX8_sources 8 185 n0 k0 (some (.int q.1)) q.2 97 [some (.ref l0), some (.int l1), some (.int l2), some (.int l3), some (.int l4), none, some (.int l6), none] [.int s0] w := by
  unfold bX8_sources_97 at h0
  refine wp_istore (L1 := [some (.ref l0), some (.int l1), some (.int l2), some (.int l3), some (.int l4), some (.int s0), some (.int l6), none]) dX8_sources_97 (Nat.le_of_ble_eq_true rfl) rfl ?_
  refine wp_iinc (v := (l6 + (-1 : Int32))) (L1 := [some (.ref l0), some (.int l1), some (.int l2), some (.int l3), some (.int l4), some (.int s0), some (.int (l6 + (-1 : Int32))), none]) dX8_sources_99 (Nat.le_of_ble_eq_true rfl) rfl (congrArg (fun z => l6 + z) (by decide)) rfl ?_
  refine wp_goto (tgt := 47) dX8_sources_102 (by decide) ?_
  exact WP.wk (hk0 _ _ _ _ _ _ _ _ _ h0) (And.intro rfl (And.intro rfl (And.intro rfl (And.intro rfl (And.intro rfl (And.intro rfl (And.intro rfl trivial)))))))
def bX8_sources_82 (k : KTX8_sources) (w : XW) (l0 : Nat) (l1 : Int32) (l2 : Int32) (l3 : Int32) (l5 : Int32) (l6 : Int32) (l7 : Int32) (s0 : Int32) (s1 : Int32) : Option (Int32 × XW) :=
  if l7 = 0 then
  bX8_sources_97 k w l0 l1 l2 l3 (s0 + s1) l6 l5
  else
  bX8_sources_97 k w l0 l1 l2 l3 (s0 + s1) l6 l6
theorem BX8_sources_82 {K : CX} {l : Launch} {n0 k0 : Nat} {k : KTX8_sources} (hk0 : ∀ (w : XW) (l0 : Nat) (l1 : Int32) (l2 : Int32) (l3 : Int32) (l4 : Int32) (l5 : Int32) (l6 : Int32) (q : Int32 × XW), k w l0 l1 l2 l3 l4 l5 l6 = some q → WP K l mX8_sources 8 185 n0 k0 (some (.int q.1)) q.2 47 [some (.ref l0), some (.int l1), some (.int l2), some (.int l3), some (.int l4), some (.int l5), some (.int l6), none] [] w) {w : XW} {l0 : Nat} {l1 : Int32} {l2 : Int32} {l3 : Int32} {l5 : Int32} {l6 : Int32} {l7 : Int32} {s0 : Int32} {s1 : Int32} {q : Int32 × XW} (h0 : bX8_sources_82 k w l0 l1 l2 l3 l5 l6 l7 s0 s1 = some q) : WP K l mX8_sources 8 185 n0 k0 (some (.int q.1)) q.2 82 [some (.ref l0), some (.int l1), some (.int l2), some (.int l3), none, some (.int l5), some (.int l6), some (.int l7)] [.int s1, .int s0] w := by
  unfold bX8_sources_82 at h0
  refine wp_iadd dX8_sources_82 ?_
  refine wp_istore (L1 := [some (.ref l0), some (.int l1), some (.int l2), some (.int l3), some (.int (s0 + s1)), some (.int l5), some (.int l6), some (.int l7)]) dX8_sources_83 (Nat.le_of_ble_eq_true rfl) rfl ?_
  refine wp_iload dX8_sources_85 rfl ?_
  refine wp_if_eq (tgt := 95) dX8_sources_87 (by decide) (fun c1 => ?_) (fun c1 => ?_)
  · rw [if_pos c1] at h0
    refine wp_iload dX8_sources_95 rfl ?_
    exact WP.wk (BX8_sources_97 hk0 h0) (And.intro rfl (And.intro rfl (And.intro rfl (And.intro rfl (And.intro rfl (And.intro rfl trivial))))))
  · rw [if_neg c1] at h0
    refine wp_iload dX8_sources_90 rfl ?_
    refine wp_goto (tgt := 97) dX8_sources_92 (by decide) ?_
    exact WP.wk (BX8_sources_97 hk0 h0) (And.intro rfl (And.intro rfl (And.intro rfl (And.intro rfl (And.intro rfl (And.intro rfl trivial))))))
def bX8_sources_68 (k : KTX8_sources) (w : XW) (l0 : Nat) (l1 : Int32) (l2 : Int32) (l3 : Int32) (l4 : Int32) (l5 : Int32) (l6 : Int32) (s0 : Int32) : Option (Int32 × XW) :=
  if s0 = 0 then
  bX8_sources_82 k w l0 l1 l2 l3 l5 l6 s0 l4 (0 : Int32)
  else
  bX8_sources_82 k w l0 l1 l2 l3 l5 l6 s0 l4 (1 : Int32)
theorem BX8_sources_68 {K : CX} {l : Launch} {n0 k0 : Nat} {k : KTX8_sources} (hk0 : ∀ (w : XW) (l0 : Nat) (l1 : Int32) (l2 : Int32) (l3 : Int32) (l4 : Int32) (l5 : Int32) (l6 : Int32) (q : Int32 × XW), k w l0 l1 l2 l3 l4 l5 l6 = some q → WP K l mX8_sources 8 185 n0 k0 (some (.int q.1)) q.2 47 [some (.ref l0), some (.int l1), some (.int l2), some (.int l3), some (.int l4), some (.int l5), some (.int l6), none] [] w) {w : XW} {l0 : Nat} {l1 : Int32} {l2 : Int32} {l3 : Int32} {l4 : Int32} {l5 : Int32} {l6 : Int32} {s0 : Int32} {q : Int32 × XW} (h0 : bX8_sources_68 k w l0 l1 l2 l3 l4 l5 l6 s0 = some q) : WP K l mX8_sources 8 185 n0 k0 (some (.int q.1)) q.2 68 [some (.ref l0), some (.int l1), some (.int l2), some (.int l3), some (.int l4), some (.int l5), some (.int l6), none] [.int s0] w := by
  unfold bX8_sources_68 at h0
  refine wp_istore (L1 := [some (.ref l0), some (.int l1), some (.int l2), some (.int l3), some (.int l4), some (.int l5), some (.int l6), some (.int s0)]) dX8_sources_68 (Nat.le_of_ble_eq_true rfl) rfl ?_
  refine wp_iload dX8_sources_70 rfl ?_
  refine wp_iload dX8_sources_72 rfl ?_
  refine wp_if_eq (tgt := 81) dX8_sources_74 (by decide) (fun c1 => ?_) (fun c1 => ?_)
  · rw [if_pos c1] at h0
    refine wp_iconst (v := (0 : Int32)) dX8_sources_81 (by decide) ?_
    exact WP.wk (BX8_sources_82 hk0 h0) (And.intro rfl (And.intro rfl (And.intro rfl (And.intro rfl (And.intro rfl (And.intro rfl (And.intro rfl trivial)))))))
  · rw [if_neg c1] at h0
    refine wp_iconst (v := (1 : Int32)) dX8_sources_77 (by decide) ?_
    refine wp_goto (tgt := 82) dX8_sources_78 (by decide) ?_
    exact WP.wk (BX8_sources_82 hk0 h0) (And.intro rfl (And.intro rfl (And.intro rfl (And.intro rfl (And.intro rfl (And.intro rfl (And.intro rfl trivial)))))))
def bX8_sources_34 (k : KTX8_sources) (w : XW) : Option (Int32 × XW) :=
  some ((-1 : Int32), w)
theorem BX8_sources_34 {K : CX} {l : Launch} {n0 k0 : Nat} {k : KTX8_sources} (hk0 : ∀ (w : XW) (l0 : Nat) (l1 : Int32) (l2 : Int32) (l3 : Int32) (l4 : Int32) (l5 : Int32) (l6 : Int32) (q : Int32 × XW), k w l0 l1 l2 l3 l4 l5 l6 = some q → WP K l mX8_sources 8 185 n0 k0 (some (.int q.1)) q.2 47 [some (.ref l0), some (.int l1), some (.int l2), some (.int l3), some (.int l4), some (.int l5), some (.int l6), none] [] w) {w : XW} {q : Int32 × XW} (h0 : bX8_sources_34 k w = some q) : WP K l mX8_sources 8 185 n0 k0 (some (.int q.1)) q.2 34 [none, none, none, none, none, none, none, none] [] w := by
  unfold bX8_sources_34 at h0
  refine wp_iconst (v := (-1 : Int32)) dX8_sources_34 (by decide) ?_
  cases h0
  exact wp_iret rfl dX8_sources_35
def hX8_sources_47 (k : KTX8_sources) (w : XW) (l0 : Nat) (l1 : Int32) (l2 : Int32) (l3 : Int32) (l4 : Int32) (l5 : Int32) (l6 : Int32) : Option (Int32 × XW) :=
  if l6 < 0 then
  if l3 = 0 then
  bX8_sources_116 k w l4
  else
  bX8_sources_116 k w l5
  else
  (fX8_mapOf w l0 l6 l1).bind fun q3 =>
  if q3.1 = l2 then
  bX8_sources_68 k q3.2 l0 l1 l2 l3 l4 l5 l6 (1 : Int32)
  else
  bX8_sources_68 k q3.2 l0 l1 l2 l3 l4 l5 l6 (0 : Int32)
theorem HX8_sources_47 {K : CX} {l : Launch} {n0 k0 : Nat} {k : KTX8_sources} (hk0 : ∀ (w : XW) (l0 : Nat) (l1 : Int32) (l2 : Int32) (l3 : Int32) (l4 : Int32) (l5 : Int32) (l6 : Int32) (q : Int32 × XW), k w l0 l1 l2 l3 l4 l5 l6 = some q → WP K l mX8_sources 8 185 n0 k0 (some (.int q.1)) q.2 47 [some (.ref l0), some (.int l1), some (.int l2), some (.int l3), some (.int l4), some (.int l5), some (.int l6), none] [] w) {w : XW} {l0 : Nat} {l1 : Int32} {l2 : Int32} {l3 : Int32} {l4 : Int32} {l5 : Int32} {l6 : Int32} {q : Int32 × XW} (h0 : hX8_sources_47 k w l0 l1 l2 l3 l4 l5 l6 = some q) : WP K l mX8_sources 8 185 n0 k0 (some (.int q.1)) q.2 47 [some (.ref l0), some (.int l1), some (.int l2), some (.int l3), some (.int l4), some (.int l5), some (.int l6), none] [] w := by
  unfold hX8_sources_47 at h0
  refine wp_iload dX8_sources_47 rfl ?_
  refine wp_if_lt (tgt := 105) dX8_sources_49 (by decide) (fun c1 => ?_) (fun c1 => ?_)
  · rw [if_pos c1] at h0
    refine wp_iload_n dX8_sources_105 rfl ?_
    refine wp_if_ne (tgt := 114) dX8_sources_106 (by decide) (fun c2 => ?_) (fun c2 => ?_)
    · rw [if_neg c2] at h0
      refine wp_iload dX8_sources_114 rfl ?_
      exact WP.wk (BX8_sources_116 hk0 h0) trivial
    · rw [if_pos c2] at h0
      refine wp_iload dX8_sources_109 rfl ?_
      refine wp_goto (tgt := 116) dX8_sources_111 (by decide) ?_
      exact WP.wk (BX8_sources_116 hk0 h0) trivial
  · rw [if_neg c1] at h0
    refine wp_aload_n dX8_sources_52 rfl ?_
    refine wp_iload dX8_sources_53 rfl ?_
    refine wp_iload_n dX8_sources_55 rfl ?_
    obtain ⟨q3, e5, h4⟩ := Option.bind_eq_some_iff.mp h0
    clear h0
    refine wp_Vi (As := [.int l6, .int l1]) (S := []) okM_X8_mapOf tw975 twP_X8_mapOf tw973 (OX8_mapOf e5) rfl rfl rfl ⟨(Nat.le_of_ble_eq_true rfl), (Nat.le_of_ble_eq_true rfl)⟩ (Nat.le_of_ble_eq_true rfl) rfl dX8_sources_56 (MX8_mapOf e5) ?_
    refine wp_iload_n dX8_sources_59 rfl ?_
    refine wp_icmp_ne (tgt := 67) dX8_sources_60 (by decide) (fun c6 => ?_) (fun c6 => ?_)
    · rw [if_neg c6] at h4
      refine wp_iconst (v := (0 : Int32)) dX8_sources_67 (by decide) ?_
      exact WP.wk (BX8_sources_68 hk0 h4) (And.intro rfl (And.intro rfl (And.intro rfl (And.intro rfl (And.intro rfl (And.intro rfl (And.intro rfl trivial)))))))
    · rw [if_pos c6] at h4
      refine wp_iconst (v := (1 : Int32)) dX8_sources_63 (by decide) ?_
      refine wp_goto (tgt := 68) dX8_sources_64 (by decide) ?_
      exact WP.wk (BX8_sources_68 hk0 h4) (And.intro rfl (And.intro rfl (And.intro rfl (And.intro rfl (And.intro rfl (And.intro rfl (And.intro rfl trivial)))))))
def eX8_sources (k : KTX8_sources) (w : XW) (l0 : Nat) (l1 : Int32) (l2 : Int32) (l3 : Int32) : Option (Int32 × XW) :=
  (fX8_in w (l1.toInt64) (0 : Int64) (5 : Int64)).bind fun q1 =>
  if q1.1 = 0 then
  bX8_sources_34 k q1.2
  else
  (fX8_in q1.2 (l2.toInt64) (0 : Int64) (999 : Int64)).bind fun q5 =>
  if q5.1 = 0 then
  bX8_sources_34 k q5.2
  else
  (fX8_in q5.2 (l3.toInt64) (0 : Int64) (1 : Int64)).bind fun q9 =>
  if q9.1 = 0 then
  bX8_sources_34 k q9.2
  else
  k q9.2 l0 l1 l2 l3 (0 : Int32) (-4 : Int32) (40 : Int32)
theorem EX8_sources {K : CX} {l : Launch} {n0 k0 : Nat} {k : KTX8_sources} (hk0 : ∀ (w : XW) (l0 : Nat) (l1 : Int32) (l2 : Int32) (l3 : Int32) (l4 : Int32) (l5 : Int32) (l6 : Int32) (q : Int32 × XW), k w l0 l1 l2 l3 l4 l5 l6 = some q → WP K l mX8_sources 8 185 n0 k0 (some (.int q.1)) q.2 47 [some (.ref l0), some (.int l1), some (.int l2), some (.int l3), some (.int l4), some (.int l5), some (.int l6), none] [] w) {w : XW} {l0 : Nat} {l1 : Int32} {l2 : Int32} {l3 : Int32} {q : Int32 × XW} (h0 : eX8_sources k w l0 l1 l2 l3 = some q) : WP K l mX8_sources 8 185 n0 k0 (some (.int q.1)) q.2 0 [some (.ref l0), some (.int l1), some (.int l2), some (.int l3), none, none, none, none] [] w := by
  unfold eX8_sources at h0
  refine wp_iload_n dX8_sources_0 rfl ?_
  refine wp_i2l dX8_sources_1 ?_
  refine wp_lconst (v := (0 : Int64)) dX8_sources_2 (by decide) ?_
  refine wp_ldc2 tw837 dX8_sources_3 ?_
  obtain ⟨q1, e3, h2⟩ := Option.bind_eq_some_iff.mp h0
  clear h0
  refine wp_Si (As := [.long (l1.toInt64), .long (0 : Int64), .long (5 : Int64)]) (S := []) okM_X8_in tw785 tw784 rfl ⟨(Nat.le_of_ble_eq_true rfl), (Nat.le_of_ble_eq_true rfl)⟩ (Nat.le_of_ble_eq_true rfl) rfl dX8_sources_6 (MX8_in e3) ?_
  refine wp_if_eq (tgt := 34) dX8_sources_9 (by decide) (fun c4 => ?_) (fun c4 => ?_)
  · rw [if_pos c4] at h2
    exact WP.wk (BX8_sources_34 hk0 h2) trivial
  · rw [if_neg c4] at h2
    refine wp_iload_n dX8_sources_12 rfl ?_
    refine wp_i2l dX8_sources_13 ?_
    refine wp_lconst (v := (0 : Int64)) dX8_sources_14 (by decide) ?_
    refine wp_ldc2 tw857 dX8_sources_15 ?_
    obtain ⟨q5, e7, h6⟩ := Option.bind_eq_some_iff.mp h2
    clear h2
    refine wp_Si (As := [.long (l2.toInt64), .long (0 : Int64), .long (999 : Int64)]) (S := []) okM_X8_in tw785 tw784 rfl ⟨(Nat.le_of_ble_eq_true rfl), (Nat.le_of_ble_eq_true rfl)⟩ (Nat.le_of_ble_eq_true rfl) rfl dX8_sources_18 (MX8_in e7) ?_
    refine wp_if_eq (tgt := 34) dX8_sources_21 (by decide) (fun c8 => ?_) (fun c8 => ?_)
    · rw [if_pos c8] at h6
      exact WP.wk (BX8_sources_34 hk0 h6) trivial
    · rw [if_neg c8] at h6
      refine wp_iload_n dX8_sources_24 rfl ?_
      refine wp_i2l dX8_sources_25 ?_
      refine wp_lconst (v := (0 : Int64)) dX8_sources_26 (by decide) ?_
      refine wp_lconst (v := (1 : Int64)) dX8_sources_27 (by decide) ?_
      obtain ⟨q9, e11, h10⟩ := Option.bind_eq_some_iff.mp h6
      clear h6
      refine wp_Si (As := [.long (l3.toInt64), .long (0 : Int64), .long (1 : Int64)]) (S := []) okM_X8_in tw785 tw784 rfl ⟨(Nat.le_of_ble_eq_true rfl), (Nat.le_of_ble_eq_true rfl)⟩ (Nat.le_of_ble_eq_true rfl) rfl dX8_sources_28 (MX8_in e11) ?_
      refine wp_if_ne (tgt := 36) dX8_sources_31 (by decide) (fun c12 => ?_) (fun c12 => ?_)
      · rw [if_neg c12] at h10
        refine wp_iconst (v := (0 : Int32)) dX8_sources_36 (by decide) ?_
        refine wp_istore (L1 := [some (.ref l0), some (.int l1), some (.int l2), some (.int l3), some (.int (0 : Int32)), none, none, none]) dX8_sources_37 (Nat.le_of_ble_eq_true rfl) rfl ?_
        refine wp_bipush (v := (-4 : Int32)) dX8_sources_39 (by decide) ?_
        refine wp_istore (L1 := [some (.ref l0), some (.int l1), some (.int l2), some (.int l3), some (.int (0 : Int32)), some (.int (-4 : Int32)), none, none]) dX8_sources_41 (Nat.le_of_ble_eq_true rfl) rfl ?_
        refine wp_bipush (v := (40 : Int32)) dX8_sources_43 (by decide) ?_
        refine wp_istore (L1 := [some (.ref l0), some (.int l1), some (.int l2), some (.int l3), some (.int (0 : Int32)), some (.int (-4 : Int32)), some (.int (40 : Int32)), none]) dX8_sources_45 (Nat.le_of_ble_eq_true rfl) rfl ?_
        exact WP.wk (hk0 _ _ _ _ _ _ _ _ _ h10) (And.intro rfl (And.intro rfl (And.intro rfl (And.intro rfl (And.intro rfl (And.intro rfl (And.intro rfl trivial)))))))
      · rw [if_pos c12] at h10
        exact WP.wk (BX8_sources_34 hk0 h10) trivial
def loX8_sources : Nat → KTX8_sources
  | 0 => fun _ _ _ _ _ _ _ _ => none
  | n + 1 => hX8_sources_47 (loX8_sources n)
theorem LOX8_sources {K : CX} {l : Launch} {n0 k0 : Nat} : ∀ n : Nat, (∀ (w : XW) (l0 : Nat) (l1 : Int32) (l2 : Int32) (l3 : Int32) (l4 : Int32) (l5 : Int32) (l6 : Int32) (q : Int32 × XW), (loX8_sources n) w l0 l1 l2 l3 l4 l5 l6 = some q → WP K l mX8_sources 8 185 n0 k0 (some (.int q.1)) q.2 47 [some (.ref l0), some (.int l1), some (.int l2), some (.int l3), some (.int l4), some (.int l5), some (.int l6), none] [] w) := by
  intro n
  induction n with
  | zero => exact fun _ _ _ _ _ _ _ _ q h => (by cases h)
  | succ n ih => exact fun _ _ _ _ _ _ _ _ q h => HX8_sources_47 ih h
def fX8_sources (w : XW) (l0 : Nat) (l1 : Int32) (l2 : Int32) (l3 : Int32) : Option (Int32 × XW) := if isO w l0 8 = true then eX8_sources (loX8_sources FU) w l0 l1 l2 l3 else none
theorem OX8_sources {w : XW} {l0 : Nat} {l1 : Int32} {l2 : Int32} {l3 : Int32} {q : Int32 × XW} (h : fX8_sources w l0 l1 l2 l3 = some q) : isO w l0 8 = true := Decidable.byContradiction fun z => by unfold fX8_sources at h; rw [if_neg z] at h; cases h
theorem MX8_sources {K : CX} {l : Launch} {w : XW} {l0 : Nat} {l1 : Int32} {l2 : Int32} {l3 : Int32} {q : Int32 × XW} (h : fX8_sources w l0 l1 l2 l3 = some q) : MT K l mX8_sources 8 185 [.ref l0, .int l1, .int l2, .int l3] w (some (.int q.1)) q.2 := by
  have z := OX8_sources h
  unfold fX8_sources at h
  rw [if_pos z] at h
  exact MT.of (by decide) (Nat.le_of_ble_eq_true rfl) rfl (EX8_sources (LOX8_sources FU) h)
/-! FractionRun.leadsHere(III)Z: frames 4, words 93 -/
abbrev mX7_leadsHere : MR := (⟨"FractionRun", "leadsHere", "(III)Z"⟩, prog_1_method_40_code, 6, (some .boolean))
theorem dX7_leadsHere_0 : decode prog_1_method_40_code 0 = .ok (.aload_n 0, 1) := by decide +kernel
theorem dX7_leadsHere_1 : decode prog_1_method_40_code 1 = .ok (.getfield 40, 3) := by decide +kernel
theorem dX7_leadsHere_4 : decode prog_1_method_40_code 4 = .ok (.aload_n 0, 1) := by decide +kernel
theorem dX7_leadsHere_5 : decode prog_1_method_40_code 5 = .ok (.getfield 36, 3) := by decide +kernel
theorem dX7_leadsHere_8 : decode prog_1_method_40_code 8 = .ok (.invokevirtual 189, 3) := by decide +kernel
theorem dX7_leadsHere_11 : decode prog_1_method_40_code 11 = .ok (.aload_n 0, 1) := by decide +kernel
theorem dX7_leadsHere_12 : decode prog_1_method_40_code 12 = .ok (.getfield 40, 3) := by decide +kernel
theorem dX7_leadsHere_15 : decode prog_1_method_40_code 15 = .ok (.iconst 0, 1) := by decide +kernel
theorem dX7_leadsHere_16 : decode prog_1_method_40_code 16 = .ok (.putfield 272, 3) := by decide +kernel
theorem dX7_leadsHere_19 : decode prog_1_method_40_code 19 = .ok (.aload_n 0, 1) := by decide +kernel
theorem dX7_leadsHere_20 : decode prog_1_method_40_code 20 = .ok (.getfield 40, 3) := by decide +kernel
theorem dX7_leadsHere_23 : decode prog_1_method_40_code 23 = .ok (.iload_n 3, 1) := by decide +kernel
theorem dX7_leadsHere_24 : decode prog_1_method_40_code 24 = .ok (.putfield 292, 3) := by decide +kernel
theorem dX7_leadsHere_27 : decode prog_1_method_40_code 27 = .ok (.aload_n 0, 1) := by decide +kernel
theorem dX7_leadsHere_28 : decode prog_1_method_40_code 28 = .ok (.getfield 40, 3) := by decide +kernel
theorem dX7_leadsHere_31 : decode prog_1_method_40_code 31 = .ok (.aload_n 0, 1) := by decide +kernel
theorem dX7_leadsHere_32 : decode prog_1_method_40_code 32 = .ok (.getfield 36, 3) := by decide +kernel
theorem dX7_leadsHere_35 : decode prog_1_method_40_code 35 = .ok (.getfield 150, 3) := by decide +kernel
theorem dX7_leadsHere_38 : decode prog_1_method_40_code 38 = .ok (.iconst 1, 1) := by decide +kernel
theorem dX7_leadsHere_39 : decode prog_1_method_40_code 39 = .ok (.isub, 1) := by decide +kernel
theorem dX7_leadsHere_40 : decode prog_1_method_40_code 40 = .ok (.putfield 150, 3) := by decide +kernel
theorem dX7_leadsHere_43 : decode prog_1_method_40_code 43 = .ok (.iconst 0, 1) := by decide +kernel
theorem dX7_leadsHere_44 : decode prog_1_method_40_code 44 = .ok (.istore 4, 2) := by decide +kernel
theorem dX7_leadsHere_46 : decode prog_1_method_40_code 46 = .ok (.iload 4, 2) := by decide +kernel
theorem dX7_leadsHere_48 : decode prog_1_method_40_code 48 = .ok (.bipush 6, 2) := by decide +kernel
theorem dX7_leadsHere_50 : decode prog_1_method_40_code 50 = .ok (.if_icmp .ge 66, 3) := by decide +kernel
theorem dX7_leadsHere_53 : decode prog_1_method_40_code 53 = .ok (.aload_n 0, 1) := by decide +kernel
theorem dX7_leadsHere_54 : decode prog_1_method_40_code 54 = .ok (.getfield 36, 3) := by decide +kernel
theorem dX7_leadsHere_57 : decode prog_1_method_40_code 57 = .ok (.getfield 147, 3) := by decide +kernel
theorem dX7_leadsHere_60 : decode prog_1_method_40_code 60 = .ok (.iload 4, 2) := by decide +kernel
theorem dX7_leadsHere_62 : decode prog_1_method_40_code 62 = .ok (.iaload, 1) := by decide +kernel
theorem dX7_leadsHere_63 : decode prog_1_method_40_code 63 = .ok (.iload_n 2, 1) := by decide +kernel
theorem dX7_leadsHere_64 : decode prog_1_method_40_code 64 = .ok (.aload_n 0, 1) := by decide +kernel
theorem dX7_leadsHere_65 : decode prog_1_method_40_code 65 = .ok (.getfield 26, 3) := by decide +kernel
theorem dX7_leadsHere_68 : decode prog_1_method_40_code 68 = .ok (.getfield 299, 3) := by decide +kernel
theorem dX7_leadsHere_71 : decode prog_1_method_40_code 71 = .ok (.iload_n 1, 1) := by decide +kernel
theorem dX7_leadsHere_72 : decode prog_1_method_40_code 72 = .ok (.bipush 6, 2) := by decide +kernel
theorem dX7_leadsHere_74 : decode prog_1_method_40_code 74 = .ok (.imul, 1) := by decide +kernel
theorem dX7_leadsHere_75 : decode prog_1_method_40_code 75 = .ok (.iload 4, 2) := by decide +kernel
theorem dX7_leadsHere_77 : decode prog_1_method_40_code 77 = .ok (.iadd, 1) := by decide +kernel
theorem dX7_leadsHere_78 : decode prog_1_method_40_code 78 = .ok (.iaload, 1) := by decide +kernel
theorem dX7_leadsHere_79 : decode prog_1_method_40_code 79 = .ok (.imul, 1) := by decide +kernel
theorem dX7_leadsHere_80 : decode prog_1_method_40_code 80 = .ok (.isub, 1) := by decide +kernel
theorem dX7_leadsHere_81 : decode prog_1_method_40_code 81 = .ok (.istore 5, 2) := by decide +kernel
theorem dX7_leadsHere_83 : decode prog_1_method_40_code 83 = .ok (.iload 5, 2) := by decide +kernel
theorem dX7_leadsHere_85 : decode prog_1_method_40_code 85 = .ok (.ifCond .lt 11, 3) := by decide +kernel
theorem dX7_leadsHere_88 : decode prog_1_method_40_code 88 = .ok (.iload 5, 2) := by decide +kernel
theorem dX7_leadsHere_90 : decode prog_1_method_40_code 90 = .ok (.sipush 999, 3) := by decide +kernel
theorem dX7_leadsHere_93 : decode prog_1_method_40_code 93 = .ok (.if_icmp .le 5, 3) := by decide +kernel
theorem dX7_leadsHere_96 : decode prog_1_method_40_code 96 = .ok (.iconst 0, 1) := by decide +kernel
theorem dX7_leadsHere_97 : decode prog_1_method_40_code 97 = .ok (.ireturn, 1) := by decide +kernel
theorem dX7_leadsHere_98 : decode prog_1_method_40_code 98 = .ok (.aload_n 0, 1) := by decide +kernel
theorem dX7_leadsHere_99 : decode prog_1_method_40_code 99 = .ok (.getfield 40, 3) := by decide +kernel
theorem dX7_leadsHere_102 : decode prog_1_method_40_code 102 = .ok (.getfield 147, 3) := by decide +kernel
theorem dX7_leadsHere_105 : decode prog_1_method_40_code 105 = .ok (.iload 4, 2) := by decide +kernel
theorem dX7_leadsHere_107 : decode prog_1_method_40_code 107 = .ok (.iload 5, 2) := by decide +kernel
theorem dX7_leadsHere_109 : decode prog_1_method_40_code 109 = .ok (.iastore, 1) := by decide +kernel
theorem dX7_leadsHere_110 : decode prog_1_method_40_code 110 = .ok (.iinc 4 1, 3) := by decide +kernel
theorem dX7_leadsHere_113 : decode prog_1_method_40_code 113 = .ok (.goto (-67), 3) := by decide +kernel
theorem dX7_leadsHere_116 : decode prog_1_method_40_code 116 = .ok (.aload_n 0, 1) := by decide +kernel
theorem dX7_leadsHere_117 : decode prog_1_method_40_code 117 = .ok (.getfield 40, 3) := by decide +kernel
theorem dX7_leadsHere_120 : decode prog_1_method_40_code 120 = .ok (.aload_n 0, 1) := by decide +kernel
theorem dX7_leadsHere_121 : decode prog_1_method_40_code 121 = .ok (.getfield 26, 3) := by decide +kernel
theorem dX7_leadsHere_124 : decode prog_1_method_40_code 124 = .ok (.invokevirtual 208, 3) := by decide +kernel
theorem dX7_leadsHere_127 : decode prog_1_method_40_code 127 = .ok (.iload_n 1, 1) := by decide +kernel
theorem dX7_leadsHere_128 : decode prog_1_method_40_code 128 = .ok (.if_icmp .ne 38, 3) := by decide +kernel
theorem dX7_leadsHere_131 : decode prog_1_method_40_code 131 = .ok (.aload_n 0, 1) := by decide +kernel
theorem dX7_leadsHere_132 : decode prog_1_method_40_code 132 = .ok (.getfield 40, 3) := by decide +kernel
theorem dX7_leadsHere_135 : decode prog_1_method_40_code 135 = .ok (.aload_n 0, 1) := by decide +kernel
theorem dX7_leadsHere_136 : decode prog_1_method_40_code 136 = .ok (.getfield 36, 3) := by decide +kernel
theorem dX7_leadsHere_139 : decode prog_1_method_40_code 139 = .ok (.invokevirtual 217, 3) := by decide +kernel
theorem dX7_leadsHere_142 : decode prog_1_method_40_code 142 = .ok (.ifCond .eq 24, 3) := by decide +kernel
theorem dX7_leadsHere_145 : decode prog_1_method_40_code 145 = .ok (.aload_n 0, 1) := by decide +kernel
theorem dX7_leadsHere_146 : decode prog_1_method_40_code 146 = .ok (.getfield 40, 3) := by decide +kernel
theorem dX7_leadsHere_149 : decode prog_1_method_40_code 149 = .ok (.getfield 272, 3) := by decide +kernel
theorem dX7_leadsHere_152 : decode prog_1_method_40_code 152 = .ok (.aload_n 0, 1) := by decide +kernel
theorem dX7_leadsHere_153 : decode prog_1_method_40_code 153 = .ok (.getfield 36, 3) := by decide +kernel
theorem dX7_leadsHere_156 : decode prog_1_method_40_code 156 = .ok (.getfield 272, 3) := by decide +kernel
theorem dX7_leadsHere_159 : decode prog_1_method_40_code 159 = .ok (.if_icmp .ne 7, 3) := by decide +kernel
theorem dX7_leadsHere_162 : decode prog_1_method_40_code 162 = .ok (.iconst 1, 1) := by decide +kernel
theorem dX7_leadsHere_163 : decode prog_1_method_40_code 163 = .ok (.goto 4, 3) := by decide +kernel
theorem dX7_leadsHere_166 : decode prog_1_method_40_code 166 = .ok (.iconst 0, 1) := by decide +kernel
theorem dX7_leadsHere_167 : decode prog_1_method_40_code 167 = .ok (.ireturn, 1) := by decide +kernel
theorem okM_X7_leadsHere : okM mX7_leadsHere 3 := ⟨tw581, tw1, by decide, by decide, by decide +kernel⟩
abbrev KTX7_leadsHere : Type := (XW → Nat → Int32 → Int32 → Int32 → Option (Int32 × XW))
def bX7_leadsHere_167 (k : KTX7_leadsHere) (w : XW) (s0 : Int32) : Option (Int32 × XW) :=
  if s0 &&& 1 = s0 then some (s0, w) else none
theorem BX7_leadsHere_167 {K : CX} {l : Launch} {n0 k0 : Nat} {k : KTX7_leadsHere} (hk0 : ∀ (w : XW) (l0 : Nat) (l1 : Int32) (l2 : Int32) (l4 : Int32) (q : Int32 × XW), k w l0 l1 l2 l4 = some q → WP K l mX7_leadsHere 4 93 n0 k0 (some (.int q.1)) q.2 46 [some (.ref l0), some (.int l1), some (.int l2), none, some (.int l4), none] [] w) {w : XW} {s0 : Int32} {q : Int32 × XW} (h0 : bX7_leadsHere_167 k w s0 = some q) : WP K l mX7_leadsHere 4 93 n0 k0 (some (.int q.1)) q.2 167 [none, none, none, none, none, none] [.int s0] w := by
  unfold bX7_leadsHere_167 at h0
  have c1 : s0 &&& 1 = s0 := Decidable.byContradiction fun z => by rw [if_neg z] at h0; cases h0
  rw [if_pos c1] at h0
  cases h0
  exact wp_zret rfl (zb_n c1) dX7_leadsHere_167
def bX7_leadsHere_166 (k : KTX7_leadsHere) (w : XW) : Option (Int32 × XW) :=
  bX7_leadsHere_167 k w (0 : Int32)
theorem BX7_leadsHere_166 {K : CX} {l : Launch} {n0 k0 : Nat} {k : KTX7_leadsHere} (hk0 : ∀ (w : XW) (l0 : Nat) (l1 : Int32) (l2 : Int32) (l4 : Int32) (q : Int32 × XW), k w l0 l1 l2 l4 = some q → WP K l mX7_leadsHere 4 93 n0 k0 (some (.int q.1)) q.2 46 [some (.ref l0), some (.int l1), some (.int l2), none, some (.int l4), none] [] w) {w : XW} {q : Int32 × XW} (h0 : bX7_leadsHere_166 k w = some q) : WP K l mX7_leadsHere 4 93 n0 k0 (some (.int q.1)) q.2 166 [none, none, none, none, none, none] [] w := by
  unfold bX7_leadsHere_166 at h0
  refine wp_iconst (v := (0 : Int32)) dX7_leadsHere_166 (by decide) ?_
  exact WP.wk (BX7_leadsHere_167 hk0 h0) trivial
def bX7_leadsHere_96 (k : KTX7_leadsHere) (w : XW) : Option (Int32 × XW) :=
  some ((0 : Int32), w)
theorem BX7_leadsHere_96 {K : CX} {l : Launch} {n0 k0 : Nat} {k : KTX7_leadsHere} (hk0 : ∀ (w : XW) (l0 : Nat) (l1 : Int32) (l2 : Int32) (l4 : Int32) (q : Int32 × XW), k w l0 l1 l2 l4 = some q → WP K l mX7_leadsHere 4 93 n0 k0 (some (.int q.1)) q.2 46 [some (.ref l0), some (.int l1), some (.int l2), none, some (.int l4), none] [] w) {w : XW} {q : Int32 × XW} (h0 : bX7_leadsHere_96 k w = some q) : WP K l mX7_leadsHere 4 93 n0 k0 (some (.int q.1)) q.2 96 [none, none, none, none, none, none] [] w := by
  unfold bX7_leadsHere_96 at h0
  refine wp_iconst (v := (0 : Int32)) dX7_leadsHere_96 (by decide) ?_
  cases h0
  exact wp_zret (x := (0 : Int32)) rfl narrow_b0 dX7_leadsHere_97
def hX7_leadsHere_46 (k : KTX7_leadsHere) (w : XW) (l0 : Nat) (l1 : Int32) (l2 : Int32) (l4 : Int32) : Option (Int32 × XW) :=
  if (6 : Int32) ≤ l4 then
  (gR w l0 7 5).bind fun x2 =>
  (gR w l0 7 2).bind fun x5 =>
  (fX5_takeStep w x2 x5).bind fun q8 =>
  if q8.1 = l1 then
  (gR q8.2 l0 7 5).bind fun x12 =>
  (gR q8.2 l0 7 4).bind fun x15 =>
  (fX5_hasPowersOf q8.2 x12 x15).bind fun q18 =>
  if q18.1 = 0 then
  bX7_leadsHere_166 k q18.2
  else
  (gR q18.2 l0 7 5).bind fun x22 =>
  (gI q18.2 x22 5 5).bind fun x25 =>
  (gR q18.2 l0 7 4).bind fun x28 =>
  (gI q18.2 x28 5 5).bind fun x31 =>
  if x25 = x31 then
  bX7_leadsHere_167 k q18.2 (1 : Int32)
  else
  bX7_leadsHere_166 k q18.2
  else
  bX7_leadsHere_166 k q8.2
  else
  (gR w l0 7 4).bind fun x35 =>
  (gR w x35 5 0).bind fun x38 =>
  (aI w 0 x38 l4).bind fun x41 =>
  (gR w l0 7 2).bind fun x44 =>
  (gR w x44 1 3).bind fun x47 =>
  (aI w 0 x47 ((l1 * (6 : Int32)) + l4)).bind fun x50 =>
  if (x41 - (l2 * x50)) < 0 then
  bX7_leadsHere_96 k w
  else
  if (x41 - (l2 * x50)) ≤ (999 : Int32) then
  (gR w l0 7 5).bind fun x55 =>
  (gR w x55 5 0).bind fun x58 =>
  (sI w 0 x58 l4 (x41 - (l2 * x50))).bind fun w61 =>
  k w61 l0 l1 l2 (l4 + (1 : Int32))
  else
  bX7_leadsHere_96 k w
theorem HX7_leadsHere_46 {K : CX} {l : Launch} {n0 k0 : Nat} {k : KTX7_leadsHere} (hk0 : ∀ (w : XW) (l0 : Nat) (l1 : Int32) (l2 : Int32) (l4 : Int32) (q : Int32 × XW), k w l0 l1 l2 l4 = some q → WP K l mX7_leadsHere 4 93 n0 k0 (some (.int q.1)) q.2 46 [some (.ref l0), some (.int l1), some (.int l2), none, some (.int l4), none] [] w) {w : XW} {l0 : Nat} {l1 : Int32} {l2 : Int32} {l4 : Int32} {q : Int32 × XW} (h0 : hX7_leadsHere_46 k w l0 l1 l2 l4 = some q) : WP K l mX7_leadsHere 4 93 n0 k0 (some (.int q.1)) q.2 46 [some (.ref l0), some (.int l1), some (.int l2), none, some (.int l4), none] [] w := by
  unfold hX7_leadsHere_46 at h0
  refine wp_iload dX7_leadsHere_46 rfl ?_
  refine wp_bipush (v := (6 : Int32)) dX7_leadsHere_48 (by decide) ?_
  refine wp_icmp_ge (tgt := 116) dX7_leadsHere_50 (by decide) (fun c1 => ?_) (fun c1 => ?_)
  · rw [if_pos c1] at h0
    refine wp_aload_n dX7_leadsHere_116 rfl ?_
    obtain ⟨x2, e4, h3⟩ := Option.bind_eq_some_iff.mp h0
    clear h0
    refine wp_getR okX7 (k := 5) (by decide) tw303 dX7_leadsHere_117 e4 ?_
    refine wp_aload_n dX7_leadsHere_120 rfl ?_
    obtain ⟨x5, e7, h6⟩ := Option.bind_eq_some_iff.mp h3
    clear h3
    refine wp_getR okX7 (k := 2) (by decide) tw300 dX7_leadsHere_121 e7 ?_
    obtain ⟨q8, e10, h9⟩ := Option.bind_eq_some_iff.mp h6
    clear h6
    refine wp_Vi (As := [.ref x5]) (S := []) okM_X5_takeStep tw431 tw432 tw520 (OX5_takeStep e10) rfl rfl rfl ⟨(Nat.le_of_ble_eq_true rfl), (Nat.le_of_ble_eq_true rfl)⟩ (Nat.le_of_ble_eq_true rfl) rfl dX7_leadsHere_124 (MX5_takeStep e10) ?_
    refine wp_iload_n dX7_leadsHere_127 rfl ?_
    refine wp_icmp_ne (tgt := 166) dX7_leadsHere_128 (by decide) (fun c11 => ?_) (fun c11 => ?_)
    · rw [if_neg c11] at h9
      exact WP.wk (BX7_leadsHere_166 hk0 h9) trivial
    · rw [if_pos c11] at h9
      refine wp_aload_n dX7_leadsHere_131 rfl ?_
      obtain ⟨x12, e14, h13⟩ := Option.bind_eq_some_iff.mp h9
      clear h9
      refine wp_getR okX7 (k := 5) (by decide) tw303 dX7_leadsHere_132 e14 ?_
      refine wp_aload_n dX7_leadsHere_135 rfl ?_
      obtain ⟨x15, e17, h16⟩ := Option.bind_eq_some_iff.mp h13
      clear h13
      refine wp_getR okX7 (k := 4) (by decide) tw302 dX7_leadsHere_136 e17 ?_
      obtain ⟨q18, e20, h19⟩ := Option.bind_eq_some_iff.mp h16
      clear h16
      refine wp_Vi (As := [.ref x15]) (S := []) okM_X5_hasPowersOf tw530 tw531 tw529 (OX5_hasPowersOf e20) rfl rfl rfl ⟨(Nat.le_of_ble_eq_true rfl), (Nat.le_of_ble_eq_true rfl)⟩ (Nat.le_of_ble_eq_true rfl) rfl dX7_leadsHere_139 (MX5_hasPowersOf e20) ?_
      refine wp_if_eq (tgt := 166) dX7_leadsHere_142 (by decide) (fun c21 => ?_) (fun c21 => ?_)
      · rw [if_pos c21] at h19
        exact WP.wk (BX7_leadsHere_166 hk0 h19) trivial
      · rw [if_neg c21] at h19
        refine wp_aload_n dX7_leadsHere_145 rfl ?_
        obtain ⟨x22, e24, h23⟩ := Option.bind_eq_some_iff.mp h19
        clear h19
        refine wp_getR okX7 (k := 5) (by decide) tw303 dX7_leadsHere_146 e24 ?_
        obtain ⟨x25, e27, h26⟩ := Option.bind_eq_some_iff.mp h23
        clear h23
        refine wp_getI okX5 (k := 5) (by decide) tw106 dX7_leadsHere_149 e27 ?_
        refine wp_aload_n dX7_leadsHere_152 rfl ?_
        obtain ⟨x28, e30, h29⟩ := Option.bind_eq_some_iff.mp h26
        clear h26
        refine wp_getR okX7 (k := 4) (by decide) tw302 dX7_leadsHere_153 e30 ?_
        obtain ⟨x31, e33, h32⟩ := Option.bind_eq_some_iff.mp h29
        clear h29
        refine wp_getI okX5 (k := 5) (by decide) tw106 dX7_leadsHere_156 e33 ?_
        refine wp_icmp_ne (tgt := 166) dX7_leadsHere_159 (by decide) (fun c34 => ?_) (fun c34 => ?_)
        · rw [if_neg c34] at h32
          exact WP.wk (BX7_leadsHere_166 hk0 h32) trivial
        · rw [if_pos c34] at h32
          refine wp_iconst (v := (1 : Int32)) dX7_leadsHere_162 (by decide) ?_
          refine wp_goto (tgt := 167) dX7_leadsHere_163 (by decide) ?_
          exact WP.wk (BX7_leadsHere_167 hk0 h32) trivial
  · rw [if_neg c1] at h0
    refine wp_aload_n dX7_leadsHere_53 rfl ?_
    obtain ⟨x35, e37, h36⟩ := Option.bind_eq_some_iff.mp h0
    clear h0
    refine wp_getR okX7 (k := 4) (by decide) tw302 dX7_leadsHere_54 e37 ?_
    obtain ⟨x38, e40, h39⟩ := Option.bind_eq_some_iff.mp h36
    clear h36
    refine wp_getR okX5 (k := 0) (by decide) tw94 dX7_leadsHere_57 e40 ?_
    refine wp_iload dX7_leadsHere_60 rfl ?_
    obtain ⟨x41, e43, h42⟩ := Option.bind_eq_some_iff.mp h39
    clear h39
    refine wp_iald dX7_leadsHere_62 e43 ?_
    refine wp_iload_n dX7_leadsHere_63 rfl ?_
    refine wp_aload_n dX7_leadsHere_64 rfl ?_
    obtain ⟨x44, e46, h45⟩ := Option.bind_eq_some_iff.mp h42
    clear h42
    refine wp_getR okX7 (k := 2) (by decide) tw300 dX7_leadsHere_65 e46 ?_
    obtain ⟨x47, e49, h48⟩ := Option.bind_eq_some_iff.mp h45
    clear h45
    refine wp_getR okX1 (k := 3) (by decide) tw67 dX7_leadsHere_68 e49 ?_
    refine wp_iload_n dX7_leadsHere_71 rfl ?_
    refine wp_bipush (v := (6 : Int32)) dX7_leadsHere_72 (by decide) ?_
    refine wp_imul dX7_leadsHere_74 ?_
    refine wp_iload dX7_leadsHere_75 rfl ?_
    refine wp_iadd dX7_leadsHere_77 ?_
    obtain ⟨x50, e52, h51⟩ := Option.bind_eq_some_iff.mp h48
    clear h48
    refine wp_iald dX7_leadsHere_78 e52 ?_
    refine wp_imul dX7_leadsHere_79 ?_
    refine wp_isub dX7_leadsHere_80 ?_
    refine wp_istore (L1 := [some (.ref l0), some (.int l1), some (.int l2), none, some (.int l4), some (.int (x41 - (l2 * x50)))]) dX7_leadsHere_81 (Nat.le_of_ble_eq_true rfl) rfl ?_
    refine wp_iload dX7_leadsHere_83 rfl ?_
    refine wp_if_lt (tgt := 96) dX7_leadsHere_85 (by decide) (fun c53 => ?_) (fun c53 => ?_)
    · rw [if_pos c53] at h51
      exact WP.wk (BX7_leadsHere_96 hk0 h51) trivial
    · rw [if_neg c53] at h51
      refine wp_iload dX7_leadsHere_88 rfl ?_
      refine wp_sipush (v := (999 : Int32)) dX7_leadsHere_90 (by decide) ?_
      refine wp_icmp_le (tgt := 98) dX7_leadsHere_93 (by decide) (fun c54 => ?_) (fun c54 => ?_)
      · rw [if_pos c54] at h51
        refine wp_aload_n dX7_leadsHere_98 rfl ?_
        obtain ⟨x55, e57, h56⟩ := Option.bind_eq_some_iff.mp h51
        clear h51
        refine wp_getR okX7 (k := 5) (by decide) tw303 dX7_leadsHere_99 e57 ?_
        obtain ⟨x58, e60, h59⟩ := Option.bind_eq_some_iff.mp h56
        clear h56
        refine wp_getR okX5 (k := 0) (by decide) tw94 dX7_leadsHere_102 e60 ?_
        refine wp_iload dX7_leadsHere_105 rfl ?_
        refine wp_iload dX7_leadsHere_107 rfl ?_
        obtain ⟨w61, e63, h62⟩ := Option.bind_eq_some_iff.mp h59
        clear h59
        refine wp_iast dX7_leadsHere_109 e63 ?_
        refine wp_iinc (v := (l4 + (1 : Int32))) (L1 := [some (.ref l0), some (.int l1), some (.int l2), none, some (.int (l4 + (1 : Int32))), some (.int (x41 - (l2 * x50)))]) dX7_leadsHere_110 (Nat.le_of_ble_eq_true rfl) rfl (congrArg (fun z => l4 + z) (by decide)) rfl ?_
        refine wp_goto (tgt := 46) dX7_leadsHere_113 (by decide) ?_
        exact WP.wk (hk0 _ _ _ _ _ _ h62) (And.intro rfl (And.intro rfl (And.intro rfl (And.intro rfl trivial))))
      · rw [if_neg c54] at h51
        exact WP.wk (BX7_leadsHere_96 hk0 h51) trivial
def eX7_leadsHere (k : KTX7_leadsHere) (w : XW) (l0 : Nat) (l1 : Int32) (l2 : Int32) (l3 : Int32) : Option (Int32 × XW) :=
  (gR w l0 7 5).bind fun x1 =>
  (gR w l0 7 4).bind fun x4 =>
  (fX5_copyFrom w x1 x4).bind fun q7 =>
  (gR q7 l0 7 5).bind fun x10 =>
  (pV q7 x10 5 5 (.int (0 : Int32))).bind fun w13 =>
  (gR w13 l0 7 5).bind fun x16 =>
  (pV w13 x16 5 3 (.int l3)).bind fun w19 =>
  (gR w19 l0 7 5).bind fun x22 =>
  (gR w19 l0 7 4).bind fun x25 =>
  (gI w19 x25 5 4).bind fun x28 =>
  (pV w19 x22 5 4 (.int (x28 - (1 : Int32)))).bind fun w31 =>
  k w31 l0 l1 l2 (0 : Int32)
theorem EX7_leadsHere {K : CX} {l : Launch} {n0 k0 : Nat} {k : KTX7_leadsHere} (hk0 : ∀ (w : XW) (l0 : Nat) (l1 : Int32) (l2 : Int32) (l4 : Int32) (q : Int32 × XW), k w l0 l1 l2 l4 = some q → WP K l mX7_leadsHere 4 93 n0 k0 (some (.int q.1)) q.2 46 [some (.ref l0), some (.int l1), some (.int l2), none, some (.int l4), none] [] w) {w : XW} {l0 : Nat} {l1 : Int32} {l2 : Int32} {l3 : Int32} {q : Int32 × XW} (h0 : eX7_leadsHere k w l0 l1 l2 l3 = some q) : WP K l mX7_leadsHere 4 93 n0 k0 (some (.int q.1)) q.2 0 [some (.ref l0), some (.int l1), some (.int l2), some (.int l3), none, none] [] w := by
  unfold eX7_leadsHere at h0
  refine wp_aload_n dX7_leadsHere_0 rfl ?_
  obtain ⟨x1, e3, h2⟩ := Option.bind_eq_some_iff.mp h0
  clear h0
  refine wp_getR okX7 (k := 5) (by decide) tw303 dX7_leadsHere_1 e3 ?_
  refine wp_aload_n dX7_leadsHere_4 rfl ?_
  obtain ⟨x4, e6, h5⟩ := Option.bind_eq_some_iff.mp h2
  clear h2
  refine wp_getR okX7 (k := 4) (by decide) tw302 dX7_leadsHere_5 e6 ?_
  obtain ⟨q7, e9, h8⟩ := Option.bind_eq_some_iff.mp h5
  clear h5
  refine wp_Vv (As := [.ref x4]) (S := []) okM_X5_copyFrom tw419 tw420 tw474 (OX5_copyFrom e9) rfl rfl rfl ⟨(Nat.le_of_ble_eq_true rfl), (Nat.le_of_ble_eq_true rfl)⟩ (Nat.le_of_ble_eq_true rfl) rfl dX7_leadsHere_8 (MX5_copyFrom e9) ?_
  refine wp_aload_n dX7_leadsHere_11 rfl ?_
  obtain ⟨x10, e12, h11⟩ := Option.bind_eq_some_iff.mp h8
  clear h8
  refine wp_getR okX7 (k := 5) (by decide) tw303 dX7_leadsHere_12 e12 ?_
  refine wp_iconst (v := (0 : Int32)) dX7_leadsHere_15 (by decide) ?_
  obtain ⟨w13, e15, h14⟩ := Option.bind_eq_some_iff.mp h11
  clear h11
  refine wp_putV okX5 (k := 5) (by decide) rfl tw106 dX7_leadsHere_16 rfl rfl e15 ?_
  refine wp_aload_n dX7_leadsHere_19 rfl ?_
  obtain ⟨x16, e18, h17⟩ := Option.bind_eq_some_iff.mp h14
  clear h14
  refine wp_getR okX7 (k := 5) (by decide) tw303 dX7_leadsHere_20 e18 ?_
  refine wp_iload_n dX7_leadsHere_23 rfl ?_
  obtain ⟨w19, e21, h20⟩ := Option.bind_eq_some_iff.mp h17
  clear h17
  refine wp_putV okX5 (k := 3) (by decide) rfl tw101 dX7_leadsHere_24 rfl rfl e21 ?_
  refine wp_aload_n dX7_leadsHere_27 rfl ?_
  obtain ⟨x22, e24, h23⟩ := Option.bind_eq_some_iff.mp h20
  clear h20
  refine wp_getR okX7 (k := 5) (by decide) tw303 dX7_leadsHere_28 e24 ?_
  refine wp_aload_n dX7_leadsHere_31 rfl ?_
  obtain ⟨x25, e27, h26⟩ := Option.bind_eq_some_iff.mp h23
  clear h23
  refine wp_getR okX7 (k := 4) (by decide) tw302 dX7_leadsHere_32 e27 ?_
  obtain ⟨x28, e30, h29⟩ := Option.bind_eq_some_iff.mp h26
  clear h26
  refine wp_getI okX5 (k := 4) (by decide) tw104 dX7_leadsHere_35 e30 ?_
  refine wp_iconst (v := (1 : Int32)) dX7_leadsHere_38 (by decide) ?_
  refine wp_isub dX7_leadsHere_39 ?_
  obtain ⟨w31, e33, h32⟩ := Option.bind_eq_some_iff.mp h29
  clear h29
  refine wp_putV okX5 (k := 4) (by decide) rfl tw104 dX7_leadsHere_40 rfl rfl e33 ?_
  refine wp_iconst (v := (0 : Int32)) dX7_leadsHere_43 (by decide) ?_
  refine wp_istore (L1 := [some (.ref l0), some (.int l1), some (.int l2), some (.int l3), some (.int (0 : Int32)), none]) dX7_leadsHere_44 (Nat.le_of_ble_eq_true rfl) rfl ?_
  exact WP.wk (hk0 _ _ _ _ _ _ h32) (And.intro rfl (And.intro rfl (And.intro rfl (And.intro rfl trivial))))
def loX7_leadsHere : Nat → KTX7_leadsHere
  | 0 => fun _ _ _ _ _ => none
  | n + 1 => hX7_leadsHere_46 (loX7_leadsHere n)
theorem LOX7_leadsHere {K : CX} {l : Launch} {n0 k0 : Nat} : ∀ n : Nat, (∀ (w : XW) (l0 : Nat) (l1 : Int32) (l2 : Int32) (l4 : Int32) (q : Int32 × XW), (loX7_leadsHere n) w l0 l1 l2 l4 = some q → WP K l mX7_leadsHere 4 93 n0 k0 (some (.int q.1)) q.2 46 [some (.ref l0), some (.int l1), some (.int l2), none, some (.int l4), none] [] w) := by
  intro n
  induction n with
  | zero => exact fun _ _ _ _ _ q h => (by cases h)
  | succ n ih => exact fun _ _ _ _ _ q h => HX7_leadsHere_46 ih h
def fX7_leadsHere (w : XW) (l0 : Nat) (l1 : Int32) (l2 : Int32) (l3 : Int32) : Option (Int32 × XW) := if isO w l0 7 = true then eX7_leadsHere (loX7_leadsHere FU) w l0 l1 l2 l3 else none
theorem OX7_leadsHere {w : XW} {l0 : Nat} {l1 : Int32} {l2 : Int32} {l3 : Int32} {q : Int32 × XW} (h : fX7_leadsHere w l0 l1 l2 l3 = some q) : isO w l0 7 = true := Decidable.byContradiction fun z => by unfold fX7_leadsHere at h; rw [if_neg z] at h; cases h
theorem MX7_leadsHere {K : CX} {l : Launch} {w : XW} {l0 : Nat} {l1 : Int32} {l2 : Int32} {l3 : Int32} {q : Int32 × XW} (h : fX7_leadsHere w l0 l1 l2 l3 = some q) : MT K l mX7_leadsHere 4 93 [.ref l0, .int l1, .int l2, .int l3] w (some (.int q.1)) q.2 := by
  have z := OX7_leadsHere h
  unfold fX7_leadsHere at h
  rw [if_pos z] at h
  exact MT.of (by decide) (Nat.le_of_ble_eq_true rfl) rfl (EX7_leadsHere (LOX7_leadsHere FU) h)
/-! FractionRun.mayHaveBeenUsedLast(I)Z: frames 5, words 118 -/
abbrev mX7_mayHaveBeenUsedLast : MR := (⟨"FractionRun", "mayHaveBeenUsedLast", "(I)Z"⟩, prog_1_method_39_code, 5, (some .boolean))
theorem dX7_mayHaveBeenUsedLast_0 : decode prog_1_method_39_code 0 = .ok (.iconst 1, 1) := by decide +kernel
theorem dX7_mayHaveBeenUsedLast_1 : decode prog_1_method_39_code 1 = .ok (.iload_n 1, 1) := by decide +kernel
theorem dX7_mayHaveBeenUsedLast_2 : decode prog_1_method_39_code 2 = .ok (.ishl, 1) := by decide +kernel
theorem dX7_mayHaveBeenUsedLast_3 : decode prog_1_method_39_code 3 = .ok (.istore_n 2, 1) := by decide +kernel
theorem dX7_mayHaveBeenUsedLast_4 : decode prog_1_method_39_code 4 = .ok (.aload_n 0, 1) := by decide +kernel
theorem dX7_mayHaveBeenUsedLast_5 : decode prog_1_method_39_code 5 = .ok (.getfield 26, 3) := by decide +kernel
theorem dX7_mayHaveBeenUsedLast_8 : decode prog_1_method_39_code 8 = .ok (.getfield 124, 3) := by decide +kernel
theorem dX7_mayHaveBeenUsedLast_11 : decode prog_1_method_39_code 11 = .ok (.iload_n 1, 1) := by decide +kernel
theorem dX7_mayHaveBeenUsedLast_12 : decode prog_1_method_39_code 12 = .ok (.iaload, 1) := by decide +kernel
theorem dX7_mayHaveBeenUsedLast_13 : decode prog_1_method_39_code 13 = .ok (.iconst 3, 1) := by decide +kernel
theorem dX7_mayHaveBeenUsedLast_14 : decode prog_1_method_39_code 14 = .ok (.if_icmp .ne 7, 3) := by decide +kernel
theorem dX7_mayHaveBeenUsedLast_17 : decode prog_1_method_39_code 17 = .ok (.iconst 2, 1) := by decide +kernel
theorem dX7_mayHaveBeenUsedLast_18 : decode prog_1_method_39_code 18 = .ok (.goto 4, 3) := by decide +kernel
theorem dX7_mayHaveBeenUsedLast_21 : decode prog_1_method_39_code 21 = .ok (.iconst 1, 1) := by decide +kernel
theorem dX7_mayHaveBeenUsedLast_22 : decode prog_1_method_39_code 22 = .ok (.istore_n 3, 1) := by decide +kernel
theorem dX7_mayHaveBeenUsedLast_23 : decode prog_1_method_39_code 23 = .ok (.iconst 1, 1) := by decide +kernel
theorem dX7_mayHaveBeenUsedLast_24 : decode prog_1_method_39_code 24 = .ok (.istore 4, 2) := by decide +kernel
theorem dX7_mayHaveBeenUsedLast_26 : decode prog_1_method_39_code 26 = .ok (.iload 4, 2) := by decide +kernel
theorem dX7_mayHaveBeenUsedLast_28 : decode prog_1_method_39_code 28 = .ok (.iload_n 3, 1) := by decide +kernel
theorem dX7_mayHaveBeenUsedLast_29 : decode prog_1_method_39_code 29 = .ok (.if_icmp .gt 49, 3) := by decide +kernel
theorem dX7_mayHaveBeenUsedLast_32 : decode prog_1_method_39_code 32 = .ok (.aload_n 0, 1) := by decide +kernel
theorem dX7_mayHaveBeenUsedLast_33 : decode prog_1_method_39_code 33 = .ok (.iload_n 1, 1) := by decide +kernel
theorem dX7_mayHaveBeenUsedLast_34 : decode prog_1_method_39_code 34 = .ok (.iload 4, 2) := by decide +kernel
theorem dX7_mayHaveBeenUsedLast_36 : decode prog_1_method_39_code 36 = .ok (.aload_n 0, 1) := by decide +kernel
theorem dX7_mayHaveBeenUsedLast_37 : decode prog_1_method_39_code 37 = .ok (.getfield 36, 3) := by decide +kernel
theorem dX7_mayHaveBeenUsedLast_40 : decode prog_1_method_39_code 40 = .ok (.getfield 292, 3) := by decide +kernel
theorem dX7_mayHaveBeenUsedLast_43 : decode prog_1_method_39_code 43 = .ok (.invokevirtual 295, 3) := by decide +kernel
theorem dX7_mayHaveBeenUsedLast_46 : decode prog_1_method_39_code 46 = .ok (.ifCond .ne 24, 3) := by decide +kernel
theorem dX7_mayHaveBeenUsedLast_49 : decode prog_1_method_39_code 49 = .ok (.aload_n 0, 1) := by decide +kernel
theorem dX7_mayHaveBeenUsedLast_50 : decode prog_1_method_39_code 50 = .ok (.iload_n 1, 1) := by decide +kernel
theorem dX7_mayHaveBeenUsedLast_51 : decode prog_1_method_39_code 51 = .ok (.iload 4, 2) := by decide +kernel
theorem dX7_mayHaveBeenUsedLast_53 : decode prog_1_method_39_code 53 = .ok (.aload_n 0, 1) := by decide +kernel
theorem dX7_mayHaveBeenUsedLast_54 : decode prog_1_method_39_code 54 = .ok (.getfield 36, 3) := by decide +kernel
theorem dX7_mayHaveBeenUsedLast_57 : decode prog_1_method_39_code 57 = .ok (.getfield 292, 3) := by decide +kernel
theorem dX7_mayHaveBeenUsedLast_60 : decode prog_1_method_39_code 60 = .ok (.iload_n 2, 1) := by decide +kernel
theorem dX7_mayHaveBeenUsedLast_61 : decode prog_1_method_39_code 61 = .ok (.iconst (-1), 1) := by decide +kernel
theorem dX7_mayHaveBeenUsedLast_62 : decode prog_1_method_39_code 62 = .ok (.ixor, 1) := by decide +kernel
theorem dX7_mayHaveBeenUsedLast_63 : decode prog_1_method_39_code 63 = .ok (.iand, 1) := by decide +kernel
theorem dX7_mayHaveBeenUsedLast_64 : decode prog_1_method_39_code 64 = .ok (.invokevirtual 295, 3) := by decide +kernel
theorem dX7_mayHaveBeenUsedLast_67 : decode prog_1_method_39_code 67 = .ok (.ifCond .eq 5, 3) := by decide +kernel
theorem dX7_mayHaveBeenUsedLast_70 : decode prog_1_method_39_code 70 = .ok (.iconst 1, 1) := by decide +kernel
theorem dX7_mayHaveBeenUsedLast_71 : decode prog_1_method_39_code 71 = .ok (.ireturn, 1) := by decide +kernel
theorem dX7_mayHaveBeenUsedLast_72 : decode prog_1_method_39_code 72 = .ok (.iinc 4 1, 3) := by decide +kernel
theorem dX7_mayHaveBeenUsedLast_75 : decode prog_1_method_39_code 75 = .ok (.goto (-49), 3) := by decide +kernel
theorem dX7_mayHaveBeenUsedLast_78 : decode prog_1_method_39_code 78 = .ok (.iconst 0, 1) := by decide +kernel
theorem dX7_mayHaveBeenUsedLast_79 : decode prog_1_method_39_code 79 = .ok (.ireturn, 1) := by decide +kernel
theorem okM_X7_mayHaveBeenUsedLast : okM mX7_mayHaveBeenUsedLast 1 := ⟨tw577, tw1, by decide, by decide, by decide +kernel⟩
abbrev KTX7_mayHaveBeenUsedLast : Type := (XW → Nat → Int32 → Int32 → Int32 → Int32 → Option (Int32 × XW))
def bX7_mayHaveBeenUsedLast_70 (k : KTX7_mayHaveBeenUsedLast) (w : XW) : Option (Int32 × XW) :=
  some ((1 : Int32), w)
theorem BX7_mayHaveBeenUsedLast_70 {K : CX} {l : Launch} {n0 k0 : Nat} {k : KTX7_mayHaveBeenUsedLast} (hk0 : ∀ (w : XW) (l0 : Nat) (l1 : Int32) (l2 : Int32) (l3 : Int32) (l4 : Int32) (q : Int32 × XW), k w l0 l1 l2 l3 l4 = some q → WP K l mX7_mayHaveBeenUsedLast 5 118 n0 k0 (some (.int q.1)) q.2 26 [some (.ref l0), some (.int l1), some (.int l2), some (.int l3), some (.int l4)] [] w) {w : XW} {q : Int32 × XW} (h0 : bX7_mayHaveBeenUsedLast_70 k w = some q) : WP K l mX7_mayHaveBeenUsedLast 5 118 n0 k0 (some (.int q.1)) q.2 70 [none, none, none, none, none] [] w := by
  unfold bX7_mayHaveBeenUsedLast_70 at h0
  refine wp_iconst (v := (1 : Int32)) dX7_mayHaveBeenUsedLast_70 (by decide) ?_
  cases h0
  exact wp_zret (x := (1 : Int32)) rfl narrow_b1 dX7_mayHaveBeenUsedLast_71
def bX7_mayHaveBeenUsedLast_22 (k : KTX7_mayHaveBeenUsedLast) (w : XW) (l0 : Nat) (l1 : Int32) (l2 : Int32) (s0 : Int32) : Option (Int32 × XW) :=
  k w l0 l1 l2 s0 (1 : Int32)
theorem BX7_mayHaveBeenUsedLast_22 {K : CX} {l : Launch} {n0 k0 : Nat} {k : KTX7_mayHaveBeenUsedLast} (hk0 : ∀ (w : XW) (l0 : Nat) (l1 : Int32) (l2 : Int32) (l3 : Int32) (l4 : Int32) (q : Int32 × XW), k w l0 l1 l2 l3 l4 = some q → WP K l mX7_mayHaveBeenUsedLast 5 118 n0 k0 (some (.int q.1)) q.2 26 [some (.ref l0), some (.int l1), some (.int l2), some (.int l3), some (.int l4)] [] w) {w : XW} {l0 : Nat} {l1 : Int32} {l2 : Int32} {s0 : Int32} {q : Int32 × XW} (h0 : bX7_mayHaveBeenUsedLast_22 k w l0 l1 l2 s0 = some q) : WP K l mX7_mayHaveBeenUsedLast 5 118 n0 k0 (some (.int q.1)) q.2 22 [some (.ref l0), some (.int l1), some (.int l2), none, none] [.int s0] w := by
  unfold bX7_mayHaveBeenUsedLast_22 at h0
  refine wp_istore_n (L1 := [some (.ref l0), some (.int l1), some (.int l2), some (.int s0), none]) dX7_mayHaveBeenUsedLast_22 (Nat.le_of_ble_eq_true rfl) rfl ?_
  refine wp_iconst (v := (1 : Int32)) dX7_mayHaveBeenUsedLast_23 (by decide) ?_
  refine wp_istore (L1 := [some (.ref l0), some (.int l1), some (.int l2), some (.int s0), some (.int (1 : Int32))]) dX7_mayHaveBeenUsedLast_24 (Nat.le_of_ble_eq_true rfl) rfl ?_
  exact WP.wk (hk0 _ _ _ _ _ _ _ h0) (And.intro rfl (And.intro rfl (And.intro rfl (And.intro rfl (And.intro rfl trivial)))))
def hX7_mayHaveBeenUsedLast_26 (k : KTX7_mayHaveBeenUsedLast) (w : XW) (l0 : Nat) (l1 : Int32) (l2 : Int32) (l3 : Int32) (l4 : Int32) : Option (Int32 × XW) :=
  if l3 < l4 then
  some ((0 : Int32), w)
  else
  (gR w l0 7 4).bind fun x2 =>
  (gI w x2 5 3).bind fun x5 =>
  (fX7_leadsHere w l0 l1 l4 x5).bind fun q8 =>
  if q8.1 = 0 then
  (gR q8.2 l0 7 4).bind fun x12 =>
  (gI q8.2 x12 5 3).bind fun x15 =>
  (fX7_leadsHere q8.2 l0 l1 l4 (x15 &&& (l2 ^^^ (-1 : Int32)))).bind fun q18 =>
  if q18.1 = 0 then
  k q18.2 l0 l1 l2 l3 (l4 + (1 : Int32))
  else
  bX7_mayHaveBeenUsedLast_70 k q18.2
  else
  bX7_mayHaveBeenUsedLast_70 k q8.2
theorem HX7_mayHaveBeenUsedLast_26 {K : CX} {l : Launch} {n0 k0 : Nat} {k : KTX7_mayHaveBeenUsedLast} (hk0 : ∀ (w : XW) (l0 : Nat) (l1 : Int32) (l2 : Int32) (l3 : Int32) (l4 : Int32) (q : Int32 × XW), k w l0 l1 l2 l3 l4 = some q → WP K l mX7_mayHaveBeenUsedLast 5 118 n0 k0 (some (.int q.1)) q.2 26 [some (.ref l0), some (.int l1), some (.int l2), some (.int l3), some (.int l4)] [] w) {w : XW} {l0 : Nat} {l1 : Int32} {l2 : Int32} {l3 : Int32} {l4 : Int32} {q : Int32 × XW} (h0 : hX7_mayHaveBeenUsedLast_26 k w l0 l1 l2 l3 l4 = some q) : WP K l mX7_mayHaveBeenUsedLast 5 118 n0 k0 (some (.int q.1)) q.2 26 [some (.ref l0), some (.int l1), some (.int l2), some (.int l3), some (.int l4)] [] w := by
  unfold hX7_mayHaveBeenUsedLast_26 at h0
  refine wp_iload dX7_mayHaveBeenUsedLast_26 rfl ?_
  refine wp_iload_n dX7_mayHaveBeenUsedLast_28 rfl ?_
  refine wp_icmp_gt (tgt := 78) dX7_mayHaveBeenUsedLast_29 (by decide) (fun c1 => ?_) (fun c1 => ?_)
  · rw [if_pos c1] at h0
    refine wp_iconst (v := (0 : Int32)) dX7_mayHaveBeenUsedLast_78 (by decide) ?_
    cases h0
    exact wp_zret (x := (0 : Int32)) rfl narrow_b0 dX7_mayHaveBeenUsedLast_79
  · rw [if_neg c1] at h0
    refine wp_aload_n dX7_mayHaveBeenUsedLast_32 rfl ?_
    refine wp_iload_n dX7_mayHaveBeenUsedLast_33 rfl ?_
    refine wp_iload dX7_mayHaveBeenUsedLast_34 rfl ?_
    refine wp_aload_n dX7_mayHaveBeenUsedLast_36 rfl ?_
    obtain ⟨x2, e4, h3⟩ := Option.bind_eq_some_iff.mp h0
    clear h0
    refine wp_getR okX7 (k := 4) (by decide) tw302 dX7_mayHaveBeenUsedLast_37 e4 ?_
    obtain ⟨x5, e7, h6⟩ := Option.bind_eq_some_iff.mp h3
    clear h3
    refine wp_getI okX5 (k := 3) (by decide) tw101 dX7_mayHaveBeenUsedLast_40 e7 ?_
    obtain ⟨q8, e10, h9⟩ := Option.bind_eq_some_iff.mp h6
    clear h6
    refine wp_Vi (As := [.int l1, .int l4, .int x5]) (S := []) okM_X7_leadsHere tw580 twP_X7_leadsHere tw578 (OX7_leadsHere e10) rfl rfl rfl ⟨(Nat.le_of_ble_eq_true rfl), (Nat.le_of_ble_eq_true rfl)⟩ (Nat.le_of_ble_eq_true rfl) rfl dX7_mayHaveBeenUsedLast_43 (MX7_leadsHere e10) ?_
    refine wp_if_ne (tgt := 70) dX7_mayHaveBeenUsedLast_46 (by decide) (fun c11 => ?_) (fun c11 => ?_)
    · rw [if_neg c11] at h9
      exact WP.wk (BX7_mayHaveBeenUsedLast_70 hk0 h9) trivial
    · rw [if_pos c11] at h9
      refine wp_aload_n dX7_mayHaveBeenUsedLast_49 rfl ?_
      refine wp_iload_n dX7_mayHaveBeenUsedLast_50 rfl ?_
      refine wp_iload dX7_mayHaveBeenUsedLast_51 rfl ?_
      refine wp_aload_n dX7_mayHaveBeenUsedLast_53 rfl ?_
      obtain ⟨x12, e14, h13⟩ := Option.bind_eq_some_iff.mp h9
      clear h9
      refine wp_getR okX7 (k := 4) (by decide) tw302 dX7_mayHaveBeenUsedLast_54 e14 ?_
      obtain ⟨x15, e17, h16⟩ := Option.bind_eq_some_iff.mp h13
      clear h13
      refine wp_getI okX5 (k := 3) (by decide) tw101 dX7_mayHaveBeenUsedLast_57 e17 ?_
      refine wp_iload_n dX7_mayHaveBeenUsedLast_60 rfl ?_
      refine wp_iconst (v := (-1 : Int32)) dX7_mayHaveBeenUsedLast_61 (by decide) ?_
      refine wp_ixor dX7_mayHaveBeenUsedLast_62 ?_
      refine wp_iand dX7_mayHaveBeenUsedLast_63 ?_
      obtain ⟨q18, e20, h19⟩ := Option.bind_eq_some_iff.mp h16
      clear h16
      refine wp_Vi (As := [.int l1, .int l4, .int (x15 &&& (l2 ^^^ (-1 : Int32)))]) (S := []) okM_X7_leadsHere tw580 twP_X7_leadsHere tw578 (OX7_leadsHere e20) rfl rfl rfl ⟨(Nat.le_of_ble_eq_true rfl), (Nat.le_of_ble_eq_true rfl)⟩ (Nat.le_of_ble_eq_true rfl) rfl dX7_mayHaveBeenUsedLast_64 (MX7_leadsHere e20) ?_
      refine wp_if_eq (tgt := 72) dX7_mayHaveBeenUsedLast_67 (by decide) (fun c21 => ?_) (fun c21 => ?_)
      · rw [if_pos c21] at h19
        refine wp_iinc (v := (l4 + (1 : Int32))) (L1 := [some (.ref l0), some (.int l1), some (.int l2), some (.int l3), some (.int (l4 + (1 : Int32)))]) dX7_mayHaveBeenUsedLast_72 (Nat.le_of_ble_eq_true rfl) rfl (congrArg (fun z => l4 + z) (by decide)) rfl ?_
        refine wp_goto (tgt := 26) dX7_mayHaveBeenUsedLast_75 (by decide) ?_
        exact WP.wk (hk0 _ _ _ _ _ _ _ h19) (And.intro rfl (And.intro rfl (And.intro rfl (And.intro rfl (And.intro rfl trivial)))))
      · rw [if_neg c21] at h19
        exact WP.wk (BX7_mayHaveBeenUsedLast_70 hk0 h19) trivial
def eX7_mayHaveBeenUsedLast (k : KTX7_mayHaveBeenUsedLast) (w : XW) (l0 : Nat) (l1 : Int32) : Option (Int32 × XW) :=
  (gR w l0 7 2).bind fun x1 =>
  (gR w x1 1 0).bind fun x4 =>
  (aI w 0 x4 l1).bind fun x7 =>
  if x7 = (3 : Int32) then
  bX7_mayHaveBeenUsedLast_22 k w l0 l1 ((1 : Int32) <<< (l1 &&& 31)) (2 : Int32)
  else
  bX7_mayHaveBeenUsedLast_22 k w l0 l1 ((1 : Int32) <<< (l1 &&& 31)) (1 : Int32)
theorem EX7_mayHaveBeenUsedLast {K : CX} {l : Launch} {n0 k0 : Nat} {k : KTX7_mayHaveBeenUsedLast} (hk0 : ∀ (w : XW) (l0 : Nat) (l1 : Int32) (l2 : Int32) (l3 : Int32) (l4 : Int32) (q : Int32 × XW), k w l0 l1 l2 l3 l4 = some q → WP K l mX7_mayHaveBeenUsedLast 5 118 n0 k0 (some (.int q.1)) q.2 26 [some (.ref l0), some (.int l1), some (.int l2), some (.int l3), some (.int l4)] [] w) {w : XW} {l0 : Nat} {l1 : Int32} {q : Int32 × XW} (h0 : eX7_mayHaveBeenUsedLast k w l0 l1 = some q) : WP K l mX7_mayHaveBeenUsedLast 5 118 n0 k0 (some (.int q.1)) q.2 0 [some (.ref l0), some (.int l1), none, none, none] [] w := by
  unfold eX7_mayHaveBeenUsedLast at h0
  refine wp_iconst (v := (1 : Int32)) dX7_mayHaveBeenUsedLast_0 (by decide) ?_
  refine wp_iload_n dX7_mayHaveBeenUsedLast_1 rfl ?_
  refine wp_ishl dX7_mayHaveBeenUsedLast_2 ?_
  refine wp_istore_n (L1 := [some (.ref l0), some (.int l1), some (.int ((1 : Int32) <<< (l1 &&& 31))), none, none]) dX7_mayHaveBeenUsedLast_3 (Nat.le_of_ble_eq_true rfl) rfl ?_
  refine wp_aload_n dX7_mayHaveBeenUsedLast_4 rfl ?_
  obtain ⟨x1, e3, h2⟩ := Option.bind_eq_some_iff.mp h0
  clear h0
  refine wp_getR okX7 (k := 2) (by decide) tw300 dX7_mayHaveBeenUsedLast_5 e3 ?_
  obtain ⟨x4, e6, h5⟩ := Option.bind_eq_some_iff.mp h2
  clear h2
  refine wp_getR okX1 (k := 0) (by decide) tw59 dX7_mayHaveBeenUsedLast_8 e6 ?_
  refine wp_iload_n dX7_mayHaveBeenUsedLast_11 rfl ?_
  obtain ⟨x7, e9, h8⟩ := Option.bind_eq_some_iff.mp h5
  clear h5
  refine wp_iald dX7_mayHaveBeenUsedLast_12 e9 ?_
  refine wp_iconst (v := (3 : Int32)) dX7_mayHaveBeenUsedLast_13 (by decide) ?_
  refine wp_icmp_ne (tgt := 21) dX7_mayHaveBeenUsedLast_14 (by decide) (fun c10 => ?_) (fun c10 => ?_)
  · rw [if_neg c10] at h8
    refine wp_iconst (v := (1 : Int32)) dX7_mayHaveBeenUsedLast_21 (by decide) ?_
    exact WP.wk (BX7_mayHaveBeenUsedLast_22 hk0 h8) (And.intro rfl (And.intro rfl (And.intro rfl trivial)))
  · rw [if_pos c10] at h8
    refine wp_iconst (v := (2 : Int32)) dX7_mayHaveBeenUsedLast_17 (by decide) ?_
    refine wp_goto (tgt := 22) dX7_mayHaveBeenUsedLast_18 (by decide) ?_
    exact WP.wk (BX7_mayHaveBeenUsedLast_22 hk0 h8) (And.intro rfl (And.intro rfl (And.intro rfl trivial)))
def loX7_mayHaveBeenUsedLast : Nat → KTX7_mayHaveBeenUsedLast
  | 0 => fun _ _ _ _ _ _ => none
  | n + 1 => hX7_mayHaveBeenUsedLast_26 (loX7_mayHaveBeenUsedLast n)
theorem LOX7_mayHaveBeenUsedLast {K : CX} {l : Launch} {n0 k0 : Nat} : ∀ n : Nat, (∀ (w : XW) (l0 : Nat) (l1 : Int32) (l2 : Int32) (l3 : Int32) (l4 : Int32) (q : Int32 × XW), (loX7_mayHaveBeenUsedLast n) w l0 l1 l2 l3 l4 = some q → WP K l mX7_mayHaveBeenUsedLast 5 118 n0 k0 (some (.int q.1)) q.2 26 [some (.ref l0), some (.int l1), some (.int l2), some (.int l3), some (.int l4)] [] w) := by
  intro n
  induction n with
  | zero => exact fun _ _ _ _ _ _ q h => (by cases h)
  | succ n ih => exact fun _ _ _ _ _ _ q h => HX7_mayHaveBeenUsedLast_26 ih h
def fX7_mayHaveBeenUsedLast (w : XW) (l0 : Nat) (l1 : Int32) : Option (Int32 × XW) := if isO w l0 7 = true then eX7_mayHaveBeenUsedLast (loX7_mayHaveBeenUsedLast FU) w l0 l1 else none
theorem OX7_mayHaveBeenUsedLast {w : XW} {l0 : Nat} {l1 : Int32} {q : Int32 × XW} (h : fX7_mayHaveBeenUsedLast w l0 l1 = some q) : isO w l0 7 = true := Decidable.byContradiction fun z => by unfold fX7_mayHaveBeenUsedLast at h; rw [if_neg z] at h; cases h
theorem MX7_mayHaveBeenUsedLast {K : CX} {l : Launch} {w : XW} {l0 : Nat} {l1 : Int32} {q : Int32 × XW} (h : fX7_mayHaveBeenUsedLast w l0 l1 = some q) : MT K l mX7_mayHaveBeenUsedLast 5 118 [.ref l0, .int l1] w (some (.int q.1)) q.2 := by
  have z := OX7_mayHaveBeenUsedLast h
  unfold fX7_mayHaveBeenUsedLast at h
  rw [if_pos z] at h
  exact MT.of (by decide) (Nat.le_of_ble_eq_true rfl) rfl (EX7_mayHaveBeenUsedLast (LOX7_mayHaveBeenUsedLast FU) h)
/-! FractionRun.whence()I: frames 6, words 142 -/
abbrev mX7_whence : MR := (⟨"FractionRun", "whence", "()I"⟩, prog_1_method_23_code, 4, (some .int))
theorem dX7_whence_0 : decode prog_1_method_23_code 0 = .ok (.iconst 0, 1) := by decide +kernel
theorem dX7_whence_1 : decode prog_1_method_23_code 1 = .ok (.istore_n 1, 1) := by decide +kernel
theorem dX7_whence_2 : decode prog_1_method_23_code 2 = .ok (.iconst 0, 1) := by decide +kernel
theorem dX7_whence_3 : decode prog_1_method_23_code 3 = .ok (.istore_n 2, 1) := by decide +kernel
theorem dX7_whence_4 : decode prog_1_method_23_code 4 = .ok (.iload_n 2, 1) := by decide +kernel
theorem dX7_whence_5 : decode prog_1_method_23_code 5 = .ok (.aload_n 0, 1) := by decide +kernel
theorem dX7_whence_6 : decode prog_1_method_23_code 6 = .ok (.getfield 36, 3) := by decide +kernel
theorem dX7_whence_9 : decode prog_1_method_23_code 9 = .ok (.getfield 175, 3) := by decide +kernel
theorem dX7_whence_12 : decode prog_1_method_23_code 12 = .ok (.if_icmp .ge 54, 3) := by decide +kernel
theorem dX7_whence_15 : decode prog_1_method_23_code 15 = .ok (.aload_n 0, 1) := by decide +kernel
theorem dX7_whence_16 : decode prog_1_method_23_code 16 = .ok (.getfield 36, 3) := by decide +kernel
theorem dX7_whence_19 : decode prog_1_method_23_code 19 = .ok (.getfield 150, 3) := by decide +kernel
theorem dX7_whence_22 : decode prog_1_method_23_code 22 = .ok (.ifCond .le 44, 3) := by decide +kernel
theorem dX7_whence_25 : decode prog_1_method_23_code 25 = .ok (.aload_n 0, 1) := by decide +kernel
theorem dX7_whence_26 : decode prog_1_method_23_code 26 = .ok (.getfield 36, 3) := by decide +kernel
theorem dX7_whence_29 : decode prog_1_method_23_code 29 = .ok (.getfield 221, 3) := by decide +kernel
theorem dX7_whence_32 : decode prog_1_method_23_code 32 = .ok (.iload_n 2, 1) := by decide +kernel
theorem dX7_whence_33 : decode prog_1_method_23_code 33 = .ok (.iaload, 1) := by decide +kernel
theorem dX7_whence_34 : decode prog_1_method_23_code 34 = .ok (.istore_n 3, 1) := by decide +kernel
theorem dX7_whence_35 : decode prog_1_method_23_code 35 = .ok (.aload_n 0, 1) := by decide +kernel
theorem dX7_whence_36 : decode prog_1_method_23_code 36 = .ok (.getfield 36, 3) := by decide +kernel
theorem dX7_whence_39 : decode prog_1_method_23_code 39 = .ok (.iload_n 3, 1) := by decide +kernel
theorem dX7_whence_40 : decode prog_1_method_23_code 40 = .ok (.invokevirtual 137, 3) := by decide +kernel
theorem dX7_whence_43 : decode prog_1_method_23_code 43 = .ok (.ifCond .eq 17, 3) := by decide +kernel
theorem dX7_whence_46 : decode prog_1_method_23_code 46 = .ok (.aload_n 0, 1) := by decide +kernel
theorem dX7_whence_47 : decode prog_1_method_23_code 47 = .ok (.iload_n 3, 1) := by decide +kernel
theorem dX7_whence_48 : decode prog_1_method_23_code 48 = .ok (.invokevirtual 230, 3) := by decide +kernel
theorem dX7_whence_51 : decode prog_1_method_23_code 51 = .ok (.ifCond .eq 9, 3) := by decide +kernel
theorem dX7_whence_54 : decode prog_1_method_23_code 54 = .ok (.iload_n 1, 1) := by decide +kernel
theorem dX7_whence_55 : decode prog_1_method_23_code 55 = .ok (.iconst 1, 1) := by decide +kernel
theorem dX7_whence_56 : decode prog_1_method_23_code 56 = .ok (.iload_n 3, 1) := by decide +kernel
theorem dX7_whence_57 : decode prog_1_method_23_code 57 = .ok (.ishl, 1) := by decide +kernel
theorem dX7_whence_58 : decode prog_1_method_23_code 58 = .ok (.ior, 1) := by decide +kernel
theorem dX7_whence_59 : decode prog_1_method_23_code 59 = .ok (.istore_n 1, 1) := by decide +kernel
theorem dX7_whence_60 : decode prog_1_method_23_code 60 = .ok (.iinc 2 1, 3) := by decide +kernel
theorem dX7_whence_63 : decode prog_1_method_23_code 63 = .ok (.goto (-59), 3) := by decide +kernel
theorem dX7_whence_66 : decode prog_1_method_23_code 66 = .ok (.iload_n 1, 1) := by decide +kernel
theorem dX7_whence_67 : decode prog_1_method_23_code 67 = .ok (.ireturn, 1) := by decide +kernel
theorem okM_X7_whence : okM mX7_whence 0 := ⟨tw573, tw1, by decide, by decide, by decide +kernel⟩
abbrev KTX7_whence : Type := (XW → Nat → Int32 → Int32 → Option (Int32 × XW))
def bX7_whence_66 (k : KTX7_whence) (w : XW) (l1 : Int32) : Option (Int32 × XW) :=
  some (l1, w)
theorem BX7_whence_66 {K : CX} {l : Launch} {n0 k0 : Nat} {k : KTX7_whence} (hk0 : ∀ (w : XW) (l0 : Nat) (l1 : Int32) (l2 : Int32) (q : Int32 × XW), k w l0 l1 l2 = some q → WP K l mX7_whence 6 142 n0 k0 (some (.int q.1)) q.2 4 [some (.ref l0), some (.int l1), some (.int l2), none] [] w) {w : XW} {l1 : Int32} {q : Int32 × XW} (h0 : bX7_whence_66 k w l1 = some q) : WP K l mX7_whence 6 142 n0 k0 (some (.int q.1)) q.2 66 [none, some (.int l1), none, none] [] w := by
  unfold bX7_whence_66 at h0
  refine wp_iload_n dX7_whence_66 rfl ?_
  cases h0
  exact wp_iret rfl dX7_whence_67
def bX7_whence_60 (k : KTX7_whence) (w : XW) (l0 : Nat) (l1 : Int32) (l2 : Int32) : Option (Int32 × XW) :=
  k w l0 l1 (l2 + (1 : Int32))
theorem BX7_whence_60 {K : CX} {l : Launch} {n0 k0 : Nat} {k : KTX7_whence} (hk0 : ∀ (w : XW) (l0 : Nat) (l1 : Int32) (l2 : Int32) (q : Int32 × XW), k w l0 l1 l2 = some q → WP K l mX7_whence 6 142 n0 k0 (some (.int q.1)) q.2 4 [some (.ref l0), some (.int l1), some (.int l2), none] [] w) {w : XW} {l0 : Nat} {l1 : Int32} {l2 : Int32} {q : Int32 × XW} (h0 : bX7_whence_60 k w l0 l1 l2 = some q) : WP K l mX7_whence 6 142 n0 k0 (some (.int q.1)) q.2 60 [some (.ref l0), some (.int l1), some (.int l2), none] [] w := by
  unfold bX7_whence_60 at h0
  refine wp_iinc (v := (l2 + (1 : Int32))) (L1 := [some (.ref l0), some (.int l1), some (.int (l2 + (1 : Int32))), none]) dX7_whence_60 (Nat.le_of_ble_eq_true rfl) rfl (congrArg (fun z => l2 + z) (by decide)) rfl ?_
  refine wp_goto (tgt := 4) dX7_whence_63 (by decide) ?_
  exact WP.wk (hk0 _ _ _ _ _ h0) (And.intro rfl (And.intro rfl (And.intro rfl trivial)))
def hX7_whence_4 (k : KTX7_whence) (w : XW) (l0 : Nat) (l1 : Int32) (l2 : Int32) : Option (Int32 × XW) :=
  (gR w l0 7 4).bind fun x1 =>
  (gI w x1 5 2).bind fun x4 =>
  if x4 ≤ l2 then
  bX7_whence_66 k w l1
  else
  (gR w l0 7 4).bind fun x8 =>
  (gI w x8 5 4).bind fun x11 =>
  if x11 ≤ 0 then
  bX7_whence_66 k w l1
  else
  (gR w l0 7 4).bind fun x15 =>
  (gR w x15 5 1).bind fun x18 =>
  (aI w 0 x18 l2).bind fun x21 =>
  (gR w l0 7 4).bind fun x24 =>
  (fX5_wasUsed w x24 x21).bind fun q27 =>
  if q27.1 = 0 then
  bX7_whence_60 k q27.2 l0 l1 l2
  else
  (fX7_mayHaveBeenUsedLast q27.2 l0 x21).bind fun q31 =>
  if q31.1 = 0 then
  bX7_whence_60 k q31.2 l0 l1 l2
  else
  bX7_whence_60 k q31.2 l0 (l1 ||| ((1 : Int32) <<< (x21 &&& 31))) l2
theorem HX7_whence_4 {K : CX} {l : Launch} {n0 k0 : Nat} {k : KTX7_whence} (hk0 : ∀ (w : XW) (l0 : Nat) (l1 : Int32) (l2 : Int32) (q : Int32 × XW), k w l0 l1 l2 = some q → WP K l mX7_whence 6 142 n0 k0 (some (.int q.1)) q.2 4 [some (.ref l0), some (.int l1), some (.int l2), none] [] w) {w : XW} {l0 : Nat} {l1 : Int32} {l2 : Int32} {q : Int32 × XW} (h0 : hX7_whence_4 k w l0 l1 l2 = some q) : WP K l mX7_whence 6 142 n0 k0 (some (.int q.1)) q.2 4 [some (.ref l0), some (.int l1), some (.int l2), none] [] w := by
  unfold hX7_whence_4 at h0
  refine wp_iload_n dX7_whence_4 rfl ?_
  refine wp_aload_n dX7_whence_5 rfl ?_
  obtain ⟨x1, e3, h2⟩ := Option.bind_eq_some_iff.mp h0
  clear h0
  refine wp_getR okX7 (k := 4) (by decide) tw302 dX7_whence_6 e3 ?_
  obtain ⟨x4, e6, h5⟩ := Option.bind_eq_some_iff.mp h2
  clear h2
  refine wp_getI okX5 (k := 2) (by decide) tw98 dX7_whence_9 e6 ?_
  refine wp_icmp_ge (tgt := 66) dX7_whence_12 (by decide) (fun c7 => ?_) (fun c7 => ?_)
  · rw [if_pos c7] at h5
    exact WP.wk (BX7_whence_66 hk0 h5) (And.intro rfl trivial)
  · rw [if_neg c7] at h5
    refine wp_aload_n dX7_whence_15 rfl ?_
    obtain ⟨x8, e10, h9⟩ := Option.bind_eq_some_iff.mp h5
    clear h5
    refine wp_getR okX7 (k := 4) (by decide) tw302 dX7_whence_16 e10 ?_
    obtain ⟨x11, e13, h12⟩ := Option.bind_eq_some_iff.mp h9
    clear h9
    refine wp_getI okX5 (k := 4) (by decide) tw104 dX7_whence_19 e13 ?_
    refine wp_if_le (tgt := 66) dX7_whence_22 (by decide) (fun c14 => ?_) (fun c14 => ?_)
    · rw [if_pos c14] at h12
      exact WP.wk (BX7_whence_66 hk0 h12) (And.intro rfl trivial)
    · rw [if_neg c14] at h12
      refine wp_aload_n dX7_whence_25 rfl ?_
      obtain ⟨x15, e17, h16⟩ := Option.bind_eq_some_iff.mp h12
      clear h12
      refine wp_getR okX7 (k := 4) (by decide) tw302 dX7_whence_26 e17 ?_
      obtain ⟨x18, e20, h19⟩ := Option.bind_eq_some_iff.mp h16
      clear h16
      refine wp_getR okX5 (k := 1) (by decide) tw96 dX7_whence_29 e20 ?_
      refine wp_iload_n dX7_whence_32 rfl ?_
      obtain ⟨x21, e23, h22⟩ := Option.bind_eq_some_iff.mp h19
      clear h19
      refine wp_iald dX7_whence_33 e23 ?_
      refine wp_istore_n (L1 := [some (.ref l0), some (.int l1), some (.int l2), some (.int x21)]) dX7_whence_34 (Nat.le_of_ble_eq_true rfl) rfl ?_
      refine wp_aload_n dX7_whence_35 rfl ?_
      obtain ⟨x24, e26, h25⟩ := Option.bind_eq_some_iff.mp h22
      clear h22
      refine wp_getR okX7 (k := 4) (by decide) tw302 dX7_whence_36 e26 ?_
      refine wp_iload_n dX7_whence_39 rfl ?_
      obtain ⟨q27, e29, h28⟩ := Option.bind_eq_some_iff.mp h25
      clear h25
      refine wp_Vi (As := [.int x21]) (S := []) okM_X5_wasUsed tw387 tw388 tw386 (OX5_wasUsed e29) rfl rfl rfl ⟨(Nat.le_of_ble_eq_true rfl), (Nat.le_of_ble_eq_true rfl)⟩ (Nat.le_of_ble_eq_true rfl) rfl dX7_whence_40 (MX5_wasUsed e29) ?_
      refine wp_if_eq (tgt := 60) dX7_whence_43 (by decide) (fun c30 => ?_) (fun c30 => ?_)
      · rw [if_pos c30] at h28
        exact WP.wk (BX7_whence_60 hk0 h28) (And.intro rfl (And.intro rfl (And.intro rfl trivial)))
      · rw [if_neg c30] at h28
        refine wp_aload_n dX7_whence_46 rfl ?_
        refine wp_iload_n dX7_whence_47 rfl ?_
        obtain ⟨q31, e33, h32⟩ := Option.bind_eq_some_iff.mp h28
        clear h28
        refine wp_Vi (As := [.int x21]) (S := []) okM_X7_mayHaveBeenUsedLast tw576 twP_X7_mayHaveBeenUsedLast tw574 (OX7_mayHaveBeenUsedLast e33) rfl rfl rfl ⟨(Nat.le_of_ble_eq_true rfl), (Nat.le_of_ble_eq_true rfl)⟩ (Nat.le_of_ble_eq_true rfl) rfl dX7_whence_48 (MX7_mayHaveBeenUsedLast e33) ?_
        refine wp_if_eq (tgt := 60) dX7_whence_51 (by decide) (fun c34 => ?_) (fun c34 => ?_)
        · rw [if_pos c34] at h32
          exact WP.wk (BX7_whence_60 hk0 h32) (And.intro rfl (And.intro rfl (And.intro rfl trivial)))
        · rw [if_neg c34] at h32
          refine wp_iload_n dX7_whence_54 rfl ?_
          refine wp_iconst (v := (1 : Int32)) dX7_whence_55 (by decide) ?_
          refine wp_iload_n dX7_whence_56 rfl ?_
          refine wp_ishl dX7_whence_57 ?_
          refine wp_ior dX7_whence_58 ?_
          refine wp_istore_n (L1 := [some (.ref l0), some (.int (l1 ||| ((1 : Int32) <<< (x21 &&& 31)))), some (.int l2), some (.int x21)]) dX7_whence_59 (Nat.le_of_ble_eq_true rfl) rfl ?_
          exact WP.wk (BX7_whence_60 hk0 h32) (And.intro rfl (And.intro rfl (And.intro rfl trivial)))
def eX7_whence (k : KTX7_whence) (w : XW) (l0 : Nat) : Option (Int32 × XW) :=
  k w l0 (0 : Int32) (0 : Int32)
theorem EX7_whence {K : CX} {l : Launch} {n0 k0 : Nat} {k : KTX7_whence} (hk0 : ∀ (w : XW) (l0 : Nat) (l1 : Int32) (l2 : Int32) (q : Int32 × XW), k w l0 l1 l2 = some q → WP K l mX7_whence 6 142 n0 k0 (some (.int q.1)) q.2 4 [some (.ref l0), some (.int l1), some (.int l2), none] [] w) {w : XW} {l0 : Nat} {q : Int32 × XW} (h0 : eX7_whence k w l0 = some q) : WP K l mX7_whence 6 142 n0 k0 (some (.int q.1)) q.2 0 [some (.ref l0), none, none, none] [] w := by
  unfold eX7_whence at h0
  refine wp_iconst (v := (0 : Int32)) dX7_whence_0 (by decide) ?_
  refine wp_istore_n (L1 := [some (.ref l0), some (.int (0 : Int32)), none, none]) dX7_whence_1 (Nat.le_of_ble_eq_true rfl) rfl ?_
  refine wp_iconst (v := (0 : Int32)) dX7_whence_2 (by decide) ?_
  refine wp_istore_n (L1 := [some (.ref l0), some (.int (0 : Int32)), some (.int (0 : Int32)), none]) dX7_whence_3 (Nat.le_of_ble_eq_true rfl) rfl ?_
  exact WP.wk (hk0 _ _ _ _ _ h0) (And.intro rfl (And.intro rfl (And.intro rfl trivial)))
def loX7_whence : Nat → KTX7_whence
  | 0 => fun _ _ _ _ => none
  | n + 1 => hX7_whence_4 (loX7_whence n)
theorem LOX7_whence {K : CX} {l : Launch} {n0 k0 : Nat} : ∀ n : Nat, (∀ (w : XW) (l0 : Nat) (l1 : Int32) (l2 : Int32) (q : Int32 × XW), (loX7_whence n) w l0 l1 l2 = some q → WP K l mX7_whence 6 142 n0 k0 (some (.int q.1)) q.2 4 [some (.ref l0), some (.int l1), some (.int l2), none] [] w) := by
  intro n
  induction n with
  | zero => exact fun _ _ _ _ q h => (by cases h)
  | succ n ih => exact fun _ _ _ _ q h => HX7_whence_4 ih h
def fX7_whence (w : XW) (l0 : Nat) : Option (Int32 × XW) := if isO w l0 7 = true then eX7_whence (loX7_whence FU) w l0 else none
theorem OX7_whence {w : XW} {l0 : Nat} {q : Int32 × XW} (h : fX7_whence w l0 = some q) : isO w l0 7 = true := Decidable.byContradiction fun z => by unfold fX7_whence at h; rw [if_neg z] at h; cases h
theorem MX7_whence {K : CX} {l : Launch} {w : XW} {l0 : Nat} {q : Int32 × XW} (h : fX7_whence w l0 = some q) : MT K l mX7_whence 6 142 [.ref l0] w (some (.int q.1)) q.2 := by
  have z := OX7_whence h
  unfold fX7_whence at h
  rw [if_pos z] at h
  exact MT.of (by decide) (Nat.le_of_ble_eq_true rfl) rfl (EX7_whence (LOX7_whence FU) h)
