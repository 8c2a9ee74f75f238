/-! FractionRun$State.wasUsed(I)Z: frames 1, words 20 -/
abbrev mX5_wasUsed : MR := (⟨"FractionRun$State", "wasUsed", "(I)Z"⟩, prog_7_method_9_code, 2, (some .boolean))
theorem dX5_wasUsed_0 : decode prog_7_method_9_code 0 = .ok (.aload_n 0, 1) := by decide +kernel
theorem dX5_wasUsed_1 : decode prog_7_method_9_code 1 = .ok (.getfield 39, 3) := by decide +kernel
theorem dX5_wasUsed_4 : decode prog_7_method_9_code 4 = .ok (.iload_n 1, 1) := by decide +kernel
theorem dX5_wasUsed_5 : decode prog_7_method_9_code 5 = .ok (.ishr, 1) := by decide +kernel
theorem dX5_wasUsed_6 : decode prog_7_method_9_code 6 = .ok (.iconst 1, 1) := by decide +kernel
theorem dX5_wasUsed_7 : decode prog_7_method_9_code 7 = .ok (.iand, 1) := by decide +kernel
theorem dX5_wasUsed_8 : decode prog_7_method_9_code 8 = .ok (.iconst 1, 1) := by decide +kernel
theorem dX5_wasUsed_9 : decode prog_7_method_9_code 9 = .ok (.if_icmp .ne 7, 3) := by decide +kernel
theorem dX5_wasUsed_12 : decode prog_7_method_9_code 12 = .ok (.iconst 1, 1) := by decide +kernel
theorem dX5_wasUsed_13 : decode prog_7_method_9_code 13 = .ok (.goto 4, 3) := by decide +kernel
theorem dX5_wasUsed_16 : decode prog_7_method_9_code 16 = .ok (.iconst 0, 1) := by decide +kernel
theorem dX5_wasUsed_17 : decode prog_7_method_9_code 17 = .ok (.ireturn, 1) := by decide +kernel
theorem okM_X5_wasUsed : okM mX5_wasUsed 1 := ⟨tw389, tw5, by decide, by decide, by decide +kernel⟩
def bX5_wasUsed_17 (w : XW) (s0 : Int32) : Option (Int32 × XW) :=
  if s0 &&& 1 = s0 then some (s0, w) else none
theorem BX5_wasUsed_17 {K : CX} {l : Launch} {n0 k0 : Nat} {w : XW} {s0 : Int32} {q : Int32 × XW} (h0 : bX5_wasUsed_17 w s0 = some q) : WP K l mX5_wasUsed 1 20 n0 k0 (some (.int q.1)) q.2 17 [none, none] [.int s0] w := by
  unfold bX5_wasUsed_17 at h0
  have c1 : s0 &&& 1 = s0 := Decidable.byContradiction fun z => by rw [if_neg z] at h0; cases h0
  rw [if_pos c1] at h0
  cases h0
  exact wp_zret rfl (zb_n c1) dX5_wasUsed_17
def eX5_wasUsed (w : XW) (l0 : Nat) (l1 : Int32) : Option (Int32 × XW) :=
  (gI w l0 5 3).bind fun x1 =>
  if ((x1 >>> (l1 &&& 31)) &&& (1 : Int32)) = (1 : Int32) then
  bX5_wasUsed_17 w (1 : Int32)
  else
  bX5_wasUsed_17 w (0 : Int32)
theorem EX5_wasUsed {K : CX} {l : Launch} {n0 k0 : Nat} {w : XW} {l0 : Nat} {l1 : Int32} {q : Int32 × XW} (h0 : eX5_wasUsed w l0 l1 = some q) : WP K l mX5_wasUsed 1 20 n0 k0 (some (.int q.1)) q.2 0 [some (.ref l0), some (.int l1)] [] w := by
  unfold eX5_wasUsed at h0
  refine wp_aload_n dX5_wasUsed_0 rfl ?_
  obtain ⟨x1, e3, h2⟩ := Option.bind_eq_some_iff.mp h0
  clear h0
  refine wp_getI okX5 (k := 3) (by decide) tw100 dX5_wasUsed_1 e3 ?_
  refine wp_iload_n dX5_wasUsed_4 rfl ?_
  refine wp_ishr dX5_wasUsed_5 ?_
  refine wp_iconst (v := (1 : Int32)) dX5_wasUsed_6 (by decide) ?_
  refine wp_iand dX5_wasUsed_7 ?_
  refine wp_iconst (v := (1 : Int32)) dX5_wasUsed_8 (by decide) ?_
  refine wp_icmp_ne (tgt := 16) dX5_wasUsed_9 (by decide) (fun c4 => ?_) (fun c4 => ?_)
  · rw [if_neg c4] at h2
    refine wp_iconst (v := (0 : Int32)) dX5_wasUsed_16 (by decide) ?_
    exact WP.wk (BX5_wasUsed_17 h2) trivial
  · rw [if_pos c4] at h2
    refine wp_iconst (v := (1 : Int32)) dX5_wasUsed_12 (by decide) ?_
    refine wp_goto (tgt := 17) dX5_wasUsed_13 (by decide) ?_
    exact WP.wk (BX5_wasUsed_17 h2) trivial
def fX5_wasUsed (w : XW) (l0 : Nat) (l1 : Int32) : Option (Int32 × XW) := if isO w l0 5 = true then eX5_wasUsed w l0 l1 else none
theorem OX5_wasUsed {w : XW} {l0 : Nat} {l1 : Int32} {q : Int32 × XW} (h : fX5_wasUsed w l0 l1 = some q) : isO w l0 5 = true := Decidable.byContradiction fun z => by unfold fX5_wasUsed at h; rw [if_neg z] at h; cases h
theorem MX5_wasUsed {K : CX} {l : Launch} {w : XW} {l0 : Nat} {l1 : Int32} {q : Int32 × XW} (h : fX5_wasUsed w l0 l1 = some q) : MT K l mX5_wasUsed 1 20 [.ref l0, .int l1] w (some (.int q.1)) q.2 := by
  have z := OX5_wasUsed h
  unfold fX5_wasUsed at h
  rw [if_pos z] at h
  exact MT.of (by decide) (Nat.le_of_ble_eq_true rfl) rfl (EX5_wasUsed h)
/-! FractionRun$State.isUsable(LFractionRun$Fractions;I)Z: frames 1, words 20 -/
abbrev mX5_isUsable : MR := (⟨"FractionRun$State", "isUsable", "(LFractionRun$Fractions;I)Z"⟩, prog_7_method_10_code, 7, (some .boolean))
theorem dX5_isUsable_0 : decode prog_7_method_10_code 0 = .ok (.aload_n 1, 1) := by decide +kernel
theorem dX5_isUsable_1 : decode prog_7_method_10_code 1 = .ok (.getfield 49, 3) := by decide +kernel
theorem dX5_isUsable_4 : decode prog_7_method_10_code 4 = .ok (.iload_n 2, 1) := by decide +kernel
theorem dX5_isUsable_5 : decode prog_7_method_10_code 5 = .ok (.iaload, 1) := by decide +kernel
theorem dX5_isUsable_6 : decode prog_7_method_10_code 6 = .ok (.istore_n 3, 1) := by decide +kernel
theorem dX5_isUsable_7 : decode prog_7_method_10_code 7 = .ok (.aload_n 0, 1) := by decide +kernel
theorem dX5_isUsable_8 : decode prog_7_method_10_code 8 = .ok (.getfield 45, 3) := by decide +kernel
theorem dX5_isUsable_11 : decode prog_7_method_10_code 11 = .ok (.ifCond .ne 34, 3) := by decide +kernel
theorem dX5_isUsable_14 : decode prog_7_method_10_code 14 = .ok (.iload_n 3, 1) := by decide +kernel
theorem dX5_isUsable_15 : decode prog_7_method_10_code 15 = .ok (.iconst 1, 1) := by decide +kernel
theorem dX5_isUsable_16 : decode prog_7_method_10_code 16 = .ok (.if_icmp .ne 15, 3) := by decide +kernel
theorem dX5_isUsable_19 : decode prog_7_method_10_code 19 = .ok (.aload_n 0, 1) := by decide +kernel
theorem dX5_isUsable_20 : decode prog_7_method_10_code 20 = .ok (.getfield 39, 3) := by decide +kernel
theorem dX5_isUsable_23 : decode prog_7_method_10_code 23 = .ok (.iload_n 2, 1) := by decide +kernel
theorem dX5_isUsable_24 : decode prog_7_method_10_code 24 = .ok (.ishr, 1) := by decide +kernel
theorem dX5_isUsable_25 : decode prog_7_method_10_code 25 = .ok (.iconst 1, 1) := by decide +kernel
theorem dX5_isUsable_26 : decode prog_7_method_10_code 26 = .ok (.iand, 1) := by decide +kernel
theorem dX5_isUsable_27 : decode prog_7_method_10_code 27 = .ok (.iconst 1, 1) := by decide +kernel
theorem dX5_isUsable_28 : decode prog_7_method_10_code 28 = .ok (.if_icmp .eq 17, 3) := by decide +kernel
theorem dX5_isUsable_31 : decode prog_7_method_10_code 31 = .ok (.iload_n 3, 1) := by decide +kernel
theorem dX5_isUsable_32 : decode prog_7_method_10_code 32 = .ok (.iconst 2, 1) := by decide +kernel
theorem dX5_isUsable_33 : decode prog_7_method_10_code 33 = .ok (.if_icmp .ne 14, 3) := by decide +kernel
theorem dX5_isUsable_36 : decode prog_7_method_10_code 36 = .ok (.aload_n 0, 1) := by decide +kernel
theorem dX5_isUsable_37 : decode prog_7_method_10_code 37 = .ok (.getfield 42, 3) := by decide +kernel
theorem dX5_isUsable_40 : decode prog_7_method_10_code 40 = .ok (.iconst 2, 1) := by decide +kernel
theorem dX5_isUsable_41 : decode prog_7_method_10_code 41 = .ok (.irem, 1) := by decide +kernel
theorem dX5_isUsable_42 : decode prog_7_method_10_code 42 = .ok (.ifCond .eq 5, 3) := by decide +kernel
theorem dX5_isUsable_45 : decode prog_7_method_10_code 45 = .ok (.iconst 0, 1) := by decide +kernel
theorem dX5_isUsable_46 : decode prog_7_method_10_code 46 = .ok (.ireturn, 1) := by decide +kernel
theorem dX5_isUsable_47 : decode prog_7_method_10_code 47 = .ok (.iload_n 2, 1) := by decide +kernel
theorem dX5_isUsable_48 : decode prog_7_method_10_code 48 = .ok (.bipush 6, 2) := by decide +kernel
theorem dX5_isUsable_50 : decode prog_7_method_10_code 50 = .ok (.imul, 1) := by decide +kernel
theorem dX5_isUsable_51 : decode prog_7_method_10_code 51 = .ok (.istore 4, 2) := by decide +kernel
theorem dX5_isUsable_53 : decode prog_7_method_10_code 53 = .ok (.iconst 0, 1) := by decide +kernel
theorem dX5_isUsable_54 : decode prog_7_method_10_code 54 = .ok (.istore 5, 2) := by decide +kernel
theorem dX5_isUsable_56 : decode prog_7_method_10_code 56 = .ok (.iload 5, 2) := by decide +kernel
theorem dX5_isUsable_58 : decode prog_7_method_10_code 58 = .ok (.bipush 6, 2) := by decide +kernel
theorem dX5_isUsable_60 : decode prog_7_method_10_code 60 = .ok (.if_icmp .ge 44, 3) := by decide +kernel
theorem dX5_isUsable_63 : decode prog_7_method_10_code 63 = .ok (.aload_n 0, 1) := by decide +kernel
theorem dX5_isUsable_64 : decode prog_7_method_10_code 64 = .ok (.getfield 9, 3) := by decide +kernel
theorem dX5_isUsable_67 : decode prog_7_method_10_code 67 = .ok (.iload 5, 2) := by decide +kernel
theorem dX5_isUsable_69 : decode prog_7_method_10_code 69 = .ok (.iaload, 1) := by decide +kernel
theorem dX5_isUsable_70 : decode prog_7_method_10_code 70 = .ok (.aload_n 1, 1) := by decide +kernel
theorem dX5_isUsable_71 : decode prog_7_method_10_code 71 = .ok (.getfield 52, 3) := by decide +kernel
theorem dX5_isUsable_74 : decode prog_7_method_10_code 74 = .ok (.iload 4, 2) := by decide +kernel
theorem dX5_isUsable_76 : decode prog_7_method_10_code 76 = .ok (.iload 5, 2) := by decide +kernel
theorem dX5_isUsable_78 : decode prog_7_method_10_code 78 = .ok (.iadd, 1) := by decide +kernel
theorem dX5_isUsable_79 : decode prog_7_method_10_code 79 = .ok (.iaload, 1) := by decide +kernel
theorem dX5_isUsable_80 : decode prog_7_method_10_code 80 = .ok (.iadd, 1) := by decide +kernel
theorem dX5_isUsable_81 : decode prog_7_method_10_code 81 = .ok (.istore 6, 2) := by decide +kernel
theorem dX5_isUsable_83 : decode prog_7_method_10_code 83 = .ok (.iload 6, 2) := by decide +kernel
theorem dX5_isUsable_85 : decode prog_7_method_10_code 85 = .ok (.ifCond .lt 11, 3) := by decide +kernel
theorem dX5_isUsable_88 : decode prog_7_method_10_code 88 = .ok (.iload 6, 2) := by decide +kernel
theorem dX5_isUsable_90 : decode prog_7_method_10_code 90 = .ok (.sipush 999, 3) := by decide +kernel
theorem dX5_isUsable_93 : decode prog_7_method_10_code 93 = .ok (.if_icmp .le 5, 3) := by decide +kernel
theorem dX5_isUsable_96 : decode prog_7_method_10_code 96 = .ok (.iconst 0, 1) := by decide +kernel
theorem dX5_isUsable_97 : decode prog_7_method_10_code 97 = .ok (.ireturn, 1) := by decide +kernel
theorem dX5_isUsable_98 : decode prog_7_method_10_code 98 = .ok (.iinc 5 1, 3) := by decide +kernel
theorem dX5_isUsable_101 : decode prog_7_method_10_code 101 = .ok (.goto (-45), 3) := by decide +kernel
theorem dX5_isUsable_104 : decode prog_7_method_10_code 104 = .ok (.iconst 1, 1) := by decide +kernel
theorem dX5_isUsable_105 : decode prog_7_method_10_code 105 = .ok (.ireturn, 1) := by decide +kernel
theorem okM_X5_isUsable : okM mX5_isUsable 2 := ⟨tw393, tw5, by decide, by decide, by decide +kernel⟩
abbrev KTX5_isUsable : Type := (XW → Nat → Nat → Int32 → Int32 → Option (Int32 × XW))
def bX5_isUsable_96 (k : KTX5_isUsable) (w : XW) : Option (Int32 × XW) :=
  some ((0 : Int32), w)
theorem BX5_isUsable_96 {K : CX} {l : Launch} {n0 k0 : Nat} {k : KTX5_isUsable} (hk0 : ∀ (w : XW) (l0 : Nat) (l1 : Nat) (l4 : Int32) (l5 : Int32) (q : Int32 × XW), k w l0 l1 l4 l5 = some q → WP K l mX5_isUsable 1 20 n0 k0 (some (.int q.1)) q.2 56 [some (.ref l0), some (.ref l1), none, none, some (.int l4), some (.int l5), none] [] w) {w : XW} {q : Int32 × XW} (h0 : bX5_isUsable_96 k w = some q) : WP K l mX5_isUsable 1 20 n0 k0 (some (.int q.1)) q.2 96 [none, none, none, none, none, none, none] [] w := by
  unfold bX5_isUsable_96 at h0
  refine wp_iconst (v := (0 : Int32)) dX5_isUsable_96 (by decide) ?_
  cases h0
  exact wp_zret (x := (0 : Int32)) rfl narrow_b0 dX5_isUsable_97
def bX5_isUsable_47 (k : KTX5_isUsable) (w : XW) (l0 : Nat) (l1 : Nat) (l2 : Int32) : Option (Int32 × XW) :=
  k w l0 l1 (l2 * (6 : Int32)) (0 : Int32)
theorem BX5_isUsable_47 {K : CX} {l : Launch} {n0 k0 : Nat} {k : KTX5_isUsable} (hk0 : ∀ (w : XW) (l0 : Nat) (l1 : Nat) (l4 : Int32) (l5 : Int32) (q : Int32 × XW), k w l0 l1 l4 l5 = some q → WP K l mX5_isUsable 1 20 n0 k0 (some (.int q.1)) q.2 56 [some (.ref l0), some (.ref l1), none, none, some (.int l4), some (.int l5), none] [] w) {w : XW} {l0 : Nat} {l1 : Nat} {l2 : Int32} {q : Int32 × XW} (h0 : bX5_isUsable_47 k w l0 l1 l2 = some q) : WP K l mX5_isUsable 1 20 n0 k0 (some (.int q.1)) q.2 47 [some (.ref l0), some (.ref l1), some (.int l2), none, none, none, none] [] w := by
  unfold bX5_isUsable_47 at h0
  refine wp_iload_n dX5_isUsable_47 rfl ?_
  refine wp_bipush (v := (6 : Int32)) dX5_isUsable_48 (by decide) ?_
  refine wp_imul dX5_isUsable_50 ?_
  refine wp_istore (L1 := [some (.ref l0), some (.ref l1), some (.int l2), none, some (.int (l2 * (6 : Int32))), none, none]) dX5_isUsable_51 (Nat.le_of_ble_eq_true rfl) rfl ?_
  refine wp_iconst (v := (0 : Int32)) dX5_isUsable_53 (by decide) ?_
  refine wp_istore (L1 := [some (.ref l0), some (.ref l1), some (.int l2), none, some (.int (l2 * (6 : Int32))), some (.int (0 : Int32)), none]) dX5_isUsable_54 (Nat.le_of_ble_eq_true rfl) rfl ?_
  exact WP.wk (hk0 _ _ _ _ _ _ h0) (And.intro rfl (And.intro rfl (And.intro rfl (And.intro rfl trivial))))
def bX5_isUsable_45 (k : KTX5_isUsable) (w : XW) : Option (Int32 × XW) :=
  some ((0 : Int32), w)
theorem BX5_isUsable_45 {K : CX} {l : Launch} {n0 k0 : Nat} {k : KTX5_isUsable} (hk0 : ∀ (w : XW) (l0 : Nat) (l1 : Nat) (l4 : Int32) (l5 : Int32) (q : Int32 × XW), k w l0 l1 l4 l5 = some q → WP K l mX5_isUsable 1 20 n0 k0 (some (.int q.1)) q.2 56 [some (.ref l0), some (.ref l1), none, none, some (.int l4), some (.int l5), none] [] w) {w : XW} {q : Int32 × XW} (h0 : bX5_isUsable_45 k w = some q) : WP K l mX5_isUsable 1 20 n0 k0 (some (.int q.1)) q.2 45 [none, none, none, none, none, none, none] [] w := by
  unfold bX5_isUsable_45 at h0
  refine wp_iconst (v := (0 : Int32)) dX5_isUsable_45 (by decide) ?_
  cases h0
  exact wp_zret (x := (0 : Int32)) rfl narrow_b0 dX5_isUsable_46
def bX5_isUsable_31 (k : KTX5_isUsable) (w : XW) (l0 : Nat) (l1 : Nat) (l2 : Int32) (l3 : Int32) : Option (Int32 × XW) :=
  if l3 = (2 : Int32) then
  (gI w l0 5 4).bind fun x2 =>
  if (irm x2 (2 : Int32)) = 0 then
  bX5_isUsable_47 k w l0 l1 l2
  else
  bX5_isUsable_45 k w
  else
  bX5_isUsable_47 k w l0 l1 l2
theorem BX5_isUsable_31 {K : CX} {l : Launch} {n0 k0 : Nat} {k : KTX5_isUsable} (hk0 : ∀ (w : XW) (l0 : Nat) (l1 : Nat) (l4 : Int32) (l5 : Int32) (q : Int32 × XW), k w l0 l1 l4 l5 = some q → WP K l mX5_isUsable 1 20 n0 k0 (some (.int q.1)) q.2 56 [some (.ref l0), some (.ref l1), none, none, some (.int l4), some (.int l5), none] [] w) {w : XW} {l0 : Nat} {l1 : Nat} {l2 : Int32} {l3 : Int32} {q : Int32 × XW} (h0 : bX5_isUsable_31 k w l0 l1 l2 l3 = some q) : WP K l mX5_isUsable 1 20 n0 k0 (some (.int q.1)) q.2 31 [some (.ref l0), some (.ref l1), some (.int l2), some (.int l3), none, none, none] [] w := by
  unfold bX5_isUsable_31 at h0
  refine wp_iload_n dX5_isUsable_31 rfl ?_
  refine wp_iconst (v := (2 : Int32)) dX5_isUsable_32 (by decide) ?_
  refine wp_icmp_ne (tgt := 47) dX5_isUsable_33 (by decide) (fun c1 => ?_) (fun c1 => ?_)
  · rw [if_neg c1] at h0
    exact WP.wk (BX5_isUsable_47 hk0 h0) (And.intro rfl (And.intro rfl (And.intro rfl trivial)))
  · rw [if_pos c1] at h0
    refine wp_aload_n dX5_isUsable_36 rfl ?_
    obtain ⟨x2, e4, h3⟩ := Option.bind_eq_some_iff.mp h0
    clear h0
    refine wp_getI okX5 (k := 4) (by decide) tw103 dX5_isUsable_37 e4 ?_
    refine wp_iconst (v := (2 : Int32)) dX5_isUsable_40 (by decide) ?_
    refine wp_irm dX5_isUsable_41 (by decide) ?_
    refine wp_if_eq (tgt := 47) dX5_isUsable_42 (by decide) (fun c5 => ?_) (fun c5 => ?_)
    · rw [if_pos c5] at h3
      exact WP.wk (BX5_isUsable_47 hk0 h3) (And.intro rfl (And.intro rfl (And.intro rfl trivial)))
    · rw [if_neg c5] at h3
      exact WP.wk (BX5_isUsable_45 hk0 h3) trivial
def hX5_isUsable_56 (k : KTX5_isUsable) (w : XW) (l0 : Nat) (l1 : Nat) (l4 : Int32) (l5 : Int32) : Option (Int32 × XW) :=
  if (6 : Int32) ≤ l5 then
  some ((1 : Int32), w)
  else
  (gR w l0 5 0).bind fun x2 =>
  (aI w 0 x2 l5).bind fun x5 =>
  (gR w l1 1 3).bind fun x8 =>
  (aI w 0 x8 (l4 + l5)).bind fun x11 =>
  if (x5 + x11) < 0 then
  bX5_isUsable_96 k w
  else
  if (x5 + x11) ≤ (999 : Int32) then
  k w l0 l1 l4 (l5 + (1 : Int32))
  else
  bX5_isUsable_96 k w
theorem HX5_isUsable_56 {K : CX} {l : Launch} {n0 k0 : Nat} {k : KTX5_isUsable} (hk0 : ∀ (w : XW) (l0 : Nat) (l1 : Nat) (l4 : Int32) (l5 : Int32) (q : Int32 × XW), k w l0 l1 l4 l5 = some q → WP K l mX5_isUsable 1 20 n0 k0 (some (.int q.1)) q.2 56 [some (.ref l0), some (.ref l1), none, none, some (.int l4), some (.int l5), none] [] w) {w : XW} {l0 : Nat} {l1 : Nat} {l4 : Int32} {l5 : Int32} {q : Int32 × XW} (h0 : hX5_isUsable_56 k w l0 l1 l4 l5 = some q) : WP K l mX5_isUsable 1 20 n0 k0 (some (.int q.1)) q.2 56 [some (.ref l0), some (.ref l1), none, none, some (.int l4), some (.int l5), none] [] w := by
  unfold hX5_isUsable_56 at h0
  refine wp_iload dX5_isUsable_56 rfl ?_
  refine wp_bipush (v := (6 : Int32)) dX5_isUsable_58 (by decide) ?_
  refine wp_icmp_ge (tgt := 104) dX5_isUsable_60 (by decide) (fun c1 => ?_) (fun c1 => ?_)
  · rw [if_pos c1] at h0
    refine wp_iconst (v := (1 : Int32)) dX5_isUsable_104 (by decide) ?_
    cases h0
    exact wp_zret (x := (1 : Int32)) rfl narrow_b1 dX5_isUsable_105
  · rw [if_neg c1] at h0
    refine wp_aload_n dX5_isUsable_63 rfl ?_
    obtain ⟨x2, e4, h3⟩ := Option.bind_eq_some_iff.mp h0
    clear h0
    refine wp_getR okX5 (k := 0) (by decide) tw92 dX5_isUsable_64 e4 ?_
    refine wp_iload dX5_isUsable_67 rfl ?_
    obtain ⟨x5, e7, h6⟩ := Option.bind_eq_some_iff.mp h3
    clear h3
    refine wp_iald dX5_isUsable_69 e7 ?_
    refine wp_aload_n dX5_isUsable_70 rfl ?_
    obtain ⟨x8, e10, h9⟩ := Option.bind_eq_some_iff.mp h6
    clear h6
    refine wp_getR okX1 (k := 3) (by decide) tw66 dX5_isUsable_71 e10 ?_
    refine wp_iload dX5_isUsable_74 rfl ?_
    refine wp_iload dX5_isUsable_76 rfl ?_
    refine wp_iadd dX5_isUsable_78 ?_
    obtain ⟨x11, e13, h12⟩ := Option.bind_eq_some_iff.mp h9
    clear h9
    refine wp_iald dX5_isUsable_79 e13 ?_
    refine wp_iadd dX5_isUsable_80 ?_
    refine wp_istore (L1 := [some (.ref l0), some (.ref l1), none, none, some (.int l4), some (.int l5), some (.int (x5 + x11))]) dX5_isUsable_81 (Nat.le_of_ble_eq_true rfl) rfl ?_
    refine wp_iload dX5_isUsable_83 rfl ?_
    refine wp_if_lt (tgt := 96) dX5_isUsable_85 (by decide) (fun c14 => ?_) (fun c14 => ?_)
    · rw [if_pos c14] at h12
      exact WP.wk (BX5_isUsable_96 hk0 h12) trivial
    · rw [if_neg c14] at h12
      refine wp_iload dX5_isUsable_88 rfl ?_
      refine wp_sipush (v := (999 : Int32)) dX5_isUsable_90 (by decide) ?_
      refine wp_icmp_le (tgt := 98) dX5_isUsable_93 (by decide) (fun c15 => ?_) (fun c15 => ?_)
      · rw [if_pos c15] at h12
        refine wp_iinc (v := (l5 + (1 : Int32))) (L1 := [some (.ref l0), some (.ref l1), none, none, some (.int l4), some (.int (l5 + (1 : Int32))), some (.int (x5 + x11))]) dX5_isUsable_98 (Nat.le_of_ble_eq_true rfl) rfl (congrArg (fun z => l5 + z) (by decide)) rfl ?_
        refine wp_goto (tgt := 56) dX5_isUsable_101 (by decide) ?_
        exact WP.wk (hk0 _ _ _ _ _ _ h12) (And.intro rfl (And.intro rfl (And.intro rfl (And.intro rfl trivial))))
      · rw [if_neg c15] at h12
        exact WP.wk (BX5_isUsable_96 hk0 h12) trivial
def eX5_isUsable (k : KTX5_isUsable) (w : XW) (l0 : Nat) (l1 : Nat) (l2 : Int32) : Option (Int32 × XW) :=
  (gR w l1 1 0).bind fun x1 =>
  (aI w 0 x1 l2).bind fun x4 =>
  (gI w l0 5 5).bind fun x7 =>
  if x7 = 0 then
  if x4 = (1 : Int32) then
  (gI w l0 5 3).bind fun x12 =>
  if ((x12 >>> (l2 &&& 31)) &&& (1 : Int32)) = (1 : Int32) then
  bX5_isUsable_45 k w
  else
  bX5_isUsable_31 k w l0 l1 l2 x4
  else
  bX5_isUsable_31 k w l0 l1 l2 x4
  else
  bX5_isUsable_45 k w
theorem EX5_isUsable {K : CX} {l : Launch} {n0 k0 : Nat} {k : KTX5_isUsable} (hk0 : ∀ (w : XW) (l0 : Nat) (l1 : Nat) (l4 : Int32) (l5 : Int32) (q : Int32 × XW), k w l0 l1 l4 l5 = some q → WP K l mX5_isUsable 1 20 n0 k0 (some (.int q.1)) q.2 56 [some (.ref l0), some (.ref l1), none, none, some (.int l4), some (.int l5), none] [] w) {w : XW} {l0 : Nat} {l1 : Nat} {l2 : Int32} {q : Int32 × XW} (h0 : eX5_isUsable k w l0 l1 l2 = some q) : WP K l mX5_isUsable 1 20 n0 k0 (some (.int q.1)) q.2 0 [some (.ref l0), some (.ref l1), some (.int l2), none, none, none, none] [] w := by
  unfold eX5_isUsable at h0
  refine wp_aload_n dX5_isUsable_0 rfl ?_
  obtain ⟨x1, e3, h2⟩ := Option.bind_eq_some_iff.mp h0
  clear h0
  refine wp_getR okX1 (k := 0) (by decide) tw60 dX5_isUsable_1 e3 ?_
  refine wp_iload_n dX5_isUsable_4 rfl ?_
  obtain ⟨x4, e6, h5⟩ := Option.bind_eq_some_iff.mp h2
  clear h2
  refine wp_iald dX5_isUsable_5 e6 ?_
  refine wp_istore_n (L1 := [some (.ref l0), some (.ref l1), some (.int l2), some (.int x4), none, none, none]) dX5_isUsable_6 (Nat.le_of_ble_eq_true rfl) rfl ?_
  refine wp_aload_n dX5_isUsable_7 rfl ?_
  obtain ⟨x7, e9, h8⟩ := Option.bind_eq_some_iff.mp h5
  clear h5
  refine wp_getI okX5 (k := 5) (by decide) tw105 dX5_isUsable_8 e9 ?_
  refine wp_if_ne (tgt := 45) dX5_isUsable_11 (by decide) (fun c10 => ?_) (fun c10 => ?_)
  · rw [if_neg c10] at h8
    exact WP.wk (BX5_isUsable_45 hk0 h8) trivial
  · rw [if_pos c10] at h8
    refine wp_iload_n dX5_isUsable_14 rfl ?_
    refine wp_iconst (v := (1 : Int32)) dX5_isUsable_15 (by decide) ?_
    refine wp_icmp_ne (tgt := 31) dX5_isUsable_16 (by decide) (fun c11 => ?_) (fun c11 => ?_)
    · rw [if_neg c11] at h8
      exact WP.wk (BX5_isUsable_31 hk0 h8) (And.intro rfl (And.intro rfl (And.intro rfl (And.intro rfl trivial))))
    · rw [if_pos c11] at h8
      refine wp_aload_n dX5_isUsable_19 rfl ?_
      obtain ⟨x12, e14, h13⟩ := Option.bind_eq_some_iff.mp h8
      clear h8
      refine wp_getI okX5 (k := 3) (by decide) tw100 dX5_isUsable_20 e14 ?_
      refine wp_iload_n dX5_isUsable_23 rfl ?_
      refine wp_ishr dX5_isUsable_24 ?_
      refine wp_iconst (v := (1 : Int32)) dX5_isUsable_25 (by decide) ?_
      refine wp_iand dX5_isUsable_26 ?_
      refine wp_iconst (v := (1 : Int32)) dX5_isUsable_27 (by decide) ?_
      refine wp_icmp_eq (tgt := 45) dX5_isUsable_28 (by decide) (fun c15 => ?_) (fun c15 => ?_)
      · rw [if_pos c15] at h13
        exact WP.wk (BX5_isUsable_45 hk0 h13) trivial
      · rw [if_neg c15] at h13
        exact WP.wk (BX5_isUsable_31 hk0 h13) (And.intro rfl (And.intro rfl (And.intro rfl (And.intro rfl trivial))))
def loX5_isUsable : Nat → KTX5_isUsable
  | 0 => fun _ _ _ _ _ => none
  | n + 1 => hX5_isUsable_56 (loX5_isUsable n)
theorem LOX5_isUsable {K : CX} {l : Launch} {n0 k0 : Nat} : ∀ n : Nat, (∀ (w : XW) (l0 : Nat) (l1 : Nat) (l4 : Int32) (l5 : Int32) (q : Int32 × XW), (loX5_isUsable n) w l0 l1 l4 l5 = some q → WP K l mX5_isUsable 1 20 n0 k0 (some (.int q.1)) q.2 56 [some (.ref l0), some (.ref l1), none, none, some (.int l4), some (.int l5), none] [] w) := by
  intro n
  induction n with
  | zero => exact fun _ _ _ _ _ q h => (by cases h)
  | succ n ih => exact fun _ _ _ _ _ q h => HX5_isUsable_56 ih h
def fX5_isUsable (w : XW) (l0 : Nat) (l1 : Nat) (l2 : Int32) : Option (Int32 × XW) := if isO w l0 5 = true then eX5_isUsable (loX5_isUsable FU) w l0 l1 l2 else none
theorem OX5_isUsable {w : XW} {l0 : Nat} {l1 : Nat} {l2 : Int32} {q : Int32 × XW} (h : fX5_isUsable w l0 l1 l2 = some q) : isO w l0 5 = true := Decidable.byContradiction fun z => by unfold fX5_isUsable at h; rw [if_neg z] at h; cases h
theorem MX5_isUsable {K : CX} {l : Launch} {w : XW} {l0 : Nat} {l1 : Nat} {l2 : Int32} {q : Int32 × XW} (h : fX5_isUsable w l0 l1 l2 = some q) : MT K l mX5_isUsable 1 20 [.ref l0, .ref l1, .int l2] w (some (.int q.1)) q.2 := by
  have z := OX5_isUsable h
  unfold fX5_isUsable at h
  rw [if_pos z] at h
  exact MT.of (by decide) (Nat.le_of_ble_eq_true rfl) rfl (EX5_isUsable (LOX5_isUsable FU) h)
/-! FractionRun.fraction(II)I: frames 2, words 46 -/
abbrev mX7_fraction : MR := (⟨"FractionRun", "fraction", "(II)I"⟩, prog_1_method_6_code, 3, (some .int))
theorem dX7_fraction_0 : decode prog_1_method_6_code 0 = .ok (.aload_n 0, 1) := by decide +kernel
theorem dX7_fraction_1 : decode prog_1_method_6_code 1 = .ok (.iload_n 1, 1) := by decide +kernel
theorem dX7_fraction_2 : decode prog_1_method_6_code 2 = .ok (.invokevirtual 120, 3) := by decide +kernel
theorem dX7_fraction_5 : decode prog_1_method_6_code 5 = .ok (.ifCond .ne 5, 3) := by decide +kernel
theorem dX7_fraction_8 : decode prog_1_method_6_code 8 = .ok (.iconst (-1), 1) := by decide +kernel
theorem dX7_fraction_9 : decode prog_1_method_6_code 9 = .ok (.ireturn, 1) := by decide +kernel
theorem dX7_fraction_10 : decode prog_1_method_6_code 10 = .ok (.iload_n 2, 1) := by decide +kernel
theorem dX7_fraction_11 : decode prog_1_method_6_code 11 = .ok (.tableswitch 127 0 5 #[37, 47, 57, 67, 76, 93], 37) := by decide +kernel
theorem dX7_fraction_48 : decode prog_1_method_6_code 48 = .ok (.aload_n 0, 1) := by decide +kernel
theorem dX7_fraction_49 : decode prog_1_method_6_code 49 = .ok (.getfield 26, 3) := by decide +kernel
theorem dX7_fraction_52 : decode prog_1_method_6_code 52 = .ok (.getfield 124, 3) := by decide +kernel
theorem dX7_fraction_55 : decode prog_1_method_6_code 55 = .ok (.iload_n 1, 1) := by decide +kernel
theorem dX7_fraction_56 : decode prog_1_method_6_code 56 = .ok (.iaload, 1) := by decide +kernel
theorem dX7_fraction_57 : decode prog_1_method_6_code 57 = .ok (.ireturn, 1) := by decide +kernel
theorem dX7_fraction_58 : decode prog_1_method_6_code 58 = .ok (.aload_n 0, 1) := by decide +kernel
theorem dX7_fraction_59 : decode prog_1_method_6_code 59 = .ok (.getfield 26, 3) := by decide +kernel
theorem dX7_fraction_62 : decode prog_1_method_6_code 62 = .ok (.getfield 127, 3) := by decide +kernel
theorem dX7_fraction_65 : decode prog_1_method_6_code 65 = .ok (.iload_n 1, 1) := by decide +kernel
theorem dX7_fraction_66 : decode prog_1_method_6_code 66 = .ok (.iaload, 1) := by decide +kernel
theorem dX7_fraction_67 : decode prog_1_method_6_code 67 = .ok (.ireturn, 1) := by decide +kernel
theorem dX7_fraction_68 : decode prog_1_method_6_code 68 = .ok (.aload_n 0, 1) := by decide +kernel
theorem dX7_fraction_69 : decode prog_1_method_6_code 69 = .ok (.getfield 26, 3) := by decide +kernel
theorem dX7_fraction_72 : decode prog_1_method_6_code 72 = .ok (.getfield 130, 3) := by decide +kernel
theorem dX7_fraction_75 : decode prog_1_method_6_code 75 = .ok (.iload_n 1, 1) := by decide +kernel
theorem dX7_fraction_76 : decode prog_1_method_6_code 76 = .ok (.iaload, 1) := by decide +kernel
theorem dX7_fraction_77 : decode prog_1_method_6_code 77 = .ok (.ireturn, 1) := by decide +kernel
theorem dX7_fraction_78 : decode prog_1_method_6_code 78 = .ok (.aload_n 0, 1) := by decide +kernel
theorem dX7_fraction_79 : decode prog_1_method_6_code 79 = .ok (.getfield 36, 3) := by decide +kernel
theorem dX7_fraction_82 : decode prog_1_method_6_code 82 = .ok (.iload_n 1, 1) := by decide +kernel
theorem dX7_fraction_83 : decode prog_1_method_6_code 83 = .ok (.invokevirtual 133, 3) := by decide +kernel
theorem dX7_fraction_86 : decode prog_1_method_6_code 86 = .ok (.ireturn, 1) := by decide +kernel
theorem dX7_fraction_87 : decode prog_1_method_6_code 87 = .ok (.aload_n 0, 1) := by decide +kernel
theorem dX7_fraction_88 : decode prog_1_method_6_code 88 = .ok (.getfield 36, 3) := by decide +kernel
theorem dX7_fraction_91 : decode prog_1_method_6_code 91 = .ok (.iload_n 1, 1) := by decide +kernel
theorem dX7_fraction_92 : decode prog_1_method_6_code 92 = .ok (.invokevirtual 137, 3) := by decide +kernel
theorem dX7_fraction_95 : decode prog_1_method_6_code 95 = .ok (.ifCond .eq 7, 3) := by decide +kernel
theorem dX7_fraction_98 : decode prog_1_method_6_code 98 = .ok (.iconst 1, 1) := by decide +kernel
theorem dX7_fraction_99 : decode prog_1_method_6_code 99 = .ok (.goto 4, 3) := by decide +kernel
theorem dX7_fraction_102 : decode prog_1_method_6_code 102 = .ok (.iconst 0, 1) := by decide +kernel
theorem dX7_fraction_103 : decode prog_1_method_6_code 103 = .ok (.ireturn, 1) := by decide +kernel
theorem dX7_fraction_104 : decode prog_1_method_6_code 104 = .ok (.aload_n 0, 1) := by decide +kernel
theorem dX7_fraction_105 : decode prog_1_method_6_code 105 = .ok (.getfield 36, 3) := by decide +kernel
theorem dX7_fraction_108 : decode prog_1_method_6_code 108 = .ok (.iload_n 1, 1) := by decide +kernel
theorem dX7_fraction_109 : decode prog_1_method_6_code 109 = .ok (.invokevirtual 133, 3) := by decide +kernel
theorem dX7_fraction_112 : decode prog_1_method_6_code 112 = .ok (.bipush (-4), 2) := by decide +kernel
theorem dX7_fraction_114 : decode prog_1_method_6_code 114 = .ok (.if_icmp .eq 22, 3) := by decide +kernel
theorem dX7_fraction_117 : decode prog_1_method_6_code 117 = .ok (.aload_n 0, 1) := by decide +kernel
theorem dX7_fraction_118 : decode prog_1_method_6_code 118 = .ok (.getfield 36, 3) := by decide +kernel
theorem dX7_fraction_121 : decode prog_1_method_6_code 121 = .ok (.aload_n 0, 1) := by decide +kernel
theorem dX7_fraction_122 : decode prog_1_method_6_code 122 = .ok (.getfield 26, 3) := by decide +kernel
theorem dX7_fraction_125 : decode prog_1_method_6_code 125 = .ok (.iload_n 1, 1) := by decide +kernel
theorem dX7_fraction_126 : decode prog_1_method_6_code 126 = .ok (.invokevirtual 140, 3) := by decide +kernel
theorem dX7_fraction_129 : decode prog_1_method_6_code 129 = .ok (.ifCond .eq 7, 3) := by decide +kernel
theorem dX7_fraction_132 : decode prog_1_method_6_code 132 = .ok (.iconst 1, 1) := by decide +kernel
theorem dX7_fraction_133 : decode prog_1_method_6_code 133 = .ok (.goto 4, 3) := by decide +kernel
theorem dX7_fraction_136 : decode prog_1_method_6_code 136 = .ok (.iconst 0, 1) := by decide +kernel
theorem dX7_fraction_137 : decode prog_1_method_6_code 137 = .ok (.ireturn, 1) := by decide +kernel
theorem dX7_fraction_138 : decode prog_1_method_6_code 138 = .ok (.iconst (-1), 1) := by decide +kernel
theorem dX7_fraction_139 : decode prog_1_method_6_code 139 = .ok (.ireturn, 1) := by decide +kernel
theorem okM_X7_fraction : okM mX7_fraction 2 := ⟨tw377, tw1, by decide, by decide, by decide +kernel⟩
def bX7_fraction_137 (w : XW) (s0 : Int32) : Option (Int32 × XW) :=
  some (s0, w)
theorem BX7_fraction_137 {K : CX} {l : Launch} {n0 k0 : Nat} {w : XW} {s0 : Int32} {q : Int32 × XW} (h0 : bX7_fraction_137 w s0 = some q) : WP K l mX7_fraction 2 46 n0 k0 (some (.int q.1)) q.2 137 [none, none, none] [.int s0] w := by
  unfold bX7_fraction_137 at h0
  cases h0
  exact wp_iret rfl dX7_fraction_137
def bX7_fraction_136 (w : XW) : Option (Int32 × XW) :=
  bX7_fraction_137 w (0 : Int32)
theorem BX7_fraction_136 {K : CX} {l : Launch} {n0 k0 : Nat} {w : XW} {q : Int32 × XW} (h0 : bX7_fraction_136 w = some q) : WP K l mX7_fraction 2 46 n0 k0 (some (.int q.1)) q.2 136 [none, none, none] [] w := by
  unfold bX7_fraction_136 at h0
  refine wp_iconst (v := (0 : Int32)) dX7_fraction_136 (by decide) ?_
  exact WP.wk (BX7_fraction_137 h0) trivial
def bX7_fraction_103 (w : XW) (s0 : Int32) : Option (Int32 × XW) :=
  some (s0, w)
theorem BX7_fraction_103 {K : CX} {l : Launch} {n0 k0 : Nat} {w : XW} {s0 : Int32} {q : Int32 × XW} (h0 : bX7_fraction_103 w s0 = some q) : WP K l mX7_fraction 2 46 n0 k0 (some (.int q.1)) q.2 103 [none, none, none] [.int s0] w := by
  unfold bX7_fraction_103 at h0
  cases h0
  exact wp_iret rfl dX7_fraction_103
def eX7_fraction (w : XW) (l0 : Nat) (l1 : Int32) (l2 : Int32) : Option (Int32 × XW) :=
  (fX7_isTold w l0 l1).bind fun q1 =>
  if q1.1 = 0 then
  some ((-1 : Int32), q1.2)
  else
  if l2.toInt < 0 ∨ 5 < l2.toInt then
  some ((-1 : Int32), q1.2)
  else if l2 = (0 : Int32) then
  (gR q1.2 l0 7 2).bind fun x7 =>
  (gR q1.2 x7 1 0).bind fun x10 =>
  (aI q1.2 0 x10 l1).bind fun x13 =>
  some (x13, q1.2)
  else if l2 = (1 : Int32) then
  (gR q1.2 l0 7 2).bind fun x17 =>
  (gR q1.2 x17 1 1).bind fun x20 =>
  (aI q1.2 0 x20 l1).bind fun x23 =>
  some (x23, q1.2)
  else if l2 = (2 : Int32) then
  (gR q1.2 l0 7 2).bind fun x27 =>
  (gR q1.2 x27 1 2).bind fun x30 =>
  (aI q1.2 0 x30 l1).bind fun x33 =>
  some (x33, q1.2)
  else if l2 = (3 : Int32) then
  (gR q1.2 l0 7 4).bind fun x37 =>
  (fX5_placeOf q1.2 x37 l1).bind fun q40 =>
  some (q40.1, q40.2)
  else if l2 = (4 : Int32) then
  (gR q1.2 l0 7 4).bind fun x44 =>
  (fX5_wasUsed q1.2 x44 l1).bind fun q47 =>
  if q47.1 = 0 then
  bX7_fraction_103 q47.2 (0 : Int32)
  else
  bX7_fraction_103 q47.2 (1 : Int32)
  else if l2 = (5 : Int32) then
  (gR q1.2 l0 7 4).bind fun x52 =>
  (fX5_placeOf q1.2 x52 l1).bind fun q55 =>
  if q55.1 = (-4 : Int32) then
  bX7_fraction_136 q55.2
  else
  (gR q55.2 l0 7 4).bind fun x59 =>
  (gR q55.2 l0 7 2).bind fun x62 =>
  (fX5_isUsable q55.2 x59 x62 l1).bind fun q65 =>
  if q65.1 = 0 then
  bX7_fraction_136 q65.2
  else
  bX7_fraction_137 q65.2 (1 : Int32)
  else none
theorem EX7_fraction {K : CX} {l : Launch} {n0 k0 : Nat} {w : XW} {l0 : Nat} {l1 : Int32} {l2 : Int32} {q : Int32 × XW} (h0 : eX7_fraction w l0 l1 l2 = some q) : WP K l mX7_fraction 2 46 n0 k0 (some (.int q.1)) q.2 0 [some (.ref l0), some (.int l1), some (.int l2)] [] w := by
  unfold eX7_fraction at h0
  refine wp_aload_n dX7_fraction_0 rfl ?_
  refine wp_iload_n dX7_fraction_1 rfl ?_
  obtain ⟨q1, e3, h2⟩ := Option.bind_eq_some_iff.mp h0
  clear h0
  refine wp_Vi (As := [.int l1]) (S := []) okM_X7_isTold tw380 twP_X7_isTold tw378 (OX7_isTold e3) rfl rfl rfl ⟨(Nat.le_of_ble_eq_true rfl), (Nat.le_of_ble_eq_true rfl)⟩ (Nat.le_of_ble_eq_true rfl) rfl dX7_fraction_2 (MX7_isTold e3) ?_
  refine wp_if_ne (tgt := 10) dX7_fraction_5 (by decide) (fun c4 => ?_) (fun c4 => ?_)
  · rw [if_neg c4] at h2
    refine wp_iload_n dX7_fraction_10 rfl ?_
    by_cases c5 : l2.toInt < 0 ∨ 5 < l2.toInt
    · rw [if_pos c5] at h2
      refine wp_tabOut (tgt := 138) dX7_fraction_11 c5 (by decide) ?_
      refine wp_iconst (v := (-1 : Int32)) dX7_fraction_138 (by decide) ?_
      cases h2
      exact wp_iret rfl dX7_fraction_139
    rw [if_neg c5] at h2
    by_cases c6 : l2 = (0 : Int32)
    · rw [if_pos c6] at h2
      refine wp_tabIn (off := 37) (tgt := 48) dX7_fraction_11 (by rw [c6]; decide) (by rw [c6]; decide) (by rw [c6]; decide) (by decide) ?_
      refine wp_aload_n dX7_fraction_48 rfl ?_
      obtain ⟨x7, e9, h8⟩ := Option.bind_eq_some_iff.mp h2
      clear h2
      refine wp_getR okX7 (k := 2) (by decide) tw300 dX7_fraction_49 e9 ?_
      obtain ⟨x10, e12, h11⟩ := Option.bind_eq_some_iff.mp h8
      clear h8
      refine wp_getR okX1 (k := 0) (by decide) tw59 dX7_fraction_52 e12 ?_
      refine wp_iload_n dX7_fraction_55 rfl ?_
      obtain ⟨x13, e15, h14⟩ := Option.bind_eq_some_iff.mp h11
      clear h11
      refine wp_iald dX7_fraction_56 e15 ?_
      cases h14
      exact wp_iret rfl dX7_fraction_57
    rw [if_neg c6] at h2
    by_cases c16 : l2 = (1 : Int32)
    · rw [if_pos c16] at h2
      refine wp_tabIn (off := 47) (tgt := 58) dX7_fraction_11 (by rw [c16]; decide) (by rw [c16]; decide) (by rw [c16]; decide) (by decide) ?_
      refine wp_aload_n dX7_fraction_58 rfl ?_
      obtain ⟨x17, e19, h18⟩ := Option.bind_eq_some_iff.mp h2
      clear h2
      refine wp_getR okX7 (k := 2) (by decide) tw300 dX7_fraction_59 e19 ?_
      obtain ⟨x20, e22, h21⟩ := Option.bind_eq_some_iff.mp h18
      clear h18
      refine wp_getR okX1 (k := 1) (by decide) tw62 dX7_fraction_62 e22 ?_
      refine wp_iload_n dX7_fraction_65 rfl ?_
      obtain ⟨x23, e25, h24⟩ := Option.bind_eq_some_iff.mp h21
      clear h21
      refine wp_iald dX7_fraction_66 e25 ?_
      cases h24
      exact wp_iret rfl dX7_fraction_67
    rw [if_neg c16] at h2
    by_cases c26 : l2 = (2 : Int32)
    · rw [if_pos c26] at h2
      refine wp_tabIn (off := 57) (tgt := 68) dX7_fraction_11 (by rw [c26]; decide) (by rw [c26]; decide) (by rw [c26]; decide) (by decide) ?_
      refine wp_aload_n dX7_fraction_68 rfl ?_
      obtain ⟨x27, e29, h28⟩ := Option.bind_eq_some_iff.mp h2
      clear h2
      refine wp_getR okX7 (k := 2) (by decide) tw300 dX7_fraction_69 e29 ?_
      obtain ⟨x30, e32, h31⟩ := Option.bind_eq_some_iff.mp h28
      clear h28
      refine wp_getR okX1 (k := 2) (by decide) tw64 dX7_fraction_72 e32 ?_
      refine wp_iload_n dX7_fraction_75 rfl ?_
      obtain ⟨x33, e35, h34⟩ := Option.bind_eq_some_iff.mp h31
      clear h31
      refine wp_iald dX7_fraction_76 e35 ?_
      cases h34
      exact wp_iret rfl dX7_fraction_77
    rw [if_neg c26] at h2
    by_cases c36 : l2 = (3 : Int32)
    · rw [if_pos c36] at h2
      refine wp_tabIn (off := 67) (tgt := 78) dX7_fraction_11 (by rw [c36]; decide) (by rw [c36]; decide) (by rw [c36]; decide) (by decide) ?_
      refine wp_aload_n dX7_fraction_78 rfl ?_
      obtain ⟨x37, e39, h38⟩ := Option.bind_eq_some_iff.mp h2
      clear h2
      refine wp_getR okX7 (k := 4) (by decide) tw302 dX7_fraction_79 e39 ?_
      refine wp_iload_n dX7_fraction_82 rfl ?_
      obtain ⟨q40, e42, h41⟩ := Option.bind_eq_some_iff.mp h38
      clear h38
      refine wp_Vi (As := [.int l1]) (S := []) okM_X5_placeOf tw383 tw384 tw382 (OX5_placeOf e42) rfl rfl rfl ⟨(Nat.le_of_ble_eq_true rfl), (Nat.le_of_ble_eq_true rfl)⟩ (Nat.le_of_ble_eq_true rfl) rfl dX7_fraction_83 (MX5_placeOf e42) ?_
      cases h41
      exact wp_iret rfl dX7_fraction_86
    rw [if_neg c36] at h2
    by_cases c43 : l2 = (4 : Int32)
    · rw [if_pos c43] at h2
      refine wp_tabIn (off := 76) (tgt := 87) dX7_fraction_11 (by rw [c43]; decide) (by rw [c43]; decide) (by rw [c43]; decide) (by decide) ?_
      refine wp_aload_n dX7_fraction_87 rfl ?_
      obtain ⟨x44, e46, h45⟩ := Option.bind_eq_some_iff.mp h2
      clear h2
      refine wp_getR okX7 (k := 4) (by decide) tw302 dX7_fraction_88 e46 ?_
      refine wp_iload_n dX7_fraction_91 rfl ?_
      obtain ⟨q47, e49, h48⟩ := Option.bind_eq_some_iff.mp h45
      clear h45
      refine wp_Vi (As := [.int l1]) (S := []) okM_X5_wasUsed tw387 tw388 tw386 (OX5_wasUsed e49) rfl rfl rfl ⟨(Nat.le_of_ble_eq_true rfl), (Nat.le_of_ble_eq_true rfl)⟩ (Nat.le_of_ble_eq_true rfl) rfl dX7_fraction_92 (MX5_wasUsed e49) ?_
      refine wp_if_eq (tgt := 102) dX7_fraction_95 (by decide) (fun c50 => ?_) (fun c50 => ?_)
      · rw [if_pos c50] at h48
        refine wp_iconst (v := (0 : Int32)) dX7_fraction_102 (by decide) ?_
        exact WP.wk (BX7_fraction_103 h48) trivial
      · rw [if_neg c50] at h48
        refine wp_iconst (v := (1 : Int32)) dX7_fraction_98 (by decide) ?_
        refine wp_goto (tgt := 103) dX7_fraction_99 (by decide) ?_
        exact WP.wk (BX7_fraction_103 h48) trivial
    rw [if_neg c43] at h2
    by_cases c51 : l2 = (5 : Int32)
    · rw [if_pos c51] at h2
      refine wp_tabIn (off := 93) (tgt := 104) dX7_fraction_11 (by rw [c51]; decide) (by rw [c51]; decide) (by rw [c51]; decide) (by decide) ?_
      refine wp_aload_n dX7_fraction_104 rfl ?_
      obtain ⟨x52, e54, h53⟩ := Option.bind_eq_some_iff.mp h2
      clear h2
      refine wp_getR okX7 (k := 4) (by decide) tw302 dX7_fraction_105 e54 ?_
      refine wp_iload_n dX7_fraction_108 rfl ?_
      obtain ⟨q55, e57, h56⟩ := Option.bind_eq_some_iff.mp h53
      clear h53
      refine wp_Vi (As := [.int l1]) (S := []) okM_X5_placeOf tw383 tw384 tw382 (OX5_placeOf e57) rfl rfl rfl ⟨(Nat.le_of_ble_eq_true rfl), (Nat.le_of_ble_eq_true rfl)⟩ (Nat.le_of_ble_eq_true rfl) rfl dX7_fraction_109 (MX5_placeOf e57) ?_
      refine wp_bipush (v := (-4 : Int32)) dX7_fraction_112 (by decide) ?_
      refine wp_icmp_eq (tgt := 136) dX7_fraction_114 (by decide) (fun c58 => ?_) (fun c58 => ?_)
      · rw [if_pos c58] at h56
        exact WP.wk (BX7_fraction_136 h56) trivial
      · rw [if_neg c58] at h56
        refine wp_aload_n dX7_fraction_117 rfl ?_
        obtain ⟨x59, e61, h60⟩ := Option.bind_eq_some_iff.mp h56
        clear h56
        refine wp_getR okX7 (k := 4) (by decide) tw302 dX7_fraction_118 e61 ?_
        refine wp_aload_n dX7_fraction_121 rfl ?_
        obtain ⟨x62, e64, h63⟩ := Option.bind_eq_some_iff.mp h60
        clear h60
        refine wp_getR okX7 (k := 2) (by decide) tw300 dX7_fraction_122 e64 ?_
        refine wp_iload_n dX7_fraction_125 rfl ?_
        obtain ⟨q65, e67, h66⟩ := Option.bind_eq_some_iff.mp h63
        clear h63
        refine wp_Vi (As := [.ref x62, .int l1]) (S := []) okM_X5_isUsable tw391 tw392 tw390 (OX5_isUsable e67) rfl rfl rfl ⟨(Nat.le_of_ble_eq_true rfl), (Nat.le_of_ble_eq_true rfl)⟩ (Nat.le_of_ble_eq_true rfl) rfl dX7_fraction_126 (MX5_isUsable e67) ?_
        refine wp_if_eq (tgt := 136) dX7_fraction_129 (by decide) (fun c68 => ?_) (fun c68 => ?_)
        · rw [if_pos c68] at h66
          exact WP.wk (BX7_fraction_136 h66) trivial
        · rw [if_neg c68] at h66
          refine wp_iconst (v := (1 : Int32)) dX7_fraction_132 (by decide) ?_
          refine wp_goto (tgt := 137) dX7_fraction_133 (by decide) ?_
          exact WP.wk (BX7_fraction_137 h66) trivial
    rw [if_neg c51] at h2
    cases h2
  · rw [if_pos c4] at h2
    refine wp_iconst (v := (-1 : Int32)) dX7_fraction_8 (by decide) ?_
    cases h2
    exact wp_iret rfl dX7_fraction_9
def fX7_fraction (w : XW) (l0 : Nat) (l1 : Int32) (l2 : Int32) : Option (Int32 × XW) := if isO w l0 7 = true then eX7_fraction w l0 l1 l2 else none
theorem OX7_fraction {w : XW} {l0 : Nat} {l1 : Int32} {l2 : Int32} {q : Int32 × XW} (h : fX7_fraction w l0 l1 l2 = some q) : isO w l0 7 = true := Decidable.byContradiction fun z => by unfold fX7_fraction at h; rw [if_neg z] at h; cases h
theorem MX7_fraction {K : CX} {l : Launch} {w : XW} {l0 : Nat} {l1 : Int32} {l2 : Int32} {q : Int32 × XW} (h : fX7_fraction w l0 l1 l2 = some q) : MT K l mX7_fraction 2 46 [.ref l0, .int l1, .int l2] w (some (.int q.1)) q.2 := by
  have z := OX7_fraction h
  unfold fX7_fraction at h
  rw [if_pos z] at h
  exact MT.of (by decide) (Nat.le_of_ble_eq_true rfl) rfl (EX7_fraction h)
/-! FractionRunModel.isFraction(I)Z: frames 2, words 45 -/
abbrev mX8_isFraction : MR := (⟨"FractionRunModel", "isFraction", "(I)Z"⟩, prog_10_method_27_code, 2, (some .boolean))
theorem dX8_isFraction_0 : decode prog_10_method_27_code 0 = .ok (.iload_n 1, 1) := by decide +kernel
theorem dX8_isFraction_1 : decode prog_10_method_27_code 1 = .ok (.i2l, 1) := by decide +kernel
theorem dX8_isFraction_2 : decode prog_10_method_27_code 2 = .ok (.lconst 0, 1) := by decide +kernel
theorem dX8_isFraction_3 : decode prog_10_method_27_code 3 = .ok (.aload_n 0, 1) := by decide +kernel
theorem dX8_isFraction_4 : decode prog_10_method_27_code 4 = .ok (.getfield 72, 3) := by decide +kernel
theorem dX8_isFraction_7 : decode prog_10_method_27_code 7 = .ok (.iconst 1, 1) := by decide +kernel
theorem dX8_isFraction_8 : decode prog_10_method_27_code 8 = .ok (.isub, 1) := by decide +kernel
theorem dX8_isFraction_9 : decode prog_10_method_27_code 9 = .ok (.i2l, 1) := by decide +kernel
theorem dX8_isFraction_10 : decode prog_10_method_27_code 10 = .ok (.invokestatic 88, 3) := by decide +kernel
theorem dX8_isFraction_13 : decode prog_10_method_27_code 13 = .ok (.ireturn, 1) := by decide +kernel
theorem okM_X8_isFraction : okM mX8_isFraction 1 := ⟨tw836, tw15, by decide, by decide, by decide +kernel⟩
def eX8_isFraction (w : XW) (l0 : Nat) (l1 : Int32) : Option (Int32 × XW) :=
  (gI w l0 8 0).bind fun x1 =>
  (fX8_in w (l1.toInt64) (0 : Int64) ((x1 - (1 : Int32)).toInt64)).bind fun q4 =>
  if q4.1 &&& 1 = q4.1 then some (q4.1, q4.2) else none
theorem EX8_isFraction {K : CX} {l : Launch} {n0 k0 : Nat} {w : XW} {l0 : Nat} {l1 : Int32} {q : Int32 × XW} (h0 : eX8_isFraction w l0 l1 = some q) : WP K l mX8_isFraction 2 45 n0 k0 (some (.int q.1)) q.2 0 [some (.ref l0), some (.int l1)] [] w := by
  unfold eX8_isFraction at h0
  refine wp_iload_n dX8_isFraction_0 rfl ?_
  refine wp_i2l dX8_isFraction_1 ?_
  refine wp_lconst (v := (0 : Int64)) dX8_isFraction_2 (by decide) ?_
  refine wp_aload_n dX8_isFraction_3 rfl ?_
  obtain ⟨x1, e3, h2⟩ := Option.bind_eq_some_iff.mp h0
  clear h0
  refine wp_getI okX8 (k := 0) (by decide) tw705 dX8_isFraction_4 e3 ?_
  refine wp_iconst (v := (1 : Int32)) dX8_isFraction_7 (by decide) ?_
  refine wp_isub dX8_isFraction_8 ?_
  refine wp_i2l dX8_isFraction_9 ?_
  obtain ⟨q4, e6, h5⟩ := Option.bind_eq_some_iff.mp h2
  clear h2
  refine wp_Si (As := [.long (l1.toInt64), .long (0 : Int64), .long ((x1 - (1 : Int32)).toInt64)]) (S := []) okM_X8_in tw785 tw784 rfl ⟨(Nat.le_of_ble_eq_true rfl), (Nat.le_of_ble_eq_true rfl)⟩ (Nat.le_of_ble_eq_true rfl) rfl dX8_isFraction_10 (MX8_in e6) ?_
  have c7 : q4.1 &&& 1 = q4.1 := Decidable.byContradiction fun z => by rw [if_neg z] at h5; cases h5
  rw [if_pos c7] at h5
  cases h5
  exact wp_zret rfl (zb_n c7) dX8_isFraction_13
def fX8_isFraction (w : XW) (l0 : Nat) (l1 : Int32) : Option (Int32 × XW) := if isO w l0 8 = true then eX8_isFraction w l0 l1 else none
theorem OX8_isFraction {w : XW} {l0 : Nat} {l1 : Int32} {q : Int32 × XW} (h : fX8_isFraction w l0 l1 = some q) : isO w l0 8 = true := Decidable.byContradiction fun z => by unfold fX8_isFraction at h; rw [if_neg z] at h; cases h
theorem MX8_isFraction {K : CX} {l : Launch} {w : XW} {l0 : Nat} {l1 : Int32} {q : Int32 × XW} (h : fX8_isFraction w l0 l1 = some q) : MT K l mX8_isFraction 2 45 [.ref l0, .int l1] w (some (.int q.1)) q.2 := by
  have z := OX8_isFraction h
  unfold fX8_isFraction at h
  rw [if_pos z] at h
  exact MT.of (by decide) (Nat.le_of_ble_eq_true rfl) rfl (EX8_isFraction h)
/-! FractionRunModel.placeOf(II)I: frames 1, words 20 -/
abbrev mX8_placeOf : MR := (⟨"FractionRunModel", "placeOf", "(II)I"⟩, prog_10_method_28_code, 5, (some .int))
theorem dX8_placeOf_0 : decode prog_10_method_28_code 0 = .ok (.bipush (-4), 2) := by decide +kernel
theorem dX8_placeOf_2 : decode prog_10_method_28_code 2 = .ok (.istore_n 3, 1) := by decide +kernel
theorem dX8_placeOf_3 : decode prog_10_method_28_code 3 = .ok (.iconst 0, 1) := by decide +kernel
theorem dX8_placeOf_4 : decode prog_10_method_28_code 4 = .ok (.istore 4, 2) := by decide +kernel
theorem dX8_placeOf_6 : decode prog_10_method_28_code 6 = .ok (.iload 4, 2) := by decide +kernel
theorem dX8_placeOf_8 : decode prog_10_method_28_code 8 = .ok (.aload_n 0, 1) := by decide +kernel
theorem dX8_placeOf_9 : decode prog_10_method_28_code 9 = .ok (.getfield 25, 3) := by decide +kernel
theorem dX8_placeOf_12 : decode prog_10_method_28_code 12 = .ok (.iload_n 1, 1) := by decide +kernel
theorem dX8_placeOf_13 : decode prog_10_method_28_code 13 = .ok (.bipush 14, 2) := by decide +kernel
theorem dX8_placeOf_15 : decode prog_10_method_28_code 15 = .ok (.iadd, 1) := by decide +kernel
theorem dX8_placeOf_16 : decode prog_10_method_28_code 16 = .ok (.iaload, 1) := by decide +kernel
theorem dX8_placeOf_17 : decode prog_10_method_28_code 17 = .ok (.if_icmp .ge 32, 3) := by decide +kernel
theorem dX8_placeOf_20 : decode prog_10_method_28_code 20 = .ok (.aload_n 0, 1) := by decide +kernel
theorem dX8_placeOf_21 : decode prog_10_method_28_code 21 = .ok (.getfield 25, 3) := by decide +kernel
theorem dX8_placeOf_24 : decode prog_10_method_28_code 24 = .ok (.iload_n 1, 1) := by decide +kernel
theorem dX8_placeOf_25 : decode prog_10_method_28_code 25 = .ok (.bipush 6, 2) := by decide +kernel
theorem dX8_placeOf_27 : decode prog_10_method_28_code 27 = .ok (.iadd, 1) := by decide +kernel
theorem dX8_placeOf_28 : decode prog_10_method_28_code 28 = .ok (.iload 4, 2) := by decide +kernel
theorem dX8_placeOf_30 : decode prog_10_method_28_code 30 = .ok (.iadd, 1) := by decide +kernel
theorem dX8_placeOf_31 : decode prog_10_method_28_code 31 = .ok (.iaload, 1) := by decide +kernel
theorem dX8_placeOf_32 : decode prog_10_method_28_code 32 = .ok (.iload_n 2, 1) := by decide +kernel
theorem dX8_placeOf_33 : decode prog_10_method_28_code 33 = .ok (.if_icmp .ne 8, 3) := by decide +kernel
theorem dX8_placeOf_36 : decode prog_10_method_28_code 36 = .ok (.iload 4, 2) := by decide +kernel
theorem dX8_placeOf_38 : decode prog_10_method_28_code 38 = .ok (.goto 4, 3) := by decide +kernel
theorem dX8_placeOf_41 : decode prog_10_method_28_code 41 = .ok (.iload_n 3, 1) := by decide +kernel
theorem dX8_placeOf_42 : decode prog_10_method_28_code 42 = .ok (.istore_n 3, 1) := by decide +kernel
theorem dX8_placeOf_43 : decode prog_10_method_28_code 43 = .ok (.iinc 4 1, 3) := by decide +kernel
theorem dX8_placeOf_46 : decode prog_10_method_28_code 46 = .ok (.goto (-40), 3) := by decide +kernel
theorem dX8_placeOf_49 : decode prog_10_method_28_code 49 = .ok (.iload_n 3, 1) := by decide +kernel
theorem dX8_placeOf_50 : decode prog_10_method_28_code 50 = .ok (.ireturn, 1) := by decide +kernel
theorem okM_X8_placeOf : okM mX8_placeOf 2 := ⟨tw845, tw15, by decide, by decide, by decide +kernel⟩
abbrev KTX8_placeOf : Type := (XW → Nat → Int32 → Int32 → Int32 → Int32 → Option (Int32 × XW))
def bX8_placeOf_42 (k : KTX8_placeOf) (w : XW) (l0 : Nat) (l1 : Int32) (l2 : Int32) (l4 : Int32) (s0 : Int32) : Option (Int32 × XW) :=
  k w l0 l1 l2 s0 (l4 + (1 : Int32))
theorem BX8_placeOf_42 {K : CX} {l : Launch} {n0 k0 : Nat} {k : KTX8_placeOf} (hk0 : ∀ (w : XW) (l0 : Nat) (l1 : Int32) (l2 : Int32) (l3 : Int32) (l4 : Int32) (q : Int32 × XW), k w l0 l1 l2 l3 l4 = some q → WP K l mX8_placeOf 1 20 n0 k0 (some (.int q.1)) q.2 6 [some (.ref l0), some (.int l1), some (.int l2), some (.int l3), some (.int l4)] [] w) {w : XW} {l0 : Nat} {l1 : Int32} {l2 : Int32} {l4 : Int32} {s0 : Int32} {q : Int32 × XW} (h0 : bX8_placeOf_42 k w l0 l1 l2 l4 s0 = some q) : WP K l mX8_placeOf 1 20 n0 k0 (some (.int q.1)) q.2 42 [some (.ref l0), some (.int l1), some (.int l2), none, some (.int l4)] [.int s0] w := by
  unfold bX8_placeOf_42 at h0
  refine wp_istore_n (L1 := [some (.ref l0), some (.int l1), some (.int l2), some (.int s0), some (.int l4)]) dX8_placeOf_42 (Nat.le_of_ble_eq_true rfl) rfl ?_
  refine wp_iinc (v := (l4 + (1 : Int32))) (L1 := [some (.ref l0), some (.int l1), some (.int l2), some (.int s0), some (.int (l4 + (1 : Int32)))]) dX8_placeOf_43 (Nat.le_of_ble_eq_true rfl) rfl (congrArg (fun z => l4 + z) (by decide)) rfl ?_
  refine wp_goto (tgt := 6) dX8_placeOf_46 (by decide) ?_
  exact WP.wk (hk0 _ _ _ _ _ _ _ h0) (And.intro rfl (And.intro rfl (And.intro rfl (And.intro rfl (And.intro rfl trivial)))))
def hX8_placeOf_6 (k : KTX8_placeOf) (w : XW) (l0 : Nat) (l1 : Int32) (l2 : Int32) (l3 : Int32) (l4 : Int32) : Option (Int32 × XW) :=
  (gR w l0 8 7).bind fun x1 =>
  (aI w 0 x1 (l1 + (14 : Int32))).bind fun x4 =>
  if x4 ≤ l4 then
  some (l3, w)
  else
  (gR w l0 8 7).bind fun x8 =>
  (aI w 0 x8 ((l1 + (6 : Int32)) + l4)).bind fun x11 =>
  if x11 = l2 then
  bX8_placeOf_42 k w l0 l1 l2 l4 l4
  else
  bX8_placeOf_42 k w l0 l1 l2 l4 l3
theorem HX8_placeOf_6 {K : CX} {l : Launch} {n0 k0 : Nat} {k : KTX8_placeOf} (hk0 : ∀ (w : XW) (l0 : Nat) (l1 : Int32) (l2 : Int32) (l3 : Int32) (l4 : Int32) (q : Int32 × XW), k w l0 l1 l2 l3 l4 = some q → WP K l mX8_placeOf 1 20 n0 k0 (some (.int q.1)) q.2 6 [some (.ref l0), some (.int l1), some (.int l2), some (.int l3), some (.int l4)] [] w) {w : XW} {l0 : Nat} {l1 : Int32} {l2 : Int32} {l3 : Int32} {l4 : Int32} {q : Int32 × XW} (h0 : hX8_placeOf_6 k w l0 l1 l2 l3 l4 = some q) : WP K l mX8_placeOf 1 20 n0 k0 (some (.int q.1)) q.2 6 [some (.ref l0), some (.int l1), some (.int l2), some (.int l3), some (.int l4)] [] w := by
  unfold hX8_placeOf_6 at h0
  refine wp_iload dX8_placeOf_6 rfl ?_
  refine wp_aload_n dX8_placeOf_8 rfl ?_
  obtain ⟨x1, e3, h2⟩ := Option.bind_eq_some_iff.mp h0
  clear h0
  refine wp_getR okX8 (k := 7) (by decide) tw712 dX8_placeOf_9 e3 ?_
  refine wp_iload_n dX8_placeOf_12 rfl ?_
  refine wp_bipush (v := (14 : Int32)) dX8_placeOf_13 (by decide) ?_
  refine wp_iadd dX8_placeOf_15 ?_
  obtain ⟨x4, e6, h5⟩ := Option.bind_eq_some_iff.mp h2
  clear h2
  refine wp_iald dX8_placeOf_16 e6 ?_
  refine wp_icmp_ge (tgt := 49) dX8_placeOf_17 (by decide) (fun c7 => ?_) (fun c7 => ?_)
  · rw [if_pos c7] at h5
    refine wp_iload_n dX8_placeOf_49 rfl ?_
    cases h5
    exact wp_iret rfl dX8_placeOf_50
  · rw [if_neg c7] at h5
    refine wp_aload_n dX8_placeOf_20 rfl ?_
    obtain ⟨x8, e10, h9⟩ := Option.bind_eq_some_iff.mp h5
    clear h5
    refine wp_getR okX8 (k := 7) (by decide) tw712 dX8_placeOf_21 e10 ?_
    refine wp_iload_n dX8_placeOf_24 rfl ?_
    refine wp_bipush (v := (6 : Int32)) dX8_placeOf_25 (by decide) ?_
    refine wp_iadd dX8_placeOf_27 ?_
    refine wp_iload dX8_placeOf_28 rfl ?_
    refine wp_iadd dX8_placeOf_30 ?_
    obtain ⟨x11, e13, h12⟩ := Option.bind_eq_some_iff.mp h9
    clear h9
    refine wp_iald dX8_placeOf_31 e13 ?_
    refine wp_iload_n dX8_placeOf_32 rfl ?_
    refine wp_icmp_ne (tgt := 41) dX8_placeOf_33 (by decide) (fun c14 => ?_) (fun c14 => ?_)
    · rw [if_neg c14] at h12
      refine wp_iload_n dX8_placeOf_41 rfl ?_
      exact WP.wk (BX8_placeOf_42 hk0 h12) (And.intro rfl (And.intro rfl (And.intro rfl (And.intro rfl trivial))))
    · rw [if_pos c14] at h12
      refine wp_iload dX8_placeOf_36 rfl ?_
      refine wp_goto (tgt := 42) dX8_placeOf_38 (by decide) ?_
      exact WP.wk (BX8_placeOf_42 hk0 h12) (And.intro rfl (And.intro rfl (And.intro rfl (And.intro rfl trivial))))
def eX8_placeOf (k : KTX8_placeOf) (w : XW) (l0 : Nat) (l1 : Int32) (l2 : Int32) : Option (Int32 × XW) :=
  k w l0 l1 l2 (-4 : Int32) (0 : Int32)
theorem EX8_placeOf {K : CX} {l : Launch} {n0 k0 : Nat} {k : KTX8_placeOf} (hk0 : ∀ (w : XW) (l0 : Nat) (l1 : Int32) (l2 : Int32) (l3 : Int32) (l4 : Int32) (q : Int32 × XW), k w l0 l1 l2 l3 l4 = some q → WP K l mX8_placeOf 1 20 n0 k0 (some (.int q.1)) q.2 6 [some (.ref l0), some (.int l1), some (.int l2), some (.int l3), some (.int l4)] [] w) {w : XW} {l0 : Nat} {l1 : Int32} {l2 : Int32} {q : Int32 × XW} (h0 : eX8_placeOf k w l0 l1 l2 = some q) : WP K l mX8_placeOf 1 20 n0 k0 (some (.int q.1)) q.2 0 [some (.ref l0), some (.int l1), some (.int l2), none, none] [] w := by
  unfold eX8_placeOf at h0
  refine wp_bipush (v := (-4 : Int32)) dX8_placeOf_0 (by decide) ?_
  refine wp_istore_n (L1 := [some (.ref l0), some (.int l1), some (.int l2), some (.int (-4 : Int32)), none]) dX8_placeOf_2 (Nat.le_of_ble_eq_true rfl) rfl ?_
  refine wp_iconst (v := (0 : Int32)) dX8_placeOf_3 (by decide) ?_
  refine wp_istore (L1 := [some (.ref l0), some (.int l1), some (.int l2), some (.int (-4 : Int32)), some (.int (0 : Int32))]) dX8_placeOf_4 (Nat.le_of_ble_eq_true rfl) rfl ?_
  exact WP.wk (hk0 _ _ _ _ _ _ _ h0) (And.intro rfl (And.intro rfl (And.intro rfl (And.intro rfl (And.intro rfl trivial)))))
def loX8_placeOf : Nat → KTX8_placeOf
  | 0 => fun _ _ _ _ _ _ => none
  | n + 1 => hX8_placeOf_6 (loX8_placeOf n)
theorem LOX8_placeOf {K : CX} {l : Launch} {n0 k0 : Nat} : ∀ n : Nat, (∀ (w : XW) (l0 : Nat) (l1 : Int32) (l2 : Int32) (l3 : Int32) (l4 : Int32) (q : Int32 × XW), (loX8_placeOf n) w l0 l1 l2 l3 l4 = some q → WP K l mX8_placeOf 1 20 n0 k0 (some (.int q.1)) q.2 6 [some (.ref l0), some (.int l1), some (.int l2), some (.int l3), some (.int l4)] [] w) := by
  intro n
  induction n with
  | zero => exact fun _ _ _ _ _ _ q h => (by cases h)
  | succ n ih => exact fun _ _ _ _ _ _ q h => HX8_placeOf_6 ih h
def fX8_placeOf (w : XW) (l0 : Nat) (l1 : Int32) (l2 : Int32) : Option (Int32 × XW) := if isO w l0 8 = true then eX8_placeOf (loX8_placeOf FU) w l0 l1 l2 else none
theorem OX8_placeOf {w : XW} {l0 : Nat} {l1 : Int32} {l2 : Int32} {q : Int32 × XW} (h : fX8_placeOf w l0 l1 l2 = some q) : isO w l0 8 = true := Decidable.byContradiction fun z => by unfold fX8_placeOf at h; rw [if_neg z] at h; cases h
theorem MX8_placeOf {K : CX} {l : Launch} {w : XW} {l0 : Nat} {l1 : Int32} {l2 : Int32} {q : Int32 × XW} (h : fX8_placeOf w l0 l1 l2 = some q) : MT K l mX8_placeOf 1 20 [.ref l0, .int l1, .int l2] w (some (.int q.1)) q.2 := by
  have z := OX8_placeOf h
  unfold fX8_placeOf at h
  rw [if_pos z] at h
  exact MT.of (by decide) (Nat.le_of_ble_eq_true rfl) rfl (EX8_placeOf (LOX8_placeOf FU) h)
/-! FractionRunModel.has(II)Z: frames 1, words 20 -/
abbrev mX8_has : MR := (⟨"FractionRunModel", "has", "(II)Z"⟩, prog_10_method_3_code, 2, (some .boolean))
theorem dX8_has_0 : decode prog_10_method_3_code 0 = .ok (.iload_n 0, 1) := by decide +kernel
theorem dX8_has_1 : decode prog_10_method_3_code 1 = .ok (.iload_n 1, 1) := by decide +kernel
theorem dX8_has_2 : decode prog_10_method_3_code 2 = .ok (.ishr, 1) := by decide +kernel
theorem dX8_has_3 : decode prog_10_method_3_code 3 = .ok (.iconst 1, 1) := by decide +kernel
theorem dX8_has_4 : decode prog_10_method_3_code 4 = .ok (.iand, 1) := by decide +kernel
theorem dX8_has_5 : decode prog_10_method_3_code 5 = .ok (.iconst 1, 1) := by decide +kernel
theorem dX8_has_6 : decode prog_10_method_3_code 6 = .ok (.if_icmp .ne 7, 3) := by decide +kernel
theorem dX8_has_9 : decode prog_10_method_3_code 9 = .ok (.iconst 1, 1) := by decide +kernel
theorem dX8_has_10 : decode prog_10_method_3_code 10 = .ok (.goto 4, 3) := by decide +kernel
theorem dX8_has_13 : decode prog_10_method_3_code 13 = .ok (.iconst 0, 1) := by decide +kernel
theorem dX8_has_14 : decode prog_10_method_3_code 14 = .ok (.ireturn, 1) := by decide +kernel
theorem okM_X8_has : okM mX8_has 2 := ⟨tw852, tw15, by decide, by decide, by decide +kernel⟩
def bX8_has_14 (w : XW) (s0 : Int32) : Option (Int32 × XW) :=
  if s0 &&& 1 = s0 then some (s0, w) else none
theorem BX8_has_14 {K : CX} {l : Launch} {n0 k0 : Nat} {w : XW} {s0 : Int32} {q : Int32 × XW} (h0 : bX8_has_14 w s0 = some q) : WP K l mX8_has 1 20 n0 k0 (some (.int q.1)) q.2 14 [none, none] [.int s0] w := by
  unfold bX8_has_14 at h0
  have c1 : s0 &&& 1 = s0 := Decidable.byContradiction fun z => by rw [if_neg z] at h0; cases h0
  rw [if_pos c1] at h0
  cases h0
  exact wp_zret rfl (zb_n c1) dX8_has_14
def eX8_has (w : XW) (l0 : Int32) (l1 : Int32) : Option (Int32 × XW) :=
  if ((l0 >>> (l1 &&& 31)) &&& (1 : Int32)) = (1 : Int32) then
  bX8_has_14 w (1 : Int32)
  else
  bX8_has_14 w (0 : Int32)
theorem EX8_has {K : CX} {l : Launch} {n0 k0 : Nat} {w : XW} {l0 : Int32} {l1 : Int32} {q : Int32 × XW} (h0 : eX8_has w l0 l1 = some q) : WP K l mX8_has 1 20 n0 k0 (some (.int q.1)) q.2 0 [some (.int l0), some (.int l1)] [] w := by
  unfold eX8_has at h0
  refine wp_iload_n dX8_has_0 rfl ?_
  refine wp_iload_n dX8_has_1 rfl ?_
  refine wp_ishr dX8_has_2 ?_
  refine wp_iconst (v := (1 : Int32)) dX8_has_3 (by decide) ?_
  refine wp_iand dX8_has_4 ?_
  refine wp_iconst (v := (1 : Int32)) dX8_has_5 (by decide) ?_
  refine wp_icmp_ne (tgt := 13) dX8_has_6 (by decide) (fun c1 => ?_) (fun c1 => ?_)
  · rw [if_neg c1] at h0
    refine wp_iconst (v := (0 : Int32)) dX8_has_13 (by decide) ?_
    exact WP.wk (BX8_has_14 h0) trivial
  · rw [if_pos c1] at h0
    refine wp_iconst (v := (1 : Int32)) dX8_has_9 (by decide) ?_
    refine wp_goto (tgt := 14) dX8_has_10 (by decide) ?_
    exact WP.wk (BX8_has_14 h0) trivial
def fX8_has (w : XW) (l0 : Int32) (l1 : Int32) : Option (Int32 × XW) := eX8_has w l0 l1
theorem MX8_has {K : CX} {l : Launch} {w : XW} {l0 : Int32} {l1 : Int32} {q : Int32 × XW} (h : fX8_has w l0 l1 = some q) : MT K l mX8_has 1 20 [.int l0, .int l1] w (some (.int q.1)) q.2 := by
  unfold fX8_has at h
  exact MT.of (by decide) (Nat.le_of_ble_eq_true rfl) rfl (EX8_has h)
/-! FractionRunModel.fits(II)Z: frames 2, words 45 -/
abbrev mX8_fits : MR := (⟨"FractionRunModel", "fits", "(II)Z"⟩, prog_10_method_20_code, 5, (some .boolean))
theorem dX8_fits_0 : decode prog_10_method_20_code 0 = .ok (.iconst 1, 1) := by decide +kernel
theorem dX8_fits_1 : decode prog_10_method_20_code 1 = .ok (.istore_n 3, 1) := by decide +kernel
theorem dX8_fits_2 : decode prog_10_method_20_code 2 = .ok (.iconst 0, 1) := by decide +kernel
theorem dX8_fits_3 : decode prog_10_method_20_code 3 = .ok (.istore 4, 2) := by decide +kernel
theorem dX8_fits_5 : decode prog_10_method_20_code 5 = .ok (.iload 4, 2) := by decide +kernel
theorem dX8_fits_7 : decode prog_10_method_20_code 7 = .ok (.bipush 6, 2) := by decide +kernel
theorem dX8_fits_9 : decode prog_10_method_20_code 9 = .ok (.if_icmp .ge 52, 3) := by decide +kernel
theorem dX8_fits_12 : decode prog_10_method_20_code 12 = .ok (.iload_n 3, 1) := by decide +kernel
theorem dX8_fits_13 : decode prog_10_method_20_code 13 = .ok (.ifCond .eq 40, 3) := by decide +kernel
theorem dX8_fits_16 : decode prog_10_method_20_code 16 = .ok (.aload_n 0, 1) := by decide +kernel
theorem dX8_fits_17 : decode prog_10_method_20_code 17 = .ok (.getfield 25, 3) := by decide +kernel
theorem dX8_fits_20 : decode prog_10_method_20_code 20 = .ok (.iload_n 1, 1) := by decide +kernel
theorem dX8_fits_21 : decode prog_10_method_20_code 21 = .ok (.iload 4, 2) := by decide +kernel
theorem dX8_fits_23 : decode prog_10_method_20_code 23 = .ok (.iadd, 1) := by decide +kernel
theorem dX8_fits_24 : decode prog_10_method_20_code 24 = .ok (.iaload, 1) := by decide +kernel
theorem dX8_fits_25 : decode prog_10_method_20_code 25 = .ok (.aload_n 0, 1) := by decide +kernel
theorem dX8_fits_26 : decode prog_10_method_20_code 26 = .ok (.getfield 13, 3) := by decide +kernel
theorem dX8_fits_29 : decode prog_10_method_20_code 29 = .ok (.bipush 6, 2) := by decide +kernel
theorem dX8_fits_31 : decode prog_10_method_20_code 31 = .ok (.iload_n 2, 1) := by decide +kernel
theorem dX8_fits_32 : decode prog_10_method_20_code 32 = .ok (.imul, 1) := by decide +kernel
theorem dX8_fits_33 : decode prog_10_method_20_code 33 = .ok (.iload 4, 2) := by decide +kernel
theorem dX8_fits_35 : decode prog_10_method_20_code 35 = .ok (.iadd, 1) := by decide +kernel
theorem dX8_fits_36 : decode prog_10_method_20_code 36 = .ok (.iaload, 1) := by decide +kernel
theorem dX8_fits_37 : decode prog_10_method_20_code 37 = .ok (.iadd, 1) := by decide +kernel
theorem dX8_fits_38 : decode prog_10_method_20_code 38 = .ok (.i2l, 1) := by decide +kernel
theorem dX8_fits_39 : decode prog_10_method_20_code 39 = .ok (.lconst 0, 1) := by decide +kernel
theorem dX8_fits_40 : decode prog_10_method_20_code 40 = .ok (.ldc2_w 133, 3) := by decide +kernel
theorem dX8_fits_43 : decode prog_10_method_20_code 43 = .ok (.invokestatic 88, 3) := by decide +kernel
theorem dX8_fits_46 : decode prog_10_method_20_code 46 = .ok (.ifCond .eq 7, 3) := by decide +kernel
theorem dX8_fits_49 : decode prog_10_method_20_code 49 = .ok (.iconst 1, 1) := by decide +kernel
theorem dX8_fits_50 : decode prog_10_method_20_code 50 = .ok (.goto 4, 3) := by decide +kernel
theorem dX8_fits_53 : decode prog_10_method_20_code 53 = .ok (.iconst 0, 1) := by decide +kernel
theorem dX8_fits_54 : decode prog_10_method_20_code 54 = .ok (.istore_n 3, 1) := by decide +kernel
theorem dX8_fits_55 : decode prog_10_method_20_code 55 = .ok (.iinc 4 1, 3) := by decide +kernel
theorem dX8_fits_58 : decode prog_10_method_20_code 58 = .ok (.goto (-53), 3) := by decide +kernel
theorem dX8_fits_61 : decode prog_10_method_20_code 61 = .ok (.iload_n 3, 1) := by decide +kernel
theorem dX8_fits_62 : decode prog_10_method_20_code 62 = .ok (.ireturn, 1) := by decide +kernel
theorem okM_X8_fits : okM mX8_fits 2 := ⟨tw856, tw15, by decide, by decide, by decide +kernel⟩
abbrev KTX8_fits : Type := (XW → Nat → Int32 → Int32 → Int32 → Int32 → Option (Int32 × XW))
def bX8_fits_54 (k : KTX8_fits) (w : XW) (l0 : Nat) (l1 : Int32) (l2 : Int32) (l4 : Int32) (s0 : Int32) : Option (Int32 × XW) :=
  k w l0 l1 l2 s0 (l4 + (1 : Int32))
theorem BX8_fits_54 {K : CX} {l : Launch} {n0 k0 : Nat} {k : KTX8_fits} (hk0 : ∀ (w : XW) (l0 : Nat) (l1 : Int32) (l2 : Int32) (l3 : Int32) (l4 : Int32) (q : Int32 × XW), k w l0 l1 l2 l3 l4 = some q → WP K l mX8_fits 2 45 n0 k0 (some (.int q.1)) q.2 5 [some (.ref l0), some (.int l1), some (.int l2), some (.int l3), some (.int l4)] [] w) {w : XW} {l0 : Nat} {l1 : Int32} {l2 : Int32} {l4 : Int32} {s0 : Int32} {q : Int32 × XW} (h0 : bX8_fits_54 k w l0 l1 l2 l4 s0 = some q) : WP K l mX8_fits 2 45 n0 k0 (some (.int q.1)) q.2 54 [some (.ref l0), some (.int l1), some (.int l2), none, some (.int l4)] [.int s0] w := by
  unfold bX8_fits_54 at h0
  refine wp_istore_n (L1 := [some (.ref l0), some (.int l1), some (.int l2), some (.int s0), some (.int l4)]) dX8_fits_54 (Nat.le_of_ble_eq_true rfl) rfl ?_
  refine wp_iinc (v := (l4 + (1 : Int32))) (L1 := [some (.ref l0), some (.int l1), some (.int l2), some (.int s0), some (.int (l4 + (1 : Int32)))]) dX8_fits_55 (Nat.le_of_ble_eq_true rfl) rfl (congrArg (fun z => l4 + z) (by decide)) rfl ?_
  refine wp_goto (tgt := 5) dX8_fits_58 (by decide) ?_
  exact WP.wk (hk0 _ _ _ _ _ _ _ h0) (And.intro rfl (And.intro rfl (And.intro rfl (And.intro rfl (And.intro rfl trivial)))))
def bX8_fits_53 (k : KTX8_fits) (w : XW) (l0 : Nat) (l1 : Int32) (l2 : Int32) (l4 : Int32) : Option (Int32 × XW) :=
  bX8_fits_54 k w l0 l1 l2 l4 (0 : Int32)
theorem BX8_fits_53 {K : CX} {l : Launch} {n0 k0 : Nat} {k : KTX8_fits} (hk0 : ∀ (w : XW) (l0 : Nat) (l1 : Int32) (l2 : Int32) (l3 : Int32) (l4 : Int32) (q : Int32 × XW), k w l0 l1 l2 l3 l4 = some q → WP K l mX8_fits 2 45 n0 k0 (some (.int q.1)) q.2 5 [some (.ref l0), some (.int l1), some (.int l2), some (.int l3), some (.int l4)] [] w) {w : XW} {l0 : Nat} {l1 : Int32} {l2 : Int32} {l4 : Int32} {q : Int32 × XW} (h0 : bX8_fits_53 k w l0 l1 l2 l4 = some q) : WP K l mX8_fits 2 45 n0 k0 (some (.int q.1)) q.2 53 [some (.ref l0), some (.int l1), some (.int l2), none, some (.int l4)] [] w := by
  unfold bX8_fits_53 at h0
  refine wp_iconst (v := (0 : Int32)) dX8_fits_53 (by decide) ?_
  exact WP.wk (BX8_fits_54 hk0 h0) (And.intro rfl (And.intro rfl (And.intro rfl (And.intro rfl trivial))))
def hX8_fits_5 (k : KTX8_fits) (w : XW) (l0 : Nat) (l1 : Int32) (l2 : Int32) (l3 : Int32) (l4 : Int32) : Option (Int32 × XW) :=
  if (6 : Int32) ≤ l4 then
  if l3 &&& 1 = l3 then some (l3, w) else none
  else
  if l3 = 0 then
  bX8_fits_53 k w l0 l1 l2 l4
  else
  (gR w l0 8 7).bind fun x4 =>
  (aI w 0 x4 (l1 + l4)).bind fun x7 =>
  (gR w l0 8 2).bind fun x10 =>
  (aI w 0 x10 (((6 : Int32) * l2) + l4)).bind fun x13 =>
  (fX8_in w ((x7 + x13).toInt64) (0 : Int64) (999 : Int64)).bind fun q16 =>
  if q16.1 = 0 then
  bX8_fits_53 k q16.2 l0 l1 l2 l4
  else
  bX8_fits_54 k q16.2 l0 l1 l2 l4 (1 : Int32)
theorem HX8_fits_5 {K : CX} {l : Launch} {n0 k0 : Nat} {k : KTX8_fits} (hk0 : ∀ (w : XW) (l0 : Nat) (l1 : Int32) (l2 : Int32) (l3 : Int32) (l4 : Int32) (q : Int32 × XW), k w l0 l1 l2 l3 l4 = some q → WP K l mX8_fits 2 45 n0 k0 (some (.int q.1)) q.2 5 [some (.ref l0), some (.int l1), some (.int l2), some (.int l3), some (.int l4)] [] w) {w : XW} {l0 : Nat} {l1 : Int32} {l2 : Int32} {l3 : Int32} {l4 : Int32} {q : Int32 × XW} (h0 : hX8_fits_5 k w l0 l1 l2 l3 l4 = some q) : WP K l mX8_fits 2 45 n0 k0 (some (.int q.1)) q.2 5 [some (.ref l0), some (.int l1), some (.int l2), some (.int l3), some (.int l4)] [] w := by
  unfold hX8_fits_5 at h0
  refine wp_iload dX8_fits_5 rfl ?_
  refine wp_bipush (v := (6 : Int32)) dX8_fits_7 (by decide) ?_
  refine wp_icmp_ge (tgt := 61) dX8_fits_9 (by decide) (fun c1 => ?_) (fun c1 => ?_)
  · rw [if_pos c1] at h0
    refine wp_iload_n dX8_fits_61 rfl ?_
    have c2 : l3 &&& 1 = l3 := Decidable.byContradiction fun z => by rw [if_neg z] at h0; cases h0
    rw [if_pos c2] at h0
    cases h0
    exact wp_zret rfl (zb_n c2) dX8_fits_62
  · rw [if_neg c1] at h0
    refine wp_iload_n dX8_fits_12 rfl ?_
    refine wp_if_eq (tgt := 53) dX8_fits_13 (by decide) (fun c3 => ?_) (fun c3 => ?_)
    · rw [if_pos c3] at h0
      exact WP.wk (BX8_fits_53 hk0 h0) (And.intro rfl (And.intro rfl (And.intro rfl (And.intro rfl trivial))))
    · rw [if_neg c3] at h0
      refine wp_aload_n dX8_fits_16 rfl ?_
      obtain ⟨x4, e6, h5⟩ := Option.bind_eq_some_iff.mp h0
      clear h0
      refine wp_getR okX8 (k := 7) (by decide) tw712 dX8_fits_17 e6 ?_
      refine wp_iload_n dX8_fits_20 rfl ?_
      refine wp_iload dX8_fits_21 rfl ?_
      refine wp_iadd dX8_fits_23 ?_
      obtain ⟨x7, e9, h8⟩ := Option.bind_eq_some_iff.mp h5
      clear h5
      refine wp_iald dX8_fits_24 e9 ?_
      refine wp_aload_n dX8_fits_25 rfl ?_
      obtain ⟨x10, e12, h11⟩ := Option.bind_eq_some_iff.mp h8
      clear h8
      refine wp_getR okX8 (k := 2) (by decide) tw707 dX8_fits_26 e12 ?_
      refine wp_bipush (v := (6 : Int32)) dX8_fits_29 (by decide) ?_
      refine wp_iload_n dX8_fits_31 rfl ?_
      refine wp_imul dX8_fits_32 ?_
      refine wp_iload dX8_fits_33 rfl ?_
      refine wp_iadd dX8_fits_35 ?_
      obtain ⟨x13, e15, h14⟩ := Option.bind_eq_some_iff.mp h11
      clear h11
      refine wp_iald dX8_fits_36 e15 ?_
      refine wp_iadd dX8_fits_37 ?_
      refine wp_i2l dX8_fits_38 ?_
      refine wp_lconst (v := (0 : Int64)) dX8_fits_39 (by decide) ?_
      refine wp_ldc2 tw857 dX8_fits_40 ?_
      obtain ⟨q16, e18, h17⟩ := Option.bind_eq_some_iff.mp h14
      clear h14
      refine wp_Si (As := [.long ((x7 + x13).toInt64), .long (0 : Int64), .long (999 : Int64)]) (S := []) okM_X8_in tw785 tw784 rfl ⟨(Nat.le_of_ble_eq_true rfl), (Nat.le_of_ble_eq_true rfl)⟩ (Nat.le_of_ble_eq_true rfl) rfl dX8_fits_43 (MX8_in e18) ?_
      refine wp_if_eq (tgt := 53) dX8_fits_46 (by decide) (fun c19 => ?_) (fun c19 => ?_)
      · rw [if_pos c19] at h17
        exact WP.wk (BX8_fits_53 hk0 h17) (And.intro rfl (And.intro rfl (And.intro rfl (And.intro rfl trivial))))
      · rw [if_neg c19] at h17
        refine wp_iconst (v := (1 : Int32)) dX8_fits_49 (by decide) ?_
        refine wp_goto (tgt := 54) dX8_fits_50 (by decide) ?_
        exact WP.wk (BX8_fits_54 hk0 h17) (And.intro rfl (And.intro rfl (And.intro rfl (And.intro rfl trivial))))
def eX8_fits (k : KTX8_fits) (w : XW) (l0 : Nat) (l1 : Int32) (l2 : Int32) : Option (Int32 × XW) :=
  k w l0 l1 l2 (1 : Int32) (0 : Int32)
theorem EX8_fits {K : CX} {l : Launch} {n0 k0 : Nat} {k : KTX8_fits} (hk0 : ∀ (w : XW) (l0 : Nat) (l1 : Int32) (l2 : Int32) (l3 : Int32) (l4 : Int32) (q : Int32 × XW), k w l0 l1 l2 l3 l4 = some q → WP K l mX8_fits 2 45 n0 k0 (some (.int q.1)) q.2 5 [some (.ref l0), some (.int l1), some (.int l2), some (.int l3), some (.int l4)] [] w) {w : XW} {l0 : Nat} {l1 : Int32} {l2 : Int32} {q : Int32 × XW} (h0 : eX8_fits k w l0 l1 l2 = some q) : WP K l mX8_fits 2 45 n0 k0 (some (.int q.1)) q.2 0 [some (.ref l0), some (.int l1), some (.int l2), none, none] [] w := by
  unfold eX8_fits at h0
  refine wp_iconst (v := (1 : Int32)) dX8_fits_0 (by decide) ?_
  refine wp_istore_n (L1 := [some (.ref l0), some (.int l1), some (.int l2), some (.int (1 : Int32)), none]) dX8_fits_1 (Nat.le_of_ble_eq_true rfl) rfl ?_
  refine wp_iconst (v := (0 : Int32)) dX8_fits_2 (by decide) ?_
  refine wp_istore (L1 := [some (.ref l0), some (.int l1), some (.int l2), some (.int (1 : Int32)), some (.int (0 : Int32))]) dX8_fits_3 (Nat.le_of_ble_eq_true rfl) rfl ?_
  exact WP.wk (hk0 _ _ _ _ _ _ _ h0) (And.intro rfl (And.intro rfl (And.intro rfl (And.intro rfl (And.intro rfl trivial)))))
def loX8_fits : Nat → KTX8_fits
  | 0 => fun _ _ _ _ _ _ => none
  | n + 1 => hX8_fits_5 (loX8_fits n)
theorem LOX8_fits {K : CX} {l : Launch} {n0 k0 : Nat} : ∀ n : Nat, (∀ (w : XW) (l0 : Nat) (l1 : Int32) (l2 : Int32) (l3 : Int32) (l4 : Int32) (q : Int32 × XW), (loX8_fits n) w l0 l1 l2 l3 l4 = some q → WP K l mX8_fits 2 45 n0 k0 (some (.int q.1)) q.2 5 [some (.ref l0), some (.int l1), some (.int l2), some (.int l3), some (.int l4)] [] w) := by
  intro n
  induction n with
  | zero => exact fun _ _ _ _ _ _ q h => (by cases h)
  | succ n ih => exact fun _ _ _ _ _ _ q h => HX8_fits_5 ih h
def fX8_fits (w : XW) (l0 : Nat) (l1 : Int32) (l2 : Int32) : Option (Int32 × XW) := if isO w l0 8 = true then eX8_fits (loX8_fits FU) w l0 l1 l2 else none
theorem OX8_fits {w : XW} {l0 : Nat} {l1 : Int32} {l2 : Int32} {q : Int32 × XW} (h : fX8_fits w l0 l1 l2 = some q) : isO w l0 8 = true := Decidable.byContradiction fun z => by unfold fX8_fits at h; rw [if_neg z] at h; cases h
theorem MX8_fits {K : CX} {l : Launch} {w : XW} {l0 : Nat} {l1 : Int32} {l2 : Int32} {q : Int32 × XW} (h : fX8_fits w l0 l1 l2 = some q) : MT K l mX8_fits 2 45 [.ref l0, .int l1, .int l2] w (some (.int q.1)) q.2 := by
  have z := OX8_fits h
  unfold fX8_fits at h
  rw [if_pos z] at h
  exact MT.of (by decide) (Nat.le_of_ble_eq_true rfl) rfl (EX8_fits (LOX8_fits FU) h)
/-! FractionRunModel.can(II)Z: frames 3, words 69 -/
abbrev mX8_can : MR := (⟨"FractionRunModel", "can", "(II)Z"⟩, prog_10_method_21_code, 5, (some .boolean))
theorem dX8_can_0 : decode prog_10_method_21_code 0 = .ok (.aload_n 0, 1) := by decide +kernel
theorem dX8_can_1 : decode prog_10_method_21_code 1 = .ok (.getfield 7, 3) := by decide +kernel
theorem dX8_can_4 : decode prog_10_method_21_code 4 = .ok (.iload_n 2, 1) := by decide +kernel
theorem dX8_can_5 : decode prog_10_method_21_code 5 = .ok (.iaload, 1) := by decide +kernel
theorem dX8_can_6 : decode prog_10_method_21_code 6 = .ok (.iconst 1, 1) := by decide +kernel
theorem dX8_can_7 : decode prog_10_method_21_code 7 = .ok (.if_icmp .ne 23, 3) := by decide +kernel
theorem dX8_can_10 : decode prog_10_method_21_code 10 = .ok (.aload_n 0, 1) := by decide +kernel
theorem dX8_can_11 : decode prog_10_method_21_code 11 = .ok (.getfield 25, 3) := by decide +kernel
theorem dX8_can_14 : decode prog_10_method_21_code 14 = .ok (.iload_n 1, 1) := by decide +kernel
theorem dX8_can_15 : decode prog_10_method_21_code 15 = .ok (.bipush 15, 2) := by decide +kernel
theorem dX8_can_17 : decode prog_10_method_21_code 17 = .ok (.iadd, 1) := by decide +kernel
theorem dX8_can_18 : decode prog_10_method_21_code 18 = .ok (.iaload, 1) := by decide +kernel
theorem dX8_can_19 : decode prog_10_method_21_code 19 = .ok (.iload_n 2, 1) := by decide +kernel
theorem dX8_can_20 : decode prog_10_method_21_code 20 = .ok (.invokestatic 135, 3) := by decide +kernel
theorem dX8_can_23 : decode prog_10_method_21_code 23 = .ok (.ifCond .eq 7, 3) := by decide +kernel
theorem dX8_can_26 : decode prog_10_method_21_code 26 = .ok (.iconst 1, 1) := by decide +kernel
theorem dX8_can_27 : decode prog_10_method_21_code 27 = .ok (.goto 4, 3) := by decide +kernel
theorem dX8_can_30 : decode prog_10_method_21_code 30 = .ok (.iconst 0, 1) := by decide +kernel
theorem dX8_can_31 : decode prog_10_method_21_code 31 = .ok (.istore_n 3, 1) := by decide +kernel
theorem dX8_can_32 : decode prog_10_method_21_code 32 = .ok (.aload_n 0, 1) := by decide +kernel
theorem dX8_can_33 : decode prog_10_method_21_code 33 = .ok (.getfield 7, 3) := by decide +kernel
theorem dX8_can_36 : decode prog_10_method_21_code 36 = .ok (.iload_n 2, 1) := by decide +kernel
theorem dX8_can_37 : decode prog_10_method_21_code 37 = .ok (.iaload, 1) := by decide +kernel
theorem dX8_can_38 : decode prog_10_method_21_code 38 = .ok (.iconst 2, 1) := by decide +kernel
theorem dX8_can_39 : decode prog_10_method_21_code 39 = .ok (.if_icmp .ne 22, 3) := by decide +kernel
theorem dX8_can_42 : decode prog_10_method_21_code 42 = .ok (.aload_n 0, 1) := by decide +kernel
theorem dX8_can_43 : decode prog_10_method_21_code 43 = .ok (.getfield 25, 3) := by decide +kernel
theorem dX8_can_46 : decode prog_10_method_21_code 46 = .ok (.iload_n 1, 1) := by decide +kernel
theorem dX8_can_47 : decode prog_10_method_21_code 47 = .ok (.bipush 16, 2) := by decide +kernel
theorem dX8_can_49 : decode prog_10_method_21_code 49 = .ok (.iadd, 1) := by decide +kernel
theorem dX8_can_50 : decode prog_10_method_21_code 50 = .ok (.iaload, 1) := by decide +kernel
theorem dX8_can_51 : decode prog_10_method_21_code 51 = .ok (.iconst 2, 1) := by decide +kernel
theorem dX8_can_52 : decode prog_10_method_21_code 52 = .ok (.irem, 1) := by decide +kernel
theorem dX8_can_53 : decode prog_10_method_21_code 53 = .ok (.iconst 1, 1) := by decide +kernel
theorem dX8_can_54 : decode prog_10_method_21_code 54 = .ok (.if_icmp .ne 7, 3) := by decide +kernel
theorem dX8_can_57 : decode prog_10_method_21_code 57 = .ok (.iconst 1, 1) := by decide +kernel
theorem dX8_can_58 : decode prog_10_method_21_code 58 = .ok (.goto 4, 3) := by decide +kernel
theorem dX8_can_61 : decode prog_10_method_21_code 61 = .ok (.iconst 0, 1) := by decide +kernel
theorem dX8_can_62 : decode prog_10_method_21_code 62 = .ok (.istore 4, 2) := by decide +kernel
theorem dX8_can_64 : decode prog_10_method_21_code 64 = .ok (.aload_n 0, 1) := by decide +kernel
theorem dX8_can_65 : decode prog_10_method_21_code 65 = .ok (.getfield 25, 3) := by decide +kernel
theorem dX8_can_68 : decode prog_10_method_21_code 68 = .ok (.iload_n 1, 1) := by decide +kernel
theorem dX8_can_69 : decode prog_10_method_21_code 69 = .ok (.bipush 17, 2) := by decide +kernel
theorem dX8_can_71 : decode prog_10_method_21_code 71 = .ok (.iadd, 1) := by decide +kernel
theorem dX8_can_72 : decode prog_10_method_21_code 72 = .ok (.iaload, 1) := by decide +kernel
theorem dX8_can_73 : decode prog_10_method_21_code 73 = .ok (.ifCond .ne 25, 3) := by decide +kernel
theorem dX8_can_76 : decode prog_10_method_21_code 76 = .ok (.iload_n 3, 1) := by decide +kernel
theorem dX8_can_77 : decode prog_10_method_21_code 77 = .ok (.ifCond .ne 21, 3) := by decide +kernel
theorem dX8_can_80 : decode prog_10_method_21_code 80 = .ok (.iload 4, 2) := by decide +kernel
theorem dX8_can_82 : decode prog_10_method_21_code 82 = .ok (.ifCond .ne 16, 3) := by decide +kernel
theorem dX8_can_85 : decode prog_10_method_21_code 85 = .ok (.aload_n 0, 1) := by decide +kernel
theorem dX8_can_86 : decode prog_10_method_21_code 86 = .ok (.iload_n 1, 1) := by decide +kernel
theorem dX8_can_87 : decode prog_10_method_21_code 87 = .ok (.iload_n 2, 1) := by decide +kernel
theorem dX8_can_88 : decode prog_10_method_21_code 88 = .ok (.invokevirtual 139, 3) := by decide +kernel
theorem dX8_can_91 : decode prog_10_method_21_code 91 = .ok (.ifCond .eq 7, 3) := by decide +kernel
theorem dX8_can_94 : decode prog_10_method_21_code 94 = .ok (.iconst 1, 1) := by decide +kernel
theorem dX8_can_95 : decode prog_10_method_21_code 95 = .ok (.goto 4, 3) := by decide +kernel
theorem dX8_can_98 : decode prog_10_method_21_code 98 = .ok (.iconst 0, 1) := by decide +kernel
theorem dX8_can_99 : decode prog_10_method_21_code 99 = .ok (.ireturn, 1) := by decide +kernel
theorem okM_X8_can : okM mX8_can 2 := ⟨tw849, tw15, by decide, by decide, by decide +kernel⟩
def bX8_can_99 (w : XW) (s0 : Int32) : Option (Int32 × XW) :=
  if s0 &&& 1 = s0 then some (s0, w) else none
theorem BX8_can_99 {K : CX} {l : Launch} {n0 k0 : Nat} {w : XW} {s0 : Int32} {q : Int32 × XW} (h0 : bX8_can_99 w s0 = some q) : WP K l mX8_can 3 69 n0 k0 (some (.int q.1)) q.2 99 [none, none, none, none, none] [.int s0] w := by
  unfold bX8_can_99 at h0
  have c1 : s0 &&& 1 = s0 := Decidable.byContradiction fun z => by rw [if_neg z] at h0; cases h0
  rw [if_pos c1] at h0
  cases h0
  exact wp_zret rfl (zb_n c1) dX8_can_99
def bX8_can_98 (w : XW) : Option (Int32 × XW) :=
  bX8_can_99 w (0 : Int32)
theorem BX8_can_98 {K : CX} {l : Launch} {n0 k0 : Nat} {w : XW} {q : Int32 × XW} (h0 : bX8_can_98 w = some q) : WP K l mX8_can 3 69 n0 k0 (some (.int q.1)) q.2 98 [none, none, none, none, none] [] w := by
  unfold bX8_can_98 at h0
  refine wp_iconst (v := (0 : Int32)) dX8_can_98 (by decide) ?_
  exact WP.wk (BX8_can_99 h0) trivial
def bX8_can_62 (w : XW) (l0 : Nat) (l1 : Int32) (l2 : Int32) (l3 : Int32) (s0 : Int32) : Option (Int32 × XW) :=
  (gR w l0 8 7).bind fun x1 =>
  (aI w 0 x1 (l1 + (17 : Int32))).bind fun x4 =>
  if x4 = 0 then
  if l3 = 0 then
  if s0 = 0 then
  (fX8_fits w l0 l1 l2).bind fun q10 =>
  if q10.1 = 0 then
  bX8_can_98 q10.2
  else
  bX8_can_99 q10.2 (1 : Int32)
  else
  bX8_can_98 w
  else
  bX8_can_98 w
  else
  bX8_can_98 w
theorem BX8_can_62 {K : CX} {l : Launch} {n0 k0 : Nat} {w : XW} {l0 : Nat} {l1 : Int32} {l2 : Int32} {l3 : Int32} {s0 : Int32} {q : Int32 × XW} (h0 : bX8_can_62 w l0 l1 l2 l3 s0 = some q) : WP K l mX8_can 3 69 n0 k0 (some (.int q.1)) q.2 62 [some (.ref l0), some (.int l1), some (.int l2), some (.int l3), none] [.int s0] w := by
  unfold bX8_can_62 at h0
  refine wp_istore (L1 := [some (.ref l0), some (.int l1), some (.int l2), some (.int l3), some (.int s0)]) dX8_can_62 (Nat.le_of_ble_eq_true rfl) rfl ?_
  refine wp_aload_n dX8_can_64 rfl ?_
  obtain ⟨x1, e3, h2⟩ := Option.bind_eq_some_iff.mp h0
  clear h0
  refine wp_getR okX8 (k := 7) (by decide) tw712 dX8_can_65 e3 ?_
  refine wp_iload_n dX8_can_68 rfl ?_
  refine wp_bipush (v := (17 : Int32)) dX8_can_69 (by decide) ?_
  refine wp_iadd dX8_can_71 ?_
  obtain ⟨x4, e6, h5⟩ := Option.bind_eq_some_iff.mp h2
  clear h2
  refine wp_iald dX8_can_72 e6 ?_
  refine wp_if_ne (tgt := 98) dX8_can_73 (by decide) (fun c7 => ?_) (fun c7 => ?_)
  · rw [if_neg c7] at h5
    exact WP.wk (BX8_can_98 h5) trivial
  · rw [if_pos c7] at h5
    refine wp_iload_n dX8_can_76 rfl ?_
    refine wp_if_ne (tgt := 98) dX8_can_77 (by decide) (fun c8 => ?_) (fun c8 => ?_)
    · rw [if_neg c8] at h5
      exact WP.wk (BX8_can_98 h5) trivial
    · rw [if_pos c8] at h5
      refine wp_iload dX8_can_80 rfl ?_
      refine wp_if_ne (tgt := 98) dX8_can_82 (by decide) (fun c9 => ?_) (fun c9 => ?_)
      · rw [if_neg c9] at h5
        exact WP.wk (BX8_can_98 h5) trivial
      · rw [if_pos c9] at h5
        refine wp_aload_n dX8_can_85 rfl ?_
        refine wp_iload_n dX8_can_86 rfl ?_
        refine wp_iload_n dX8_can_87 rfl ?_
        obtain ⟨q10, e12, h11⟩ := Option.bind_eq_some_iff.mp h5
        clear h5
        refine wp_Vi (As := [.int l1, .int l2]) (S := []) okM_X8_fits tw855 twP_X8_fits tw853 (OX8_fits e12) rfl rfl rfl ⟨(Nat.le_of_ble_eq_true rfl), (Nat.le_of_ble_eq_true rfl)⟩ (Nat.le_of_ble_eq_true rfl) rfl dX8_can_88 (MX8_fits e12) ?_
        refine wp_if_eq (tgt := 98) dX8_can_91 (by decide) (fun c13 => ?_) (fun c13 => ?_)
        · rw [if_pos c13] at h11
          exact WP.wk (BX8_can_98 h11) trivial
        · rw [if_neg c13] at h11
          refine wp_iconst (v := (1 : Int32)) dX8_can_94 (by decide) ?_
          refine wp_goto (tgt := 99) dX8_can_95 (by decide) ?_
          exact WP.wk (BX8_can_99 h11) trivial
def bX8_can_61 (w : XW) (l0 : Nat) (l1 : Int32) (l2 : Int32) (l3 : Int32) : Option (Int32 × XW) :=
  bX8_can_62 w l0 l1 l2 l3 (0 : Int32)
theorem BX8_can_61 {K : CX} {l : Launch} {n0 k0 : Nat} {w : XW} {l0 : Nat} {l1 : Int32} {l2 : Int32} {l3 : Int32} {q : Int32 × XW} (h0 : bX8_can_61 w l0 l1 l2 l3 = some q) : WP K l mX8_can 3 69 n0 k0 (some (.int q.1)) q.2 61 [some (.ref l0), some (.int l1), some (.int l2), some (.int l3), none] [] w := by
  unfold bX8_can_61 at h0
  refine wp_iconst (v := (0 : Int32)) dX8_can_61 (by decide) ?_
  exact WP.wk (BX8_can_62 h0) (And.intro rfl (And.intro rfl (And.intro rfl (And.intro rfl trivial))))
def bX8_can_31 (w : XW) (l0 : Nat) (l1 : Int32) (l2 : Int32) (s0 : Int32) : Option (Int32 × XW) :=
  (gR w l0 8 1).bind fun x1 =>
  (aI w 0 x1 l2).bind fun x4 =>
  if x4 = (2 : Int32) then
  (gR w l0 8 7).bind fun x8 =>
  (aI w 0 x8 (l1 + (16 : Int32))).bind fun x11 =>
  if (irm x11 (2 : Int32)) = (1 : Int32) then
  bX8_can_62 w l0 l1 l2 s0 (1 : Int32)
  else
  bX8_can_61 w l0 l1 l2 s0
  else
  bX8_can_61 w l0 l1 l2 s0
theorem BX8_can_31 {K : CX} {l : Launch} {n0 k0 : Nat} {w : XW} {l0 : Nat} {l1 : Int32} {l2 : Int32} {s0 : Int32} {q : Int32 × XW} (h0 : bX8_can_31 w l0 l1 l2 s0 = some q) : WP K l mX8_can 3 69 n0 k0 (some (.int q.1)) q.2 31 [some (.ref l0), some (.int l1), some (.int l2), none, none] [.int s0] w := by
  unfold bX8_can_31 at h0
  refine wp_istore_n (L1 := [some (.ref l0), some (.int l1), some (.int l2), some (.int s0), none]) dX8_can_31 (Nat.le_of_ble_eq_true rfl) rfl ?_
  refine wp_aload_n dX8_can_32 rfl ?_
  obtain ⟨x1, e3, h2⟩ := Option.bind_eq_some_iff.mp h0
  clear h0
  refine wp_getR okX8 (k := 1) (by decide) tw706 dX8_can_33 e3 ?_
  refine wp_iload_n dX8_can_36 rfl ?_
  obtain ⟨x4, e6, h5⟩ := Option.bind_eq_some_iff.mp h2
  clear h2
  refine wp_iald dX8_can_37 e6 ?_
  refine wp_iconst (v := (2 : Int32)) dX8_can_38 (by decide) ?_
  refine wp_icmp_ne (tgt := 61) dX8_can_39 (by decide) (fun c7 => ?_) (fun c7 => ?_)
  · rw [if_neg c7] at h5
    exact WP.wk (BX8_can_61 h5) (And.intro rfl (And.intro rfl (And.intro rfl (And.intro rfl trivial))))
  · rw [if_pos c7] at h5
    refine wp_aload_n dX8_can_42 rfl ?_
    obtain ⟨x8, e10, h9⟩ := Option.bind_eq_some_iff.mp h5
    clear h5
    refine wp_getR okX8 (k := 7) (by decide) tw712 dX8_can_43 e10 ?_
    refine wp_iload_n dX8_can_46 rfl ?_
    refine wp_bipush (v := (16 : Int32)) dX8_can_47 (by decide) ?_
    refine wp_iadd dX8_can_49 ?_
    obtain ⟨x11, e13, h12⟩ := Option.bind_eq_some_iff.mp h9
    clear h9
    refine wp_iald dX8_can_50 e13 ?_
    refine wp_iconst (v := (2 : Int32)) dX8_can_51 (by decide) ?_
    refine wp_irm dX8_can_52 (by decide) ?_
    refine wp_iconst (v := (1 : Int32)) dX8_can_53 (by decide) ?_
    refine wp_icmp_ne (tgt := 61) dX8_can_54 (by decide) (fun c14 => ?_) (fun c14 => ?_)
    · rw [if_neg c14] at h12
      exact WP.wk (BX8_can_61 h12) (And.intro rfl (And.intro rfl (And.intro rfl (And.intro rfl trivial))))
    · rw [if_pos c14] at h12
      refine wp_iconst (v := (1 : Int32)) dX8_can_57 (by decide) ?_
      refine wp_goto (tgt := 62) dX8_can_58 (by decide) ?_
      exact WP.wk (BX8_can_62 h12) (And.intro rfl (And.intro rfl (And.intro rfl (And.intro rfl trivial))))
def bX8_can_30 (w : XW) (l0 : Nat) (l1 : Int32) (l2 : Int32) : Option (Int32 × XW) :=
  bX8_can_31 w l0 l1 l2 (0 : Int32)
theorem BX8_can_30 {K : CX} {l : Launch} {n0 k0 : Nat} {w : XW} {l0 : Nat} {l1 : Int32} {l2 : Int32} {q : Int32 × XW} (h0 : bX8_can_30 w l0 l1 l2 = some q) : WP K l mX8_can 3 69 n0 k0 (some (.int q.1)) q.2 30 [some (.ref l0), some (.int l1), some (.int l2), none, none] [] w := by
  unfold bX8_can_30 at h0
  refine wp_iconst (v := (0 : Int32)) dX8_can_30 (by decide) ?_
  exact WP.wk (BX8_can_31 h0) (And.intro rfl (And.intro rfl (And.intro rfl trivial)))
def eX8_can (w : XW) (l0 : Nat) (l1 : Int32) (l2 : Int32) : Option (Int32 × XW) :=
  (gR w l0 8 1).bind fun x1 =>
  (aI w 0 x1 l2).bind fun x4 =>
  if x4 = (1 : Int32) then
  (gR w l0 8 7).bind fun x8 =>
  (aI w 0 x8 (l1 + (15 : Int32))).bind fun x11 =>
  (fX8_has w x11 l2).bind fun q14 =>
  if q14.1 = 0 then
  bX8_can_30 q14.2 l0 l1 l2
  else
  bX8_can_31 q14.2 l0 l1 l2 (1 : Int32)
  else
  bX8_can_30 w l0 l1 l2
theorem EX8_can {K : CX} {l : Launch} {n0 k0 : Nat} {w : XW} {l0 : Nat} {l1 : Int32} {l2 : Int32} {q : Int32 × XW} (h0 : eX8_can w l0 l1 l2 = some q) : WP K l mX8_can 3 69 n0 k0 (some (.int q.1)) q.2 0 [some (.ref l0), some (.int l1), some (.int l2), none, none] [] w := by
  unfold eX8_can at h0
  refine wp_aload_n dX8_can_0 rfl ?_
  obtain ⟨x1, e3, h2⟩ := Option.bind_eq_some_iff.mp h0
  clear h0
  refine wp_getR okX8 (k := 1) (by decide) tw706 dX8_can_1 e3 ?_
  refine wp_iload_n dX8_can_4 rfl ?_
  obtain ⟨x4, e6, h5⟩ := Option.bind_eq_some_iff.mp h2
  clear h2
  refine wp_iald dX8_can_5 e6 ?_
  refine wp_iconst (v := (1 : Int32)) dX8_can_6 (by decide) ?_
  refine wp_icmp_ne (tgt := 30) dX8_can_7 (by decide) (fun c7 => ?_) (fun c7 => ?_)
  · rw [if_neg c7] at h5
    exact WP.wk (BX8_can_30 h5) (And.intro rfl (And.intro rfl (And.intro rfl trivial)))
  · rw [if_pos c7] at h5
    refine wp_aload_n dX8_can_10 rfl ?_
    obtain ⟨x8, e10, h9⟩ := Option.bind_eq_some_iff.mp h5
    clear h5
    refine wp_getR okX8 (k := 7) (by decide) tw712 dX8_can_11 e10 ?_
    refine wp_iload_n dX8_can_14 rfl ?_
    refine wp_bipush (v := (15 : Int32)) dX8_can_15 (by decide) ?_
    refine wp_iadd dX8_can_17 ?_
    obtain ⟨x11, e13, h12⟩ := Option.bind_eq_some_iff.mp h9
    clear h9
    refine wp_iald dX8_can_18 e13 ?_
    refine wp_iload_n dX8_can_19 rfl ?_
    obtain ⟨q14, e16, h15⟩ := Option.bind_eq_some_iff.mp h12
    clear h12
    refine wp_Si (As := [.int x11, .int l2]) (S := []) okM_X8_has tw851 tw850 rfl ⟨(Nat.le_of_ble_eq_true rfl), (Nat.le_of_ble_eq_true rfl)⟩ (Nat.le_of_ble_eq_true rfl) rfl dX8_can_20 (MX8_has e16) ?_
    refine wp_if_eq (tgt := 30) dX8_can_23 (by decide) (fun c17 => ?_) (fun c17 => ?_)
    · rw [if_pos c17] at h15
      exact WP.wk (BX8_can_30 h15) (And.intro rfl (And.intro rfl (And.intro rfl trivial)))
    · rw [if_neg c17] at h15
      refine wp_iconst (v := (1 : Int32)) dX8_can_26 (by decide) ?_
      refine wp_goto (tgt := 31) dX8_can_27 (by decide) ?_
      exact WP.wk (BX8_can_31 h15) (And.intro rfl (And.intro rfl (And.intro rfl trivial)))
def fX8_can (w : XW) (l0 : Nat) (l1 : Int32) (l2 : Int32) : Option (Int32 × XW) := if isO w l0 8 = true then eX8_can w l0 l1 l2 else none
theorem OX8_can {w : XW} {l0 : Nat} {l1 : Int32} {l2 : Int32} {q : Int32 × XW} (h : fX8_can w l0 l1 l2 = some q) : isO w l0 8 = true := Decidable.byContradiction fun z => by unfold fX8_can at h; rw [if_neg z] at h; cases h
theorem MX8_can {K : CX} {l : Launch} {w : XW} {l0 : Nat} {l1 : Int32} {l2 : Int32} {q : Int32 × XW} (h : fX8_can w l0 l1 l2 = some q) : MT K l mX8_can 3 69 [.ref l0, .int l1, .int l2] w (some (.int q.1)) q.2 := by
  have z := OX8_can h
  unfold fX8_can at h
  rw [if_pos z] at h
  exact MT.of (by decide) (Nat.le_of_ble_eq_true rfl) rfl (EX8_can h)
/-! FractionRunModel.side(IZ)I: frames 2, words 40 -/
abbrev mX8_side : MR := (⟨"FractionRunModel", "side", "(IZ)I"⟩, prog_10_method_29_code, 7, (some .int))
theorem dX8_side_0 : decode prog_10_method_29_code 0 = .ok (.iconst 1, 1) := by decide +kernel
theorem dX8_side_1 : decode prog_10_method_29_code 1 = .ok (.istore_n 3, 1) := by decide +kernel
theorem dX8_side_2 : decode prog_10_method_29_code 2 = .ok (.iconst 0, 1) := by decide +kernel
theorem dX8_side_3 : decode prog_10_method_29_code 3 = .ok (.istore 4, 2) := by decide +kernel
theorem dX8_side_5 : decode prog_10_method_29_code 5 = .ok (.iload 4, 2) := by decide +kernel
theorem dX8_side_7 : decode prog_10_method_29_code 7 = .ok (.bipush 6, 2) := by decide +kernel
theorem dX8_side_9 : decode prog_10_method_29_code 9 = .ok (.if_icmp .ge 67, 3) := by decide +kernel
theorem dX8_side_12 : decode prog_10_method_29_code 12 = .ok (.iload_n 2, 1) := by decide +kernel
theorem dX8_side_13 : decode prog_10_method_29_code 13 = .ok (.ifCond .eq 18, 3) := by decide +kernel
theorem dX8_side_16 : decode prog_10_method_29_code 16 = .ok (.aload_n 0, 1) := by decide +kernel
theorem dX8_side_17 : decode prog_10_method_29_code 17 = .ok (.getfield 13, 3) := by decide +kernel
theorem dX8_side_20 : decode prog_10_method_29_code 20 = .ok (.bipush 6, 2) := by decide +kernel
theorem dX8_side_22 : decode prog_10_method_29_code 22 = .ok (.iload_n 1, 1) := by decide +kernel
theorem dX8_side_23 : decode prog_10_method_29_code 23 = .ok (.imul, 1) := by decide +kernel
theorem dX8_side_24 : decode prog_10_method_29_code 24 = .ok (.iload 4, 2) := by decide +kernel
theorem dX8_side_26 : decode prog_10_method_29_code 26 = .ok (.iadd, 1) := by decide +kernel
theorem dX8_side_27 : decode prog_10_method_29_code 27 = .ok (.iaload, 1) := by decide +kernel
theorem dX8_side_28 : decode prog_10_method_29_code 28 = .ok (.goto 16, 3) := by decide +kernel
theorem dX8_side_31 : decode prog_10_method_29_code 31 = .ok (.aload_n 0, 1) := by decide +kernel
theorem dX8_side_32 : decode prog_10_method_29_code 32 = .ok (.getfield 13, 3) := by decide +kernel
theorem dX8_side_35 : decode prog_10_method_29_code 35 = .ok (.bipush 6, 2) := by decide +kernel
theorem dX8_side_37 : decode prog_10_method_29_code 37 = .ok (.iload_n 1, 1) := by decide +kernel
theorem dX8_side_38 : decode prog_10_method_29_code 38 = .ok (.imul, 1) := by decide +kernel
theorem dX8_side_39 : decode prog_10_method_29_code 39 = .ok (.iload 4, 2) := by decide +kernel
theorem dX8_side_41 : decode prog_10_method_29_code 41 = .ok (.iadd, 1) := by decide +kernel
theorem dX8_side_42 : decode prog_10_method_29_code 42 = .ok (.iaload, 1) := by decide +kernel
theorem dX8_side_43 : decode prog_10_method_29_code 43 = .ok (.ineg, 1) := by decide +kernel
theorem dX8_side_44 : decode prog_10_method_29_code 44 = .ok (.istore 5, 2) := by decide +kernel
theorem dX8_side_46 : decode prog_10_method_29_code 46 = .ok (.iconst 0, 1) := by decide +kernel
theorem dX8_side_47 : decode prog_10_method_29_code 47 = .ok (.istore 6, 2) := by decide +kernel
theorem dX8_side_49 : decode prog_10_method_29_code 49 = .ok (.iload 6, 2) := by decide +kernel
theorem dX8_side_51 : decode prog_10_method_29_code 51 = .ok (.iload 5, 2) := by decide +kernel
theorem dX8_side_53 : decode prog_10_method_29_code 53 = .ok (.if_icmp .ge 17, 3) := by decide +kernel
theorem dX8_side_56 : decode prog_10_method_29_code 56 = .ok (.iload_n 3, 1) := by decide +kernel
theorem dX8_side_57 : decode prog_10_method_29_code 57 = .ok (.iload 4, 2) := by decide +kernel
theorem dX8_side_59 : decode prog_10_method_29_code 59 = .ok (.invokestatic 64, 3) := by decide +kernel
theorem dX8_side_62 : decode prog_10_method_29_code 62 = .ok (.imul, 1) := by decide +kernel
theorem dX8_side_63 : decode prog_10_method_29_code 63 = .ok (.istore_n 3, 1) := by decide +kernel
theorem dX8_side_64 : decode prog_10_method_29_code 64 = .ok (.iinc 6 1, 3) := by decide +kernel
theorem dX8_side_67 : decode prog_10_method_29_code 67 = .ok (.goto (-18), 3) := by decide +kernel
theorem dX8_side_70 : decode prog_10_method_29_code 70 = .ok (.iinc 4 1, 3) := by decide +kernel
theorem dX8_side_73 : decode prog_10_method_29_code 73 = .ok (.goto (-68), 3) := by decide +kernel
theorem dX8_side_76 : decode prog_10_method_29_code 76 = .ok (.iload_n 3, 1) := by decide +kernel
theorem dX8_side_77 : decode prog_10_method_29_code 77 = .ok (.ireturn, 1) := by decide +kernel
theorem okM_X8_side : okM mX8_side 2 := ⟨tw841, tw15, by decide, by decide, by decide +kernel⟩
abbrev KTX8_side : Type := (XW → Nat → Int32 → Int32 → Int32 → Int32 → Option (Int32 × XW)) × (XW → Nat → Int32 → Int32 → Int32 → Int32 → Int32 → Int32 → Option (Int32 × XW))
def bX8_side_44 (k : KTX8_side) (w : XW) (l0 : Nat) (l1 : Int32) (l2 : Int32) (l3 : Int32) (l4 : Int32) (s0 : Int32) : Option (Int32 × XW) :=
  k.2 w l0 l1 l2 l3 l4 s0 (0 : Int32)
theorem BX8_side_44 {K : CX} {l : Launch} {n0 k0 : Nat} {k : KTX8_side} (hk0 : ∀ (w : XW) (l0 : Nat) (l1 : Int32) (l2 : Int32) (l3 : Int32) (l4 : Int32) (q : Int32 × XW), k.1 w l0 l1 l2 l3 l4 = some q → WP K l mX8_side 2 40 n0 k0 (some (.int q.1)) q.2 5 [some (.ref l0), some (.int l1), some (.int l2), some (.int l3), some (.int l4), none, none] [] w) (hk1 : ∀ (w : XW) (l0 : Nat) (l1 : Int32) (l2 : Int32) (l3 : Int32) (l4 : Int32) (l5 : Int32) (l6 : Int32) (q : Int32 × XW), k.2 w l0 l1 l2 l3 l4 l5 l6 = some q → WP K l mX8_side 2 40 n0 k0 (some (.int q.1)) q.2 49 [some (.ref l0), some (.int l1), some (.int l2), some (.int l3), some (.int l4), some (.int l5), some (.int l6)] [] w) {w : XW} {l0 : Nat} {l1 : Int32} {l2 : Int32} {l3 : Int32} {l4 : Int32} {s0 : Int32} {q : Int32 × XW} (h0 : bX8_side_44 k w l0 l1 l2 l3 l4 s0 = some q) : WP K l mX8_side 2 40 n0 k0 (some (.int q.1)) q.2 44 [some (.ref l0), some (.int l1), some (.int l2), some (.int l3), some (.int l4), none, none] [.int s0] w := by
  unfold bX8_side_44 at h0
  refine wp_istore (L1 := [some (.ref l0), some (.int l1), some (.int l2), some (.int l3), some (.int l4), some (.int s0), none]) dX8_side_44 (Nat.le_of_ble_eq_true rfl) rfl ?_
  refine wp_iconst (v := (0 : Int32)) dX8_side_46 (by decide) ?_
  refine wp_istore (L1 := [some (.ref l0), some (.int l1), some (.int l2), some (.int l3), some (.int l4), some (.int s0), some (.int (0 : Int32))]) dX8_side_47 (Nat.le_of_ble_eq_true rfl) rfl ?_
  exact WP.wk (hk1 _ _ _ _ _ _ _ _ _ h0) (And.intro rfl (And.intro rfl (And.intro rfl (And.intro rfl (And.intro rfl (And.intro rfl (And.intro rfl trivial)))))))
def hX8_side_49 (k : KTX8_side) (w : XW) (l0 : Nat) (l1 : Int32) (l2 : Int32) (l3 : Int32) (l4 : Int32) (l5 : Int32) (l6 : Int32) : Option (Int32 × XW) :=
  if l5 ≤ l6 then
  k.1 w l0 l1 l2 l3 (l4 + (1 : Int32))
  else
  (fX8_prime w l4).bind fun q2 =>
  k.2 q2.2 l0 l1 l2 (l3 * q2.1) l4 l5 (l6 + (1 : Int32))
theorem HX8_side_49 {K : CX} {l : Launch} {n0 k0 : Nat} {k : KTX8_side} (hk0 : ∀ (w : XW) (l0 : Nat) (l1 : Int32) (l2 : Int32) (l3 : Int32) (l4 : Int32) (q : Int32 × XW), k.1 w l0 l1 l2 l3 l4 = some q → WP K l mX8_side 2 40 n0 k0 (some (.int q.1)) q.2 5 [some (.ref l0), some (.int l1), some (.int l2), some (.int l3), some (.int l4), none, none] [] w) (hk1 : ∀ (w : XW) (l0 : Nat) (l1 : Int32) (l2 : Int32) (l3 : Int32) (l4 : Int32) (l5 : Int32) (l6 : Int32) (q : Int32 × XW), k.2 w l0 l1 l2 l3 l4 l5 l6 = some q → WP K l mX8_side 2 40 n0 k0 (some (.int q.1)) q.2 49 [some (.ref l0), some (.int l1), some (.int l2), some (.int l3), some (.int l4), some (.int l5), some (.int l6)] [] w) {w : XW} {l0 : Nat} {l1 : Int32} {l2 : Int32} {l3 : Int32} {l4 : Int32} {l5 : Int32} {l6 : Int32} {q : Int32 × XW} (h0 : hX8_side_49 k w l0 l1 l2 l3 l4 l5 l6 = some q) : WP K l mX8_side 2 40 n0 k0 (some (.int q.1)) q.2 49 [some (.ref l0), some (.int l1), some (.int l2), some (.int l3), some (.int l4), some (.int l5), some (.int l6)] [] w := by
  unfold hX8_side_49 at h0
  refine wp_iload dX8_side_49 rfl ?_
  refine wp_iload dX8_side_51 rfl ?_
  refine wp_icmp_ge (tgt := 70) dX8_side_53 (by decide) (fun c1 => ?_) (fun c1 => ?_)
  · rw [if_pos c1] at h0
    refine wp_iinc (v := (l4 + (1 : Int32))) (L1 := [some (.ref l0), some (.int l1), some (.int l2), some (.int l3), some (.int (l4 + (1 : Int32))), some (.int l5), some (.int l6)]) dX8_side_70 (Nat.le_of_ble_eq_true rfl) rfl (congrArg (fun z => l4 + z) (by decide)) rfl ?_
    refine wp_goto (tgt := 5) dX8_side_73 (by decide) ?_
    exact WP.wk (hk0 _ _ _ _ _ _ _ h0) (And.intro rfl (And.intro rfl (And.intro rfl (And.intro rfl (And.intro rfl trivial)))))
  · rw [if_neg c1] at h0
    refine wp_iload_n dX8_side_56 rfl ?_
    refine wp_iload dX8_side_57 rfl ?_
    obtain ⟨q2, e4, h3⟩ := Option.bind_eq_some_iff.mp h0
    clear h0
    refine wp_Si (As := [.int l4]) (S := [.int l3]) okM_X8_prime tw699 tw698 rfl ⟨(Nat.le_of_ble_eq_true rfl), (Nat.le_of_ble_eq_true rfl)⟩ (Nat.le_of_ble_eq_true rfl) rfl dX8_side_59 (MX8_prime e4) ?_
    refine wp_imul dX8_side_62 ?_
    refine wp_istore_n (L1 := [some (.ref l0), some (.int l1), some (.int l2), some (.int (l3 * q2.1)), some (.int l4), some (.int l5), some (.int l6)]) dX8_side_63 (Nat.le_of_ble_eq_true rfl) rfl ?_
    refine wp_iinc (v := (l6 + (1 : Int32))) (L1 := [some (.ref l0), some (.int l1), some (.int l2), some (.int (l3 * q2.1)), some (.int l4), some (.int l5), some (.int (l6 + (1 : Int32)))]) dX8_side_64 (Nat.le_of_ble_eq_true rfl) rfl (congrArg (fun z => l6 + z) (by decide)) rfl ?_
    refine wp_goto (tgt := 49) dX8_side_67 (by decide) ?_
    exact WP.wk (hk1 _ _ _ _ _ _ _ _ _ h3) (And.intro rfl (And.intro rfl (And.intro rfl (And.intro rfl (And.intro rfl (And.intro rfl (And.intro rfl trivial)))))))
def hX8_side_5 (k : KTX8_side) (w : XW) (l0 : Nat) (l1 : Int32) (l2 : Int32) (l3 : Int32) (l4 : Int32) : Option (Int32 × XW) :=
  if (6 : Int32) ≤ l4 then
  some (l3, w)
  else
  if l2 = 0 then
  (gR w l0 8 2).bind fun x3 =>
  (aI w 0 x3 (((6 : Int32) * l1) + l4)).bind fun x6 =>
  bX8_side_44 k w l0 l1 l2 l3 l4 (-x6)
  else
  (gR w l0 8 2).bind fun x9 =>
  (aI w 0 x9 (((6 : Int32) * l1) + l4)).bind fun x12 =>
  bX8_side_44 k w l0 l1 l2 l3 l4 x12
theorem HX8_side_5 {K : CX} {l : Launch} {n0 k0 : Nat} {k : KTX8_side} (hk0 : ∀ (w : XW) (l0 : Nat) (l1 : Int32) (l2 : Int32) (l3 : Int32) (l4 : Int32) (q : Int32 × XW), k.1 w l0 l1 l2 l3 l4 = some q → WP K l mX8_side 2 40 n0 k0 (some (.int q.1)) q.2 5 [some (.ref l0), some (.int l1), some (.int l2), some (.int l3), some (.int l4), none, none] [] w) (hk1 : ∀ (w : XW) (l0 : Nat) (l1 : Int32) (l2 : Int32) (l3 : Int32) (l4 : Int32) (l5 : Int32) (l6 : Int32) (q : Int32 × XW), k.2 w l0 l1 l2 l3 l4 l5 l6 = some q → WP K l mX8_side 2 40 n0 k0 (some (.int q.1)) q.2 49 [some (.ref l0), some (.int l1), some (.int l2), some (.int l3), some (.int l4), some (.int l5), some (.int l6)] [] w) {w : XW} {l0 : Nat} {l1 : Int32} {l2 : Int32} {l3 : Int32} {l4 : Int32} {q : Int32 × XW} (h0 : hX8_side_5 k w l0 l1 l2 l3 l4 = some q) : WP K l mX8_side 2 40 n0 k0 (some (.int q.1)) q.2 5 [some (.ref l0), some (.int l1), some (.int l2), some (.int l3), some (.int l4), none, none] [] w := by
  unfold hX8_side_5 at h0
  refine wp_iload dX8_side_5 rfl ?_
  refine wp_bipush (v := (6 : Int32)) dX8_side_7 (by decide) ?_
  refine wp_icmp_ge (tgt := 76) dX8_side_9 (by decide) (fun c1 => ?_) (fun c1 => ?_)
  · rw [if_pos c1] at h0
    refine wp_iload_n dX8_side_76 rfl ?_
    cases h0
    exact wp_iret rfl dX8_side_77
  · rw [if_neg c1] at h0
    refine wp_iload_n dX8_side_12 rfl ?_
    refine wp_if_eq (tgt := 31) dX8_side_13 (by decide) (fun c2 => ?_) (fun c2 => ?_)
    · rw [if_pos c2] at h0
      refine wp_aload_n dX8_side_31 rfl ?_
      obtain ⟨x3, e5, h4⟩ := Option.bind_eq_some_iff.mp h0
      clear h0
      refine wp_getR okX8 (k := 2) (by decide) tw707 dX8_side_32 e5 ?_
      refine wp_bipush (v := (6 : Int32)) dX8_side_35 (by decide) ?_
      refine wp_iload_n dX8_side_37 rfl ?_
      refine wp_imul dX8_side_38 ?_
      refine wp_iload dX8_side_39 rfl ?_
      refine wp_iadd dX8_side_41 ?_
      obtain ⟨x6, e8, h7⟩ := Option.bind_eq_some_iff.mp h4
      clear h4
      refine wp_iald dX8_side_42 e8 ?_
      refine wp_ineg dX8_side_43 ?_
      exact WP.wk (BX8_side_44 hk0 hk1 h7) (And.intro rfl (And.intro rfl (And.intro rfl (And.intro rfl (And.intro rfl trivial)))))
    · rw [if_neg c2] at h0
      refine wp_aload_n dX8_side_16 rfl ?_
      obtain ⟨x9, e11, h10⟩ := Option.bind_eq_some_iff.mp h0
      clear h0
      refine wp_getR okX8 (k := 2) (by decide) tw707 dX8_side_17 e11 ?_
      refine wp_bipush (v := (6 : Int32)) dX8_side_20 (by decide) ?_
      refine wp_iload_n dX8_side_22 rfl ?_
      refine wp_imul dX8_side_23 ?_
      refine wp_iload dX8_side_24 rfl ?_
      refine wp_iadd dX8_side_26 ?_
      obtain ⟨x12, e14, h13⟩ := Option.bind_eq_some_iff.mp h10
      clear h10
      refine wp_iald dX8_side_27 e14 ?_
      refine wp_goto (tgt := 44) dX8_side_28 (by decide) ?_
      exact WP.wk (BX8_side_44 hk0 hk1 h13) (And.intro rfl (And.intro rfl (And.intro rfl (And.intro rfl (And.intro rfl trivial)))))
def eX8_side (k : KTX8_side) (w : XW) (l0 : Nat) (l1 : Int32) (l2 : Int32) : Option (Int32 × XW) :=
  k.1 w l0 l1 l2 (1 : Int32) (0 : Int32)
theorem EX8_side {K : CX} {l : Launch} {n0 k0 : Nat} {k : KTX8_side} (hk0 : ∀ (w : XW) (l0 : Nat) (l1 : Int32) (l2 : Int32) (l3 : Int32) (l4 : Int32) (q : Int32 × XW), k.1 w l0 l1 l2 l3 l4 = some q → WP K l mX8_side 2 40 n0 k0 (some (.int q.1)) q.2 5 [some (.ref l0), some (.int l1), some (.int l2), some (.int l3), some (.int l4), none, none] [] w) (hk1 : ∀ (w : XW) (l0 : Nat) (l1 : Int32) (l2 : Int32) (l3 : Int32) (l4 : Int32) (l5 : Int32) (l6 : Int32) (q : Int32 × XW), k.2 w l0 l1 l2 l3 l4 l5 l6 = some q → WP K l mX8_side 2 40 n0 k0 (some (.int q.1)) q.2 49 [some (.ref l0), some (.int l1), some (.int l2), some (.int l3), some (.int l4), some (.int l5), some (.int l6)] [] w) {w : XW} {l0 : Nat} {l1 : Int32} {l2 : Int32} {q : Int32 × XW} (h0 : eX8_side k w l0 l1 l2 = some q) : WP K l mX8_side 2 40 n0 k0 (some (.int q.1)) q.2 0 [some (.ref l0), some (.int l1), some (.int l2), none, none, none, none] [] w := by
  unfold eX8_side at h0
  refine wp_iconst (v := (1 : Int32)) dX8_side_0 (by decide) ?_
  refine wp_istore_n (L1 := [some (.ref l0), some (.int l1), some (.int l2), some (.int (1 : Int32)), none, none, none]) dX8_side_1 (Nat.le_of_ble_eq_true rfl) rfl ?_
  refine wp_iconst (v := (0 : Int32)) dX8_side_2 (by decide) ?_
  refine wp_istore (L1 := [some (.ref l0), some (.int l1), some (.int l2), some (.int (1 : Int32)), some (.int (0 : Int32)), none, none]) dX8_side_3 (Nat.le_of_ble_eq_true rfl) rfl ?_
  exact WP.wk (hk0 _ _ _ _ _ _ _ h0) (And.intro rfl (And.intro rfl (And.intro rfl (And.intro rfl (And.intro rfl trivial)))))
def loX8_side : Nat → KTX8_side
  | 0 => (fun _ _ _ _ _ _ => none, fun _ _ _ _ _ _ _ _ => none)
  | n + 1 => (hX8_side_5 (loX8_side n), hX8_side_49 (loX8_side n))
theorem LOX8_side {K : CX} {l : Launch} {n0 k0 : Nat} : ∀ n : Nat, (∀ (w : XW) (l0 : Nat) (l1 : Int32) (l2 : Int32) (l3 : Int32) (l4 : Int32) (q : Int32 × XW), (loX8_side n).1 w l0 l1 l2 l3 l4 = some q → WP K l mX8_side 2 40 n0 k0 (some (.int q.1)) q.2 5 [some (.ref l0), some (.int l1), some (.int l2), some (.int l3), some (.int l4), none, none] [] w) ∧ (∀ (w : XW) (l0 : Nat) (l1 : Int32) (l2 : Int32) (l3 : Int32) (l4 : Int32) (l5 : Int32) (l6 : Int32) (q : Int32 × XW), (loX8_side n).2 w l0 l1 l2 l3 l4 l5 l6 = some q → WP K l mX8_side 2 40 n0 k0 (some (.int q.1)) q.2 49 [some (.ref l0), some (.int l1), some (.int l2), some (.int l3), some (.int l4), some (.int l5), some (.int l6)] [] w) := by
  intro n
  induction n with
  | zero => exact ⟨fun _ _ _ _ _ _ q h => (by cases h), fun _ _ _ _ _ _ _ _ q h => (by cases h)⟩
  | succ n ih => exact ⟨fun _ _ _ _ _ _ q h => HX8_side_5 ih.1 ih.2 h, fun _ _ _ _ _ _ _ _ q h => HX8_side_49 ih.1 ih.2 h⟩
def fX8_side (w : XW) (l0 : Nat) (l1 : Int32) (l2 : Int32) : Option (Int32 × XW) := if isO w l0 8 = true then eX8_side (loX8_side FU) w l0 l1 l2 else none
theorem OX8_side {w : XW} {l0 : Nat} {l1 : Int32} {l2 : Int32} {q : Int32 × XW} (h : fX8_side w l0 l1 l2 = some q) : isO w l0 8 = true := Decidable.byContradiction fun z => by unfold fX8_side at h; rw [if_neg z] at h; cases h
theorem MX8_side {K : CX} {l : Launch} {w : XW} {l0 : Nat} {l1 : Int32} {l2 : Int32} {q : Int32 × XW} (h : fX8_side w l0 l1 l2 = some q) : MT K l mX8_side 2 40 [.ref l0, .int l1, .int l2] w (some (.int q.1)) q.2 := by
  have z := OX8_side h
  unfold fX8_side at h
  rw [if_pos z] at h
  exact MT.of (by decide) (Nat.le_of_ble_eq_true rfl) rfl (EX8_side (LOX8_side FU).1 (LOX8_side FU).2 h)
