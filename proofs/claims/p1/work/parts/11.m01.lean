/-! FractionRun$State.isUsable(LFractionRun$Fractions;I)Z: frames 1, words 20 -/
abbrev mX5_isUsable : MR := (⟨"FractionRun$State", "isUsable", "(LFractionRun$Fractions;I)Z"⟩, prog_7_method_10_code, 7, (some .boolean))
theorem dX5_isUsable_0 : decode prog_7_method_10_code 0 = .ok (.aload_n 1, 1) := by decide +kernel
theorem dX5_isUsable_1 : decode prog_7_method_10_code 1 = .ok (.getfield 49, 3) := by decide +kernel
theorem dX5_isUsable_4 : decode prog_7_method_10_code 4 = .ok (.iload_n 2, 1) := by decide +kernel
theorem dX5_isUsable_5 : decode prog_7_method_10_code 5 = .ok (.iaload, 1) := by decide +kernel
theorem dX5_isUsable_6 : decode prog_7_method_10_code 6 = .ok (.istore_n 3, 1) := by decide +kernel
theorem dX5_isUsable_7 : decode prog_7_method_10_code 7 = .ok (.aload_n 0, 1) := by decide +kernel
theorem dX5_isUsable_8 : decode prog_7_method_10_code 8 = .ok (.getfield 45, 3) := by decide +kernel
theorem dX5_isUsable_11 : decode prog_7_method_10_code 11 = .ok (.ifCond .ne 34, 3) := by decide +kernel
theorem dX5_isUsable_14 : decode prog_7_method_10_code 14 = .ok (.iload_n 3, 1) := by decide +kernel
theorem dX5_isUsable_15 : decode prog_7_method_10_code 15 = .ok (.iconst 1, 1) := by decide +kernel
theorem dX5_isUsable_16 : decode prog_7_method_10_code 16 = .ok (.if_icmp .ne 15, 3) := by decide +kernel
theorem dX5_isUsable_19 : decode prog_7_method_10_code 19 = .ok (.aload_n 0, 1) := by decide +kernel
theorem dX5_isUsable_20 : decode prog_7_method_10_code 20 = .ok (.getfield 39, 3) := by decide +kernel
theorem dX5_isUsable_23 : decode prog_7_method_10_code 23 = .ok (.iload_n 2, 1) := by decide +kernel
theorem dX5_isUsable_24 : decode prog_7_method_10_code 24 = .ok (.ishr, 1) := by decide +kernel
theorem dX5_isUsable_25 : decode prog_7_method_10_code 25 = .ok (.iconst 1, 1) := by decide +kernel
theorem dX5_isUsable_26 : decode prog_7_method_10_code 26 = .ok (.iand, 1) := by decide +kernel
theorem dX5_isUsable_27 : decode prog_7_method_10_code 27 = .ok (.iconst 1, 1) := by decide +kernel
theorem dX5_isUsable_28 : decode prog_7_method_10_code 28 = .ok (.if_icmp .eq 17, 3) := by decide +kernel
theorem dX5_isUsable_31 : decode prog_7_method_10_code 31 = .ok (.iload_n 3, 1) := by decide +kernel
theorem dX5_isUsable_32 : decode prog_7_method_10_code 32 = .ok (.iconst 2, 1) := by decide +kernel
theorem dX5_isUsable_33 : decode prog_7_method_10_code 33 = .ok (.if_icmp .ne 14, 3) := by decide +kernel
theorem dX5_isUsable_36 : decode prog_7_method_10_code 36 = .ok (.aload_n 0, 1) := by decide +kernel
theorem dX5_isUsable_37 : decode prog_7_method_10_code 37 = .ok (.getfield 42, 3) := by decide +kernel
theorem dX5_isUsable_40 : decode prog_7_method_10_code 40 = .ok (.iconst 2, 1) := by decide +kernel
theorem dX5_isUsable_41 : decode prog_7_method_10_code 41 = .ok (.irem, 1) := by decide +kernel
theorem dX5_isUsable_42 : decode prog_7_method_10_code 42 = .ok (.ifCond .eq 5, 3) := by decide +kernel
theorem dX5_isUsable_45 : decode prog_7_method_10_code 45 = .ok (.iconst 0, 1) := by decide +kernel
theorem dX5_isUsable_46 : decode prog_7_method_10_code 46 = .ok (.ireturn, 1) := by decide +kernel
theorem dX5_isUsable_47 : decode prog_7_method_10_code 47 = .ok (.iload_n 2, 1) := by decide +kernel
theorem dX5_isUsable_48 : decode prog_7_method_10_code 48 = .ok (.bipush 6, 2) := by decide +kernel
theorem dX5_isUsable_50 : decode prog_7_method_10_code 50 = .ok (.imul, 1) := by decide +kernel
theorem dX5_isUsable_51 : decode prog_7_method_10_code 51 = .ok (.istore 4, 2) := by decide +kernel
theorem dX5_isUsable_53 : decode prog_7_method_10_code 53 = .ok (.iconst 0, 1) := by decide +kernel
theorem dX5_isUsable_54 : decode prog_7_method_10_code 54 = .ok (.istore 5, 2) := by decide +kernel
theorem dX5_isUsable_56 : decode prog_7_method_10_code 56 = .ok (.iload 5, 2) := by decide +kernel
theorem dX5_isUsable_58 : decode prog_7_method_10_code 58 = .ok (.bipush 6, 2) := by decide +kernel
theorem dX5_isUsable_60 : decode prog_7_method_10_code 60 = .ok (.if_icmp .ge 44, 3) := by decide +kernel
theorem dX5_isUsable_63 : decode prog_7_method_10_code 63 = .ok (.aload_n 0, 1) := by decide +kernel
theorem dX5_isUsable_64 : decode prog_7_method_10_code 64 = .ok (.getfield 9, 3) := by decide +kernel
theorem dX5_isUsable_67 : decode prog_7_method_10_code 67 = .ok (.iload 5, 2) := by decide +kernel
theorem dX5_isUsable_69 : decode prog_7_method_10_code 69 = .ok (.iaload, 1) := by decide +kernel
theorem dX5_isUsable_70 : decode prog_7_method_10_code 70 = .ok (.aload_n 1, 1) := by decide +kernel
theorem dX5_isUsable_71 : decode prog_7_method_10_code 71 = .ok (.getfield 52, 3) := by decide +kernel
theorem dX5_isUsable_74 : decode prog_7_method_10_code 74 = .ok (.iload 4, 2) := by decide +kernel
theorem dX5_isUsable_76 : decode prog_7_method_10_code 76 = .ok (.iload 5, 2) := by decide +kernel
theorem dX5_isUsable_78 : decode prog_7_method_10_code 78 = .ok (.iadd, 1) := by decide +kernel
theorem dX5_isUsable_79 : decode prog_7_method_10_code 79 = .ok (.iaload, 1) := by decide +kernel
theorem dX5_isUsable_80 : decode prog_7_method_10_code 80 = .ok (.iadd, 1) := by decide +kernel
theorem dX5_isUsable_81 : decode prog_7_method_10_code 81 = .ok (.istore 6, 2) := by decide +kernel
theorem dX5_isUsable_83 : decode prog_7_method_10_code 83 = .ok (.iload 6, 2) := by decide +kernel
theorem dX5_isUsable_85 : decode prog_7_method_10_code 85 = .ok (.ifCond .lt 11, 3) := by decide +kernel
theorem dX5_isUsable_88 : decode prog_7_method_10_code 88 = .ok (.iload 6, 2) := by decide +kernel
theorem dX5_isUsable_90 : decode prog_7_method_10_code 90 = .ok (.sipush 999, 3) := by decide +kernel
theorem dX5_isUsable_93 : decode prog_7_method_10_code 93 = .ok (.if_icmp .le 5, 3) := by decide +kernel
theorem dX5_isUsable_96 : decode prog_7_method_10_code 96 = .ok (.iconst 0, 1) := by decide +kernel
theorem dX5_isUsable_97 : decode prog_7_method_10_code 97 = .ok (.ireturn, 1) := by decide +kernel
theorem dX5_isUsable_98 : decode prog_7_method_10_code 98 = .ok (.iinc 5 1, 3) := by decide +kernel
theorem dX5_isUsable_101 : decode prog_7_method_10_code 101 = .ok (.goto (-45), 3) := by decide +kernel
theorem dX5_isUsable_104 : decode prog_7_method_10_code 104 = .ok (.iconst 1, 1) := by decide +kernel
theorem dX5_isUsable_105 : decode prog_7_method_10_code 105 = .ok (.ireturn, 1) := by decide +kernel
theorem okM_X5_isUsable : okM mX5_isUsable 2 := ⟨tw393, tw5, by decide, by decide, by decide +kernel⟩
abbrev KTX5_isUsable : Type := (XW → Nat → Nat → Int32 → Int32 → Option (Int32 × XW))
def bX5_isUsable_96 (K : CX) (k : KTX5_isUsable) (w : XW) : Option (Int32 × XW) :=
  some ((0 : Int32), w)
theorem BX5_isUsable_96 {K : CX} {l : Launch} {n0 k0 : Nat} {k : KTX5_isUsable} (hk0 : ∀ (w : XW) (l0 : Nat) (l1 : Nat) (l4 : Int32) (l5 : Int32) (q : Int32 × XW), k w l0 l1 l4 l5 = some q → WP K l mX5_isUsable 1 20 n0 k0 (some (.int q.1)) q.2 56 [some (.ref l0), some (.ref l1), none, none, some (.int l4), some (.int l5), none] [] w) {w : XW} {q : Int32 × XW} (h0 : bX5_isUsable_96 K k w = some q) : WP K l mX5_isUsable 1 20 n0 k0 (some (.int q.1)) q.2 96 [none, none, none, none, none, none, none] [] w := by
  unfold bX5_isUsable_96 at h0
  refine wp_iconst (v := (0 : Int32)) dX5_isUsable_96 (by decide) ?_
  cases h0
  exact wp_zret (x := (0 : Int32)) rfl narrow_b0 dX5_isUsable_97
def bX5_isUsable_47 (K : CX) (k : KTX5_isUsable) (w : XW) (l0 : Nat) (l1 : Nat) (l2 : Int32) : Option (Int32 × XW) :=
  k w l0 l1 (l2 * (6 : Int32)) (0 : Int32)
theorem BX5_isUsable_47 {K : CX} {l : Launch} {n0 k0 : Nat} {k : KTX5_isUsable} (hk0 : ∀ (w : XW) (l0 : Nat) (l1 : Nat) (l4 : Int32) (l5 : Int32) (q : Int32 × XW), k w l0 l1 l4 l5 = some q → WP K l mX5_isUsable 1 20 n0 k0 (some (.int q.1)) q.2 56 [some (.ref l0), some (.ref l1), none, none, some (.int l4), some (.int l5), none] [] w) {w : XW} {l0 : Nat} {l1 : Nat} {l2 : Int32} {q : Int32 × XW} (h0 : bX5_isUsable_47 K k w l0 l1 l2 = some q) : WP K l mX5_isUsable 1 20 n0 k0 (some (.int q.1)) q.2 47 [some (.ref l0), some (.ref l1), some (.int l2), none, none, none, none] [] w := by
  unfold bX5_isUsable_47 at h0
  refine wp_iload_n dX5_isUsable_47 rfl ?_
  refine wp_bipush (v := (6 : Int32)) dX5_isUsable_48 (by decide) ?_
  refine wp_imul dX5_isUsable_50 ?_
  refine wp_istore (L1 := [some (.ref l0), some (.ref l1), some (.int l2), none, some (.int (l2 * (6 : Int32))), none, none]) dX5_isUsable_51 (Nat.le_of_ble_eq_true rfl) rfl ?_
  refine wp_iconst (v := (0 : Int32)) dX5_isUsable_53 (by decide) ?_
  refine wp_istore (L1 := [some (.ref l0), some (.ref l1), some (.int l2), none, some (.int (l2 * (6 : Int32))), some (.int (0 : Int32)), none]) dX5_isUsable_54 (Nat.le_of_ble_eq_true rfl) rfl ?_
  exact WP.wk (hk0 _ _ _ _ _ _ h0) (And.intro rfl (And.intro rfl (And.intro rfl (And.intro rfl trivial))))
def bX5_isUsable_45 (K : CX) (k : KTX5_isUsable) (w : XW) : Option (Int32 × XW) :=
  some ((0 : Int32), w)
theorem BX5_isUsable_45 {K : CX} {l : Launch} {n0 k0 : Nat} {k : KTX5_isUsable} (hk0 : ∀ (w : XW) (l0 : Nat) (l1 : Nat) (l4 : Int32) (l5 : Int32) (q : Int32 × XW), k w l0 l1 l4 l5 = some q → WP K l mX5_isUsable 1 20 n0 k0 (some (.int q.1)) q.2 56 [some (.ref l0), some (.ref l1), none, none, some (.int l4), some (.int l5), none] [] w) {w : XW} {q : Int32 × XW} (h0 : bX5_isUsable_45 K k w = some q) : WP K l mX5_isUsable 1 20 n0 k0 (some (.int q.1)) q.2 45 [none, none, none, none, none, none, none] [] w := by
  unfold bX5_isUsable_45 at h0
  refine wp_iconst (v := (0 : Int32)) dX5_isUsable_45 (by decide) ?_
  cases h0
  exact wp_zret (x := (0 : Int32)) rfl narrow_b0 dX5_isUsable_46
def bX5_isUsable_31 (K : CX) (k : KTX5_isUsable) (w : XW) (l0 : Nat) (l1 : Nat) (l2 : Int32) (l3 : Int32) : Option (Int32 × XW) :=
  if l3 = (2 : Int32) then
  (gI w l0 5 4).bind fun x2 =>
  if (irm x2 (2 : Int32)) = 0 then
  bX5_isUsable_47 K k w l0 l1 l2
  else
  bX5_isUsable_45 K k w
  else
  bX5_isUsable_47 K k w l0 l1 l2
theorem BX5_isUsable_31 {K : CX} {l : Launch} {n0 k0 : Nat} {k : KTX5_isUsable} (hk0 : ∀ (w : XW) (l0 : Nat) (l1 : Nat) (l4 : Int32) (l5 : Int32) (q : Int32 × XW), k w l0 l1 l4 l5 = some q → WP K l mX5_isUsable 1 20 n0 k0 (some (.int q.1)) q.2 56 [some (.ref l0), some (.ref l1), none, none, some (.int l4), some (.int l5), none] [] w) {w : XW} {l0 : Nat} {l1 : Nat} {l2 : Int32} {l3 : Int32} {q : Int32 × XW} (h0 : bX5_isUsable_31 K k w l0 l1 l2 l3 = some q) : WP K l mX5_isUsable 1 20 n0 k0 (some (.int q.1)) q.2 31 [some (.ref l0), some (.ref l1), some (.int l2), some (.int l3), none, none, none] [] w := by
  unfold bX5_isUsable_31 at h0
  refine wp_iload_n dX5_isUsable_31 rfl ?_
  refine wp_iconst (v := (2 : Int32)) dX5_isUsable_32 (by decide) ?_
  refine wp_icmp_ne (tgt := 47) dX5_isUsable_33 (by decide) (fun c1 => ?_) (fun c1 => ?_)
  · rw [if_neg c1] at h0
    exact WP.wk (BX5_isUsable_47 hk0 h0) (And.intro rfl (And.intro rfl (And.intro rfl trivial)))
  · rw [if_pos c1] at h0
    refine wp_aload_n dX5_isUsable_36 rfl ?_
    obtain ⟨x2, e4, h3⟩ := Option.bind_eq_some_iff.mp h0
    clear h0
    refine wp_getI okX5 (k := 4) (by decide) tw103 dX5_isUsable_37 e4 ?_
    refine wp_iconst (v := (2 : Int32)) dX5_isUsable_40 (by decide) ?_
    refine wp_irm dX5_isUsable_41 (by decide) ?_
    refine wp_if_eq (tgt := 47) dX5_isUsable_42 (by decide) (fun c5 => ?_) (fun c5 => ?_)
    · rw [if_pos c5] at h3
      exact WP.wk (BX5_isUsable_47 hk0 h3) (And.intro rfl (And.intro rfl (And.intro rfl trivial)))
    · rw [if_neg c5] at h3
      exact WP.wk (BX5_isUsable_45 hk0 h3) trivial
def hX5_isUsable_56 (K : CX) (k : KTX5_isUsable) (w : XW) (l0 : Nat) (l1 : Nat) (l4 : Int32) (l5 : Int32) : Option (Int32 × XW) :=
  if (6 : Int32) ≤ l5 then
  some ((1 : Int32), w)
  else
  (gR w l0 5 0).bind fun x2 =>
  (aI w 0 x2 l5).bind fun x5 =>
  (gR w l1 1 3).bind fun x8 =>
  (aI w 0 x8 (l4 + l5)).bind fun x11 =>
  if (x5 + x11) < 0 then
  bX5_isUsable_96 K k w
  else
  if (x5 + x11) ≤ (999 : Int32) then
  k w l0 l1 l4 (l5 + (1 : Int32))
  else
  bX5_isUsable_96 K k w
theorem HX5_isUsable_56 {K : CX} {l : Launch} {n0 k0 : Nat} {k : KTX5_isUsable} (hk0 : ∀ (w : XW) (l0 : Nat) (l1 : Nat) (l4 : Int32) (l5 : Int32) (q : Int32 × XW), k w l0 l1 l4 l5 = some q → WP K l mX5_isUsable 1 20 n0 k0 (some (.int q.1)) q.2 56 [some (.ref l0), some (.ref l1), none, none, some (.int l4), some (.int l5), none] [] w) {w : XW} {l0 : Nat} {l1 : Nat} {l4 : Int32} {l5 : Int32} {q : Int32 × XW} (h0 : hX5_isUsable_56 K k w l0 l1 l4 l5 = some q) : WP K l mX5_isUsable 1 20 n0 k0 (some (.int q.1)) q.2 56 [some (.ref l0), some (.ref l1), none, none, some (.int l4), some (.int l5), none] [] w := by
  unfold hX5_isUsable_56 at h0
  refine wp_iload dX5_isUsable_56 rfl ?_
  refine wp_bipush (v := (6 : Int32)) dX5_isUsable_58 (by decide) ?_
  refine wp_icmp_ge (tgt := 104) dX5_isUsable_60 (by decide) (fun c1 => ?_) (fun c1 => ?_)
  · rw [if_pos c1] at h0
    refine wp_iconst (v := (1 : Int32)) dX5_isUsable_104 (by decide) ?_
    cases h0
    exact wp_zret (x := (1 : Int32)) rfl narrow_b1 dX5_isUsable_105
  · rw [if_neg c1] at h0
    refine wp_aload_n dX5_isUsable_63 rfl ?_
    obtain ⟨x2, e4, h3⟩ := Option.bind_eq_some_iff.mp h0
    clear h0
    refine wp_getR okX5 (k := 0) (by decide) tw92 dX5_isUsable_64 e4 ?_
    refine wp_iload dX5_isUsable_67 rfl ?_
    obtain ⟨x5, e7, h6⟩ := Option.bind_eq_some_iff.mp h3
    clear h3
    refine wp_iald dX5_isUsable_69 e7 ?_
    refine wp_aload_n dX5_isUsable_70 rfl ?_
    obtain ⟨x8, e10, h9⟩ := Option.bind_eq_some_iff.mp h6
    clear h6
    refine wp_getR okX1 (k := 3) (by decide) tw66 dX5_isUsable_71 e10 ?_
    refine wp_iload dX5_isUsable_74 rfl ?_
    refine wp_iload dX5_isUsable_76 rfl ?_
    refine wp_iadd dX5_isUsable_78 ?_
    obtain ⟨x11, e13, h12⟩ := Option.bind_eq_some_iff.mp h9
    clear h9
    refine wp_iald dX5_isUsable_79 e13 ?_
    refine wp_iadd dX5_isUsable_80 ?_
    refine wp_istore (L1 := [some (.ref l0), some (.ref l1), none, none, some (.int l4), some (.int l5), some (.int (x5 + x11))]) dX5_isUsable_81 (Nat.le_of_ble_eq_true rfl) rfl ?_
    refine wp_iload dX5_isUsable_83 rfl ?_
    refine wp_if_lt (tgt := 96) dX5_isUsable_85 (by decide) (fun c14 => ?_) (fun c14 => ?_)
    · rw [if_pos c14] at h12
      exact WP.wk (BX5_isUsable_96 hk0 h12) trivial
    · rw [if_neg c14] at h12
      refine wp_iload dX5_isUsable_88 rfl ?_
      refine wp_sipush (v := (999 : Int32)) dX5_isUsable_90 (by decide) ?_
      refine wp_icmp_le (tgt := 98) dX5_isUsable_93 (by decide) (fun c15 => ?_) (fun c15 => ?_)
      · rw [if_pos c15] at h12
        refine wp_iinc (v := (l5 + (1 : Int32))) (L1 := [some (.ref l0), some (.ref l1), none, none, some (.int l4), some (.int (l5 + (1 : Int32))), some (.int (x5 + x11))]) dX5_isUsable_98 (Nat.le_of_ble_eq_true rfl) rfl (congrArg (fun z => l5 + z) (by decide)) rfl ?_
        refine wp_goto (tgt := 56) dX5_isUsable_101 (by decide) ?_
        exact WP.wk (hk0 _ _ _ _ _ _ h12) (And.intro rfl (And.intro rfl (And.intro rfl (And.intro rfl trivial))))
      · rw [if_neg c15] at h12
        exact WP.wk (BX5_isUsable_96 hk0 h12) trivial
def eX5_isUsable (K : CX) (k : KTX5_isUsable) (w : XW) (l0 : Nat) (l1 : Nat) (l2 : Int32) : Option (Int32 × XW) :=
  (gR w l1 1 0).bind fun x1 =>
  (aI w 0 x1 l2).bind fun x4 =>
  (gI w l0 5 5).bind fun x7 =>
  if x7 = 0 then
  if x4 = (1 : Int32) then
  (gI w l0 5 3).bind fun x12 =>
  if ((x12 >>> (l2 &&& 31)) &&& (1 : Int32)) = (1 : Int32) then
  bX5_isUsable_45 K k w
  else
  bX5_isUsable_31 K k w l0 l1 l2 x4
  else
  bX5_isUsable_31 K k w l0 l1 l2 x4
  else
  bX5_isUsable_45 K k w
theorem EX5_isUsable {K : CX} {l : Launch} {n0 k0 : Nat} {k : KTX5_isUsable} (hk0 : ∀ (w : XW) (l0 : Nat) (l1 : Nat) (l4 : Int32) (l5 : Int32) (q : Int32 × XW), k w l0 l1 l4 l5 = some q → WP K l mX5_isUsable 1 20 n0 k0 (some (.int q.1)) q.2 56 [some (.ref l0), some (.ref l1), none, none, some (.int l4), some (.int l5), none] [] w) {w : XW} {l0 : Nat} {l1 : Nat} {l2 : Int32} {q : Int32 × XW} (h0 : eX5_isUsable K k w l0 l1 l2 = some q) : WP K l mX5_isUsable 1 20 n0 k0 (some (.int q.1)) q.2 0 [some (.ref l0), some (.ref l1), some (.int l2), none, none, none, none] [] w := by
  unfold eX5_isUsable at h0
  refine wp_aload_n dX5_isUsable_0 rfl ?_
  obtain ⟨x1, e3, h2⟩ := Option.bind_eq_some_iff.mp h0
  clear h0
  refine wp_getR okX1 (k := 0) (by decide) tw60 dX5_isUsable_1 e3 ?_
  refine wp_iload_n dX5_isUsable_4 rfl ?_
  obtain ⟨x4, e6, h5⟩ := Option.bind_eq_some_iff.mp h2
  clear h2
  refine wp_iald dX5_isUsable_5 e6 ?_
  refine wp_istore_n (L1 := [some (.ref l0), some (.ref l1), some (.int l2), some (.int x4), none, none, none]) dX5_isUsable_6 (Nat.le_of_ble_eq_true rfl) rfl ?_
  refine wp_aload_n dX5_isUsable_7 rfl ?_
  obtain ⟨x7, e9, h8⟩ := Option.bind_eq_some_iff.mp h5
  clear h5
  refine wp_getI okX5 (k := 5) (by decide) tw105 dX5_isUsable_8 e9 ?_
  refine wp_if_ne (tgt := 45) dX5_isUsable_11 (by decide) (fun c10 => ?_) (fun c10 => ?_)
  · rw [if_neg c10] at h8
    exact WP.wk (BX5_isUsable_45 hk0 h8) trivial
  · rw [if_pos c10] at h8
    refine wp_iload_n dX5_isUsable_14 rfl ?_
    refine wp_iconst (v := (1 : Int32)) dX5_isUsable_15 (by decide) ?_
    refine wp_icmp_ne (tgt := 31) dX5_isUsable_16 (by decide) (fun c11 => ?_) (fun c11 => ?_)
    · rw [if_neg c11] at h8
      exact WP.wk (BX5_isUsable_31 hk0 h8) (And.intro rfl (And.intro rfl (And.intro rfl (And.intro rfl trivial))))
    · rw [if_pos c11] at h8
      refine wp_aload_n dX5_isUsable_19 rfl ?_
      obtain ⟨x12, e14, h13⟩ := Option.bind_eq_some_iff.mp h8
      clear h8
      refine wp_getI okX5 (k := 3) (by decide) tw100 dX5_isUsable_20 e14 ?_
      refine wp_iload_n dX5_isUsable_23 rfl ?_
      refine wp_ishr dX5_isUsable_24 ?_
      refine wp_iconst (v := (1 : Int32)) dX5_isUsable_25 (by decide) ?_
      refine wp_iand dX5_isUsable_26 ?_
      refine wp_iconst (v := (1 : Int32)) dX5_isUsable_27 (by decide) ?_
      refine wp_icmp_eq (tgt := 45) dX5_isUsable_28 (by decide) (fun c15 => ?_) (fun c15 => ?_)
      · rw [if_pos c15] at h13
        exact WP.wk (BX5_isUsable_45 hk0 h13) trivial
      · rw [if_neg c15] at h13
        exact WP.wk (BX5_isUsable_31 hk0 h13) (And.intro rfl (And.intro rfl (And.intro rfl (And.intro rfl trivial))))
def loX5_isUsable (K : CX) : Nat → KTX5_isUsable
  | 0 => fun _ _ _ _ _ => none
  | n + 1 => hX5_isUsable_56 K (loX5_isUsable K n)
theorem LOX5_isUsable {K : CX} {l : Launch} {n0 k0 : Nat} : ∀ n : Nat, (∀ (w : XW) (l0 : Nat) (l1 : Nat) (l4 : Int32) (l5 : Int32) (q : Int32 × XW), (loX5_isUsable K n) w l0 l1 l4 l5 = some q → WP K l mX5_isUsable 1 20 n0 k0 (some (.int q.1)) q.2 56 [some (.ref l0), some (.ref l1), none, none, some (.int l4), some (.int l5), none] [] w) := by
  intro n
  induction n with
  | zero => exact fun _ _ _ _ _ q h => by cases h
  | succ n ih => exact fun _ _ _ _ _ q h => HX5_isUsable_56 ih h
def fX5_isUsable (K : CX) (w : XW) (l0 : Nat) (l1 : Nat) (l2 : Int32) : Option (Int32 × XW) := if isO w l0 5 = true then eX5_isUsable K (loX5_isUsable K FU) w l0 l1 l2 else none
theorem OX5_isUsable {K : CX} {w : XW} {l0 : Nat} {l1 : Nat} {l2 : Int32} {q : Int32 × XW} (h : fX5_isUsable K w l0 l1 l2 = some q) : isO w l0 5 = true := Decidable.byContradiction fun z => by unfold fX5_isUsable at h; rw [if_neg z] at h; cases h
theorem MX5_isUsable {K : CX} {l : Launch} {w : XW} {l0 : Nat} {l1 : Nat} {l2 : Int32} {q : Int32 × XW} (h : fX5_isUsable K w l0 l1 l2 = some q) : MT K l mX5_isUsable 1 20 [.ref l0, .ref l1, .int l2] w (some (.int q.1)) q.2 := by
  have z := OX5_isUsable h
  unfold fX5_isUsable at h
  rw [if_pos z] at h
  exact MT.of (by decide) (Nat.le_of_ble_eq_true rfl) rfl (EX5_isUsable (LOX5_isUsable FU) h)
/-! FractionRun$State.nextFraction(LFractionRun$Fractions;)I: frames 2, words 46 -/
abbrev mX5_nextFraction : MR := (⟨"FractionRun$State", "nextFraction", "(LFractionRun$Fractions;)I"⟩, prog_7_method_11_code, 6, (some .int))
theorem dX5_nextFraction_0 : decode prog_7_method_11_code 0 = .ok (.bipush (-4), 2) := by decide +kernel
theorem dX5_nextFraction_2 : decode prog_7_method_11_code 2 = .ok (.istore_n 2, 1) := by decide +kernel
theorem dX5_nextFraction_3 : decode prog_7_method_11_code 3 = .ok (.iconst 0, 1) := by decide +kernel
theorem dX5_nextFraction_4 : decode prog_7_method_11_code 4 = .ok (.istore_n 3, 1) := by decide +kernel
theorem dX5_nextFraction_5 : decode prog_7_method_11_code 5 = .ok (.iload_n 3, 1) := by decide +kernel
theorem dX5_nextFraction_6 : decode prog_7_method_11_code 6 = .ok (.aload_n 0, 1) := by decide +kernel
theorem dX5_nextFraction_7 : decode prog_7_method_11_code 7 = .ok (.getfield 33, 3) := by decide +kernel
theorem dX5_nextFraction_10 : decode prog_7_method_11_code 10 = .ok (.if_icmp .ge 67, 3) := by decide +kernel
theorem dX5_nextFraction_13 : decode prog_7_method_11_code 13 = .ok (.aload_n 0, 1) := by decide +kernel
theorem dX5_nextFraction_14 : decode prog_7_method_11_code 14 = .ok (.getfield 15, 3) := by decide +kernel
theorem dX5_nextFraction_17 : decode prog_7_method_11_code 17 = .ok (.iload_n 3, 1) := by decide +kernel
theorem dX5_nextFraction_18 : decode prog_7_method_11_code 18 = .ok (.iaload, 1) := by decide +kernel
theorem dX5_nextFraction_19 : decode prog_7_method_11_code 19 = .ok (.istore 4, 2) := by decide +kernel
theorem dX5_nextFraction_21 : decode prog_7_method_11_code 21 = .ok (.aload_n 1, 1) := by decide +kernel
theorem dX5_nextFraction_22 : decode prog_7_method_11_code 22 = .ok (.getfield 49, 3) := by decide +kernel
theorem dX5_nextFraction_25 : decode prog_7_method_11_code 25 = .ok (.iload 4, 2) := by decide +kernel
theorem dX5_nextFraction_27 : decode prog_7_method_11_code 27 = .ok (.iaload, 1) := by decide +kernel
theorem dX5_nextFraction_28 : decode prog_7_method_11_code 28 = .ok (.iconst 4, 1) := by decide +kernel
theorem dX5_nextFraction_29 : decode prog_7_method_11_code 29 = .ok (.if_icmp .ne 7, 3) := by decide +kernel
theorem dX5_nextFraction_32 : decode prog_7_method_11_code 32 = .ok (.iconst 1, 1) := by decide +kernel
theorem dX5_nextFraction_33 : decode prog_7_method_11_code 33 = .ok (.goto 4, 3) := by decide +kernel
theorem dX5_nextFraction_36 : decode prog_7_method_11_code 36 = .ok (.iconst 0, 1) := by decide +kernel
theorem dX5_nextFraction_37 : decode prog_7_method_11_code 37 = .ok (.istore 5, 2) := by decide +kernel
theorem dX5_nextFraction_39 : decode prog_7_method_11_code 39 = .ok (.iload 5, 2) := by decide +kernel
theorem dX5_nextFraction_41 : decode prog_7_method_11_code 41 = .ok (.ifCond .eq 9, 3) := by decide +kernel
theorem dX5_nextFraction_44 : decode prog_7_method_11_code 44 = .ok (.iload_n 2, 1) := by decide +kernel
theorem dX5_nextFraction_45 : decode prog_7_method_11_code 45 = .ok (.bipush (-4), 2) := by decide +kernel
theorem dX5_nextFraction_47 : decode prog_7_method_11_code 47 = .ok (.if_icmp .ne 24, 3) := by decide +kernel
theorem dX5_nextFraction_50 : decode prog_7_method_11_code 50 = .ok (.aload_n 0, 1) := by decide +kernel
theorem dX5_nextFraction_51 : decode prog_7_method_11_code 51 = .ok (.aload_n 1, 1) := by decide +kernel
theorem dX5_nextFraction_52 : decode prog_7_method_11_code 52 = .ok (.iload 4, 2) := by decide +kernel
theorem dX5_nextFraction_54 : decode prog_7_method_11_code 54 = .ok (.invokevirtual 55, 3) := by decide +kernel
theorem dX5_nextFraction_57 : decode prog_7_method_11_code 57 = .ok (.ifCond .eq 14, 3) := by decide +kernel
theorem dX5_nextFraction_60 : decode prog_7_method_11_code 60 = .ok (.iload 5, 2) := by decide +kernel
theorem dX5_nextFraction_62 : decode prog_7_method_11_code 62 = .ok (.ifCond .ne 6, 3) := by decide +kernel
theorem dX5_nextFraction_65 : decode prog_7_method_11_code 65 = .ok (.iload 4, 2) := by decide +kernel
theorem dX5_nextFraction_67 : decode prog_7_method_11_code 67 = .ok (.ireturn, 1) := by decide +kernel
theorem dX5_nextFraction_68 : decode prog_7_method_11_code 68 = .ok (.iload 4, 2) := by decide +kernel
theorem dX5_nextFraction_70 : decode prog_7_method_11_code 70 = .ok (.istore_n 2, 1) := by decide +kernel
theorem dX5_nextFraction_71 : decode prog_7_method_11_code 71 = .ok (.iinc 3 1, 3) := by decide +kernel
theorem dX5_nextFraction_74 : decode prog_7_method_11_code 74 = .ok (.goto (-69), 3) := by decide +kernel
theorem dX5_nextFraction_77 : decode prog_7_method_11_code 77 = .ok (.iload_n 2, 1) := by decide +kernel
theorem dX5_nextFraction_78 : decode prog_7_method_11_code 78 = .ok (.ireturn, 1) := by decide +kernel
theorem okM_X5_nextFraction : okM mX5_nextFraction 1 := ⟨tw412, tw5, by decide, by decide, by decide +kernel⟩
abbrev KTX5_nextFraction : Type := (XW → Nat → Nat → Int32 → Int32 → Option (Int32 × XW))
def bX5_nextFraction_71 (K : CX) (k : KTX5_nextFraction) (w : XW) (l0 : Nat) (l1 : Nat) (l2 : Int32) (l3 : Int32) : Option (Int32 × XW) :=
  k w l0 l1 l2 (l3 + (1 : Int32))
theorem BX5_nextFraction_71 {K : CX} {l : Launch} {n0 k0 : Nat} {k : KTX5_nextFraction} (hk0 : ∀ (w : XW) (l0 : Nat) (l1 : Nat) (l2 : Int32) (l3 : Int32) (q : Int32 × XW), k w l0 l1 l2 l3 = some q → WP K l mX5_nextFraction 2 46 n0 k0 (some (.int q.1)) q.2 5 [some (.ref l0), some (.ref l1), some (.int l2), some (.int l3), none, none] [] w) {w : XW} {l0 : Nat} {l1 : Nat} {l2 : Int32} {l3 : Int32} {q : Int32 × XW} (h0 : bX5_nextFraction_71 K k w l0 l1 l2 l3 = some q) : WP K l mX5_nextFraction 2 46 n0 k0 (some (.int q.1)) q.2 71 [some (.ref l0), some (.ref l1), some (.int l2), some (.int l3), none, none] [] w := by
  unfold bX5_nextFraction_71 at h0
  refine wp_iinc (v := (l3 + (1 : Int32))) (L1 := [some (.ref l0), some (.ref l1), some (.int l2), some (.int (l3 + (1 : Int32))), none, none]) dX5_nextFraction_71 (Nat.le_of_ble_eq_true rfl) rfl (congrArg (fun z => l3 + z) (by decide)) rfl ?_
  refine wp_goto (tgt := 5) dX5_nextFraction_74 (by decide) ?_
  exact WP.wk (hk0 _ _ _ _ _ _ h0) (And.intro rfl (And.intro rfl (And.intro rfl (And.intro rfl trivial))))
def bX5_nextFraction_50 (K : CX) (k : KTX5_nextFraction) (w : XW) (l0 : Nat) (l1 : Nat) (l2 : Int32) (l3 : Int32) (l4 : Int32) (l5 : Int32) : Option (Int32 × XW) :=
  (fX5_isUsable K w l0 l1 l4).bind fun q1 =>
  if q1.1 = 0 then
  bX5_nextFraction_71 K k q1.2 l0 l1 l2 l3
  else
  if l5 = 0 then
  some (l4, q1.2)
  else
  bX5_nextFraction_71 K k q1.2 l0 l1 l4 l3
theorem BX5_nextFraction_50 {K : CX} {l : Launch} {n0 k0 : Nat} {k : KTX5_nextFraction} (hk0 : ∀ (w : XW) (l0 : Nat) (l1 : Nat) (l2 : Int32) (l3 : Int32) (q : Int32 × XW), k w l0 l1 l2 l3 = some q → WP K l mX5_nextFraction 2 46 n0 k0 (some (.int q.1)) q.2 5 [some (.ref l0), some (.ref l1), some (.int l2), some (.int l3), none, none] [] w) {w : XW} {l0 : Nat} {l1 : Nat} {l2 : Int32} {l3 : Int32} {l4 : Int32} {l5 : Int32} {q : Int32 × XW} (h0 : bX5_nextFraction_50 K k w l0 l1 l2 l3 l4 l5 = some q) : WP K l mX5_nextFraction 2 46 n0 k0 (some (.int q.1)) q.2 50 [some (.ref l0), some (.ref l1), some (.int l2), some (.int l3), some (.int l4), some (.int l5)] [] w := by
  unfold bX5_nextFraction_50 at h0
  refine wp_aload_n dX5_nextFraction_50 rfl ?_
  refine wp_aload_n dX5_nextFraction_51 rfl ?_
  refine wp_iload dX5_nextFraction_52 rfl ?_
  obtain ⟨q1, e3, h2⟩ := Option.bind_eq_some_iff.mp h0
  clear h0
  refine wp_Vi (As := [.ref l1, .int l4]) (S := []) okM_X5_isUsable tw391 tw392 tw413 (OX5_isUsable e3) rfl rfl rfl ⟨(Nat.le_of_ble_eq_true rfl), (Nat.le_of_ble_eq_true rfl)⟩ (Nat.le_of_ble_eq_true rfl) rfl dX5_nextFraction_54 (MX5_isUsable e3) ?_
  refine wp_if_eq (tgt := 71) dX5_nextFraction_57 (by decide) (fun c4 => ?_) (fun c4 => ?_)
  · rw [if_pos c4] at h2
    exact WP.wk (BX5_nextFraction_71 hk0 h2) (And.intro rfl (And.intro rfl (And.intro rfl (And.intro rfl trivial))))
  · rw [if_neg c4] at h2
    refine wp_iload dX5_nextFraction_60 rfl ?_
    refine wp_if_ne (tgt := 68) dX5_nextFraction_62 (by decide) (fun c5 => ?_) (fun c5 => ?_)
    · rw [if_neg c5] at h2
      refine wp_iload dX5_nextFraction_68 rfl ?_
      refine wp_istore_n (L1 := [some (.ref l0), some (.ref l1), some (.int l4), some (.int l3), some (.int l4), some (.int l5)]) dX5_nextFraction_70 (Nat.le_of_ble_eq_true rfl) rfl ?_
      exact WP.wk (BX5_nextFraction_71 hk0 h2) (And.intro rfl (And.intro rfl (And.intro rfl (And.intro rfl trivial))))
    · rw [if_pos c5] at h2
      refine wp_iload dX5_nextFraction_65 rfl ?_
      cases h2
      exact wp_iret rfl dX5_nextFraction_67
def bX5_nextFraction_37 (K : CX) (k : KTX5_nextFraction) (w : XW) (l0 : Nat) (l1 : Nat) (l2 : Int32) (l3 : Int32) (l4 : Int32) (s0 : Int32) : Option (Int32 × XW) :=
  if s0 = 0 then
  bX5_nextFraction_50 K k w l0 l1 l2 l3 l4 s0
  else
  if l2 = (-4 : Int32) then
  bX5_nextFraction_50 K k w l0 l1 l2 l3 l4 s0
  else
  bX5_nextFraction_71 K k w l0 l1 l2 l3
theorem BX5_nextFraction_37 {K : CX} {l : Launch} {n0 k0 : Nat} {k : KTX5_nextFraction} (hk0 : ∀ (w : XW) (l0 : Nat) (l1 : Nat) (l2 : Int32) (l3 : Int32) (q : Int32 × XW), k w l0 l1 l2 l3 = some q → WP K l mX5_nextFraction 2 46 n0 k0 (some (.int q.1)) q.2 5 [some (.ref l0), some (.ref l1), some (.int l2), some (.int l3), none, none] [] w) {w : XW} {l0 : Nat} {l1 : Nat} {l2 : Int32} {l3 : Int32} {l4 : Int32} {s0 : Int32} {q : Int32 × XW} (h0 : bX5_nextFraction_37 K k w l0 l1 l2 l3 l4 s0 = some q) : WP K l mX5_nextFraction 2 46 n0 k0 (some (.int q.1)) q.2 37 [some (.ref l0), some (.ref l1), some (.int l2), some (.int l3), some (.int l4), none] [.int s0] w := by
  unfold bX5_nextFraction_37 at h0
  refine wp_istore (L1 := [some (.ref l0), some (.ref l1), some (.int l2), some (.int l3), some (.int l4), some (.int s0)]) dX5_nextFraction_37 (Nat.le_of_ble_eq_true rfl) rfl ?_
  refine wp_iload dX5_nextFraction_39 rfl ?_
  refine wp_if_eq (tgt := 50) dX5_nextFraction_41 (by decide) (fun c1 => ?_) (fun c1 => ?_)
  · rw [if_pos c1] at h0
    exact WP.wk (BX5_nextFraction_50 hk0 h0) (And.intro rfl (And.intro rfl (And.intro rfl (And.intro rfl (And.intro rfl (And.intro rfl trivial))))))
  · rw [if_neg c1] at h0
    refine wp_iload_n dX5_nextFraction_44 rfl ?_
    refine wp_bipush (v := (-4 : Int32)) dX5_nextFraction_45 (by decide) ?_
    refine wp_icmp_ne (tgt := 71) dX5_nextFraction_47 (by decide) (fun c2 => ?_) (fun c2 => ?_)
    · rw [if_neg c2] at h0
      exact WP.wk (BX5_nextFraction_71 hk0 h0) (And.intro rfl (And.intro rfl (And.intro rfl (And.intro rfl trivial))))
    · rw [if_pos c2] at h0
      exact WP.wk (BX5_nextFraction_50 hk0 h0) (And.intro rfl (And.intro rfl (And.intro rfl (And.intro rfl (And.intro rfl (And.intro rfl trivial))))))
def hX5_nextFraction_5 (K : CX) (k : KTX5_nextFraction) (w : XW) (l0 : Nat) (l1 : Nat) (l2 : Int32) (l3 : Int32) : Option (Int32 × XW) :=
  (gI w l0 5 2).bind fun x1 =>
  if x1 ≤ l3 then
  some (l2, w)
  else
  (gR w l0 5 1).bind fun x5 =>
  (aI w 0 x5 l3).bind fun x8 =>
  (gR w l1 1 0).bind fun x11 =>
  (aI w 0 x11 x8).bind fun x14 =>
  if x14 = (4 : Int32) then
  bX5_nextFraction_37 K k w l0 l1 l2 l3 x8 (1 : Int32)
  else
  bX5_nextFraction_37 K k w l0 l1 l2 l3 x8 (0 : Int32)
theorem HX5_nextFraction_5 {K : CX} {l : Launch} {n0 k0 : Nat} {k : KTX5_nextFraction} (hk0 : ∀ (w : XW) (l0 : Nat) (l1 : Nat) (l2 : Int32) (l3 : Int32) (q : Int32 × XW), k w l0 l1 l2 l3 = some q → WP K l mX5_nextFraction 2 46 n0 k0 (some (.int q.1)) q.2 5 [some (.ref l0), some (.ref l1), some (.int l2), some (.int l3), none, none] [] w) {w : XW} {l0 : Nat} {l1 : Nat} {l2 : Int32} {l3 : Int32} {q : Int32 × XW} (h0 : hX5_nextFraction_5 K k w l0 l1 l2 l3 = some q) : WP K l mX5_nextFraction 2 46 n0 k0 (some (.int q.1)) q.2 5 [some (.ref l0), some (.ref l1), some (.int l2), some (.int l3), none, none] [] w := by
  unfold hX5_nextFraction_5 at h0
  refine wp_iload_n dX5_nextFraction_5 rfl ?_
  refine wp_aload_n dX5_nextFraction_6 rfl ?_
  obtain ⟨x1, e3, h2⟩ := Option.bind_eq_some_iff.mp h0
  clear h0
  refine wp_getI okX5 (k := 2) (by decide) tw97 dX5_nextFraction_7 e3 ?_
  refine wp_icmp_ge (tgt := 77) dX5_nextFraction_10 (by decide) (fun c4 => ?_) (fun c4 => ?_)
  · rw [if_pos c4] at h2
    refine wp_iload_n dX5_nextFraction_77 rfl ?_
    cases h2
    exact wp_iret rfl dX5_nextFraction_78
  · rw [if_neg c4] at h2
    refine wp_aload_n dX5_nextFraction_13 rfl ?_
    obtain ⟨x5, e7, h6⟩ := Option.bind_eq_some_iff.mp h2
    clear h2
    refine wp_getR okX5 (k := 1) (by decide) tw95 dX5_nextFraction_14 e7 ?_
    refine wp_iload_n dX5_nextFraction_17 rfl ?_
    obtain ⟨x8, e10, h9⟩ := Option.bind_eq_some_iff.mp h6
    clear h6
    refine wp_iald dX5_nextFraction_18 e10 ?_
    refine wp_istore (L1 := [some (.ref l0), some (.ref l1), some (.int l2), some (.int l3), some (.int x8), none]) dX5_nextFraction_19 (Nat.le_of_ble_eq_true rfl) rfl ?_
    refine wp_aload_n dX5_nextFraction_21 rfl ?_
    obtain ⟨x11, e13, h12⟩ := Option.bind_eq_some_iff.mp h9
    clear h9
    refine wp_getR okX1 (k := 0) (by decide) tw60 dX5_nextFraction_22 e13 ?_
    refine wp_iload dX5_nextFraction_25 rfl ?_
    obtain ⟨x14, e16, h15⟩ := Option.bind_eq_some_iff.mp h12
    clear h12
    refine wp_iald dX5_nextFraction_27 e16 ?_
    refine wp_iconst (v := (4 : Int32)) dX5_nextFraction_28 (by decide) ?_
    refine wp_icmp_ne (tgt := 36) dX5_nextFraction_29 (by decide) (fun c17 => ?_) (fun c17 => ?_)
    · rw [if_neg c17] at h15
      refine wp_iconst (v := (0 : Int32)) dX5_nextFraction_36 (by decide) ?_
      exact WP.wk (BX5_nextFraction_37 hk0 h15) (And.intro rfl (And.intro rfl (And.intro rfl (And.intro rfl (And.intro rfl trivial)))))
    · rw [if_pos c17] at h15
      refine wp_iconst (v := (1 : Int32)) dX5_nextFraction_32 (by decide) ?_
      refine wp_goto (tgt := 37) dX5_nextFraction_33 (by decide) ?_
      exact WP.wk (BX5_nextFraction_37 hk0 h15) (And.intro rfl (And.intro rfl (And.intro rfl (And.intro rfl (And.intro rfl trivial)))))
def eX5_nextFraction (K : CX) (k : KTX5_nextFraction) (w : XW) (l0 : Nat) (l1 : Nat) : Option (Int32 × XW) :=
  k w l0 l1 (-4 : Int32) (0 : Int32)
theorem EX5_nextFraction {K : CX} {l : Launch} {n0 k0 : Nat} {k : KTX5_nextFraction} (hk0 : ∀ (w : XW) (l0 : Nat) (l1 : Nat) (l2 : Int32) (l3 : Int32) (q : Int32 × XW), k w l0 l1 l2 l3 = some q → WP K l mX5_nextFraction 2 46 n0 k0 (some (.int q.1)) q.2 5 [some (.ref l0), some (.ref l1), some (.int l2), some (.int l3), none, none] [] w) {w : XW} {l0 : Nat} {l1 : Nat} {q : Int32 × XW} (h0 : eX5_nextFraction K k w l0 l1 = some q) : WP K l mX5_nextFraction 2 46 n0 k0 (some (.int q.1)) q.2 0 [some (.ref l0), some (.ref l1), none, none, none, none] [] w := by
  unfold eX5_nextFraction at h0
  refine wp_bipush (v := (-4 : Int32)) dX5_nextFraction_0 (by decide) ?_
  refine wp_istore_n (L1 := [some (.ref l0), some (.ref l1), some (.int (-4 : Int32)), none, none, none]) dX5_nextFraction_2 (Nat.le_of_ble_eq_true rfl) rfl ?_
  refine wp_iconst (v := (0 : Int32)) dX5_nextFraction_3 (by decide) ?_
  refine wp_istore_n (L1 := [some (.ref l0), some (.ref l1), some (.int (-4 : Int32)), some (.int (0 : Int32)), none, none]) dX5_nextFraction_4 (Nat.le_of_ble_eq_true rfl) rfl ?_
  exact WP.wk (hk0 _ _ _ _ _ _ h0) (And.intro rfl (And.intro rfl (And.intro rfl (And.intro rfl trivial))))
def loX5_nextFraction (K : CX) : Nat → KTX5_nextFraction
  | 0 => fun _ _ _ _ _ => none
  | n + 1 => hX5_nextFraction_5 K (loX5_nextFraction K n)
theorem LOX5_nextFraction {K : CX} {l : Launch} {n0 k0 : Nat} : ∀ n : Nat, (∀ (w : XW) (l0 : Nat) (l1 : Nat) (l2 : Int32) (l3 : Int32) (q : Int32 × XW), (loX5_nextFraction K n) w l0 l1 l2 l3 = some q → WP K l mX5_nextFraction 2 46 n0 k0 (some (.int q.1)) q.2 5 [some (.ref l0), some (.ref l1), some (.int l2), some (.int l3), none, none] [] w) := by
  intro n
  induction n with
  | zero => exact fun _ _ _ _ _ q h => by cases h
  | succ n ih => exact fun _ _ _ _ _ q h => HX5_nextFraction_5 ih h
def fX5_nextFraction (K : CX) (w : XW) (l0 : Nat) (l1 : Nat) : Option (Int32 × XW) := if isO w l0 5 = true then eX5_nextFraction K (loX5_nextFraction K FU) w l0 l1 else none
theorem OX5_nextFraction {K : CX} {w : XW} {l0 : Nat} {l1 : Nat} {q : Int32 × XW} (h : fX5_nextFraction K w l0 l1 = some q) : isO w l0 5 = true := Decidable.byContradiction fun z => by unfold fX5_nextFraction at h; rw [if_neg z] at h; cases h
theorem MX5_nextFraction {K : CX} {l : Launch} {w : XW} {l0 : Nat} {l1 : Nat} {q : Int32 × XW} (h : fX5_nextFraction K w l0 l1 = some q) : MT K l mX5_nextFraction 2 46 [.ref l0, .ref l1] w (some (.int q.1)) q.2 := by
  have z := OX5_nextFraction h
  unfold fX5_nextFraction at h
  rw [if_pos z] at h
  exact MT.of (by decide) (Nat.le_of_ble_eq_true rfl) rfl (EX5_nextFraction (LOX5_nextFraction FU) h)
/-! FractionRun$State.multiplyByFraction(LFractionRun$Fractions;I)V: frames 1, words 20 -/
abbrev mX5_multiplyByFraction : MR := (⟨"FractionRun$State", "multiplyByFraction", "(LFractionRun$Fractions;I)V"⟩, prog_7_method_15_code, 5, none)
theorem dX5_multiplyByFraction_0 : decode prog_7_method_15_code 0 = .ok (.iload_n 2, 1) := by decide +kernel
theorem dX5_multiplyByFraction_1 : decode prog_7_method_15_code 1 = .ok (.bipush 6, 2) := by decide +kernel
theorem dX5_multiplyByFraction_3 : decode prog_7_method_15_code 3 = .ok (.imul, 1) := by decide +kernel
theorem dX5_multiplyByFraction_4 : decode prog_7_method_15_code 4 = .ok (.istore_n 3, 1) := by decide +kernel
theorem dX5_multiplyByFraction_5 : decode prog_7_method_15_code 5 = .ok (.iconst 0, 1) := by decide +kernel
theorem dX5_multiplyByFraction_6 : decode prog_7_method_15_code 6 = .ok (.istore 4, 2) := by decide +kernel
theorem dX5_multiplyByFraction_8 : decode prog_7_method_15_code 8 = .ok (.iload 4, 2) := by decide +kernel
theorem dX5_multiplyByFraction_10 : decode prog_7_method_15_code 10 = .ok (.bipush 6, 2) := by decide +kernel
theorem dX5_multiplyByFraction_12 : decode prog_7_method_15_code 12 = .ok (.if_icmp .ge 28, 3) := by decide +kernel
theorem dX5_multiplyByFraction_15 : decode prog_7_method_15_code 15 = .ok (.aload_n 0, 1) := by decide +kernel
theorem dX5_multiplyByFraction_16 : decode prog_7_method_15_code 16 = .ok (.getfield 9, 3) := by decide +kernel
theorem dX5_multiplyByFraction_19 : decode prog_7_method_15_code 19 = .ok (.iload 4, 2) := by decide +kernel
theorem dX5_multiplyByFraction_21 : decode prog_7_method_15_code 21 = .ok (.dup2, 1) := by decide +kernel
theorem dX5_multiplyByFraction_22 : decode prog_7_method_15_code 22 = .ok (.iaload, 1) := by decide +kernel
theorem dX5_multiplyByFraction_23 : decode prog_7_method_15_code 23 = .ok (.aload_n 1, 1) := by decide +kernel
theorem dX5_multiplyByFraction_24 : decode prog_7_method_15_code 24 = .ok (.getfield 52, 3) := by decide +kernel
theorem dX5_multiplyByFraction_27 : decode prog_7_method_15_code 27 = .ok (.iload_n 3, 1) := by decide +kernel
theorem dX5_multiplyByFraction_28 : decode prog_7_method_15_code 28 = .ok (.iload 4, 2) := by decide +kernel
theorem dX5_multiplyByFraction_30 : decode prog_7_method_15_code 30 = .ok (.iadd, 1) := by decide +kernel
theorem dX5_multiplyByFraction_31 : decode prog_7_method_15_code 31 = .ok (.iaload, 1) := by decide +kernel
theorem dX5_multiplyByFraction_32 : decode prog_7_method_15_code 32 = .ok (.iadd, 1) := by decide +kernel
theorem dX5_multiplyByFraction_33 : decode prog_7_method_15_code 33 = .ok (.iastore, 1) := by decide +kernel
theorem dX5_multiplyByFraction_34 : decode prog_7_method_15_code 34 = .ok (.iinc 4 1, 3) := by decide +kernel
theorem dX5_multiplyByFraction_37 : decode prog_7_method_15_code 37 = .ok (.goto (-29), 3) := by decide +kernel
theorem dX5_multiplyByFraction_40 : decode prog_7_method_15_code 40 = .ok (.return_, 1) := by decide +kernel
theorem okM_X5_multiplyByFraction : okM mX5_multiplyByFraction 2 := ⟨tw437, tw5, by decide, by decide, by decide +kernel⟩
abbrev KTX5_multiplyByFraction : Type := (XW → Nat → Nat → Int32 → Int32 → Option XW)
def hX5_multiplyByFraction_8 (K : CX) (k : KTX5_multiplyByFraction) (w : XW) (l0 : Nat) (l1 : Nat) (l3 : Int32) (l4 : Int32) : Option XW :=
  if (6 : Int32) ≤ l4 then
  some w
  else
  (gR w l0 5 0).bind fun x2 =>
  (aI w 0 x2 l4).bind fun x5 =>
  (gR w l1 1 3).bind fun x8 =>
  (aI w 0 x8 (l3 + l4)).bind fun x11 =>
  (sI w 0 x2 l4 (x5 + x11)).bind fun w14 =>
  k w14 l0 l1 l3 (l4 + (1 : Int32))
theorem HX5_multiplyByFraction_8 {K : CX} {l : Launch} {n0 k0 : Nat} {k : KTX5_multiplyByFraction} (hk0 : ∀ (w : XW) (l0 : Nat) (l1 : Nat) (l3 : Int32) (l4 : Int32) (q : XW), k w l0 l1 l3 l4 = some q → WP K l mX5_multiplyByFraction 1 20 n0 k0 none q 8 [some (.ref l0), some (.ref l1), none, some (.int l3), some (.int l4)] [] w) {w : XW} {l0 : Nat} {l1 : Nat} {l3 : Int32} {l4 : Int32} {q : XW} (h0 : hX5_multiplyByFraction_8 K k w l0 l1 l3 l4 = some q) : WP K l mX5_multiplyByFraction 1 20 n0 k0 none q 8 [some (.ref l0), some (.ref l1), none, some (.int l3), some (.int l4)] [] w := by
  unfold hX5_multiplyByFraction_8 at h0
  refine wp_iload dX5_multiplyByFraction_8 rfl ?_
  refine wp_bipush (v := (6 : Int32)) dX5_multiplyByFraction_10 (by decide) ?_
  refine wp_icmp_ge (tgt := 40) dX5_multiplyByFraction_12 (by decide) (fun c1 => ?_) (fun c1 => ?_)
  · rw [if_pos c1] at h0
    cases h0
    exact wp_vret rfl dX5_multiplyByFraction_40
  · rw [if_neg c1] at h0
    refine wp_aload_n dX5_multiplyByFraction_15 rfl ?_
    obtain ⟨x2, e4, h3⟩ := Option.bind_eq_some_iff.mp h0
    clear h0
    refine wp_getR okX5 (k := 0) (by decide) tw92 dX5_multiplyByFraction_16 e4 ?_
    refine wp_iload dX5_multiplyByFraction_19 rfl ?_
    refine wp_dup2 dX5_multiplyByFraction_21 rfl rfl ?_
    obtain ⟨x5, e7, h6⟩ := Option.bind_eq_some_iff.mp h3
    clear h3
    refine wp_iald dX5_multiplyByFraction_22 e7 ?_
    refine wp_aload_n dX5_multiplyByFraction_23 rfl ?_
    obtain ⟨x8, e10, h9⟩ := Option.bind_eq_some_iff.mp h6
    clear h6
    refine wp_getR okX1 (k := 3) (by decide) tw66 dX5_multiplyByFraction_24 e10 ?_
    refine wp_iload_n dX5_multiplyByFraction_27 rfl ?_
    refine wp_iload dX5_multiplyByFraction_28 rfl ?_
    refine wp_iadd dX5_multiplyByFraction_30 ?_
    obtain ⟨x11, e13, h12⟩ := Option.bind_eq_some_iff.mp h9
    clear h9
    refine wp_iald dX5_multiplyByFraction_31 e13 ?_
    refine wp_iadd dX5_multiplyByFraction_32 ?_
    obtain ⟨w14, e16, h15⟩ := Option.bind_eq_some_iff.mp h12
    clear h12
    refine wp_iast dX5_multiplyByFraction_33 e16 ?_
    refine wp_iinc (v := (l4 + (1 : Int32))) (L1 := [some (.ref l0), some (.ref l1), none, some (.int l3), some (.int (l4 + (1 : Int32)))]) dX5_multiplyByFraction_34 (Nat.le_of_ble_eq_true rfl) rfl (congrArg (fun z => l4 + z) (by decide)) rfl ?_
    refine wp_goto (tgt := 8) dX5_multiplyByFraction_37 (by decide) ?_
    exact WP.wk (hk0 _ _ _ _ _ _ h15) (And.intro rfl (And.intro rfl (And.intro rfl (And.intro rfl trivial))))
def eX5_multiplyByFraction (K : CX) (k : KTX5_multiplyByFraction) (w : XW) (l0 : Nat) (l1 : Nat) (l2 : Int32) : Option XW :=
  k w l0 l1 (l2 * (6 : Int32)) (0 : Int32)
theorem EX5_multiplyByFraction {K : CX} {l : Launch} {n0 k0 : Nat} {k : KTX5_multiplyByFraction} (hk0 : ∀ (w : XW) (l0 : Nat) (l1 : Nat) (l3 : Int32) (l4 : Int32) (q : XW), k w l0 l1 l3 l4 = some q → WP K l mX5_multiplyByFraction 1 20 n0 k0 none q 8 [some (.ref l0), some (.ref l1), none, some (.int l3), some (.int l4)] [] w) {w : XW} {l0 : Nat} {l1 : Nat} {l2 : Int32} {q : XW} (h0 : eX5_multiplyByFraction K k w l0 l1 l2 = some q) : WP K l mX5_multiplyByFraction 1 20 n0 k0 none q 0 [some (.ref l0), some (.ref l1), some (.int l2), none, none] [] w := by
  unfold eX5_multiplyByFraction at h0
  refine wp_iload_n dX5_multiplyByFraction_0 rfl ?_
  refine wp_bipush (v := (6 : Int32)) dX5_multiplyByFraction_1 (by decide) ?_
  refine wp_imul dX5_multiplyByFraction_3 ?_
  refine wp_istore_n (L1 := [some (.ref l0), some (.ref l1), some (.int l2), some (.int (l2 * (6 : Int32))), none]) dX5_multiplyByFraction_4 (Nat.le_of_ble_eq_true rfl) rfl ?_
  refine wp_iconst (v := (0 : Int32)) dX5_multiplyByFraction_5 (by decide) ?_
  refine wp_istore (L1 := [some (.ref l0), some (.ref l1), some (.int l2), some (.int (l2 * (6 : Int32))), some (.int (0 : Int32))]) dX5_multiplyByFraction_6 (Nat.le_of_ble_eq_true rfl) rfl ?_
  exact WP.wk (hk0 _ _ _ _ _ _ h0) (And.intro rfl (And.intro rfl (And.intro rfl (And.intro rfl trivial))))
def loX5_multiplyByFraction (K : CX) : Nat → KTX5_multiplyByFraction
  | 0 => fun _ _ _ _ _ => none
  | n + 1 => hX5_multiplyByFraction_8 K (loX5_multiplyByFraction K n)
theorem LOX5_multiplyByFraction {K : CX} {l : Launch} {n0 k0 : Nat} : ∀ n : Nat, (∀ (w : XW) (l0 : Nat) (l1 : Nat) (l3 : Int32) (l4 : Int32) (q : XW), (loX5_multiplyByFraction K n) w l0 l1 l3 l4 = some q → WP K l mX5_multiplyByFraction 1 20 n0 k0 none q 8 [some (.ref l0), some (.ref l1), none, some (.int l3), some (.int l4)] [] w) := by
  intro n
  induction n with
  | zero => exact fun _ _ _ _ _ q h => by cases h
  | succ n ih => exact fun _ _ _ _ _ q h => HX5_multiplyByFraction_8 ih h
def fX5_multiplyByFraction (K : CX) (w : XW) (l0 : Nat) (l1 : Nat) (l2 : Int32) : Option XW := if isO w l0 5 = true then eX5_multiplyByFraction K (loX5_multiplyByFraction K FU) w l0 l1 l2 else none
theorem OX5_multiplyByFraction {K : CX} {w : XW} {l0 : Nat} {l1 : Nat} {l2 : Int32} {q : XW} (h : fX5_multiplyByFraction K w l0 l1 l2 = some q) : isO w l0 5 = true := Decidable.byContradiction fun z => by unfold fX5_multiplyByFraction at h; rw [if_neg z] at h; cases h
theorem MX5_multiplyByFraction {K : CX} {l : Launch} {w : XW} {l0 : Nat} {l1 : Nat} {l2 : Int32} {q : XW} (h : fX5_multiplyByFraction K w l0 l1 l2 = some q) : MT K l mX5_multiplyByFraction 1 20 [.ref l0, .ref l1, .int l2] w none q := by
  have z := OX5_multiplyByFraction h
  unfold fX5_multiplyByFraction at h
  rw [if_pos z] at h
  exact MT.of (by decide) (Nat.le_of_ble_eq_true rfl) rfl (EX5_multiplyByFraction (LOX5_multiplyByFraction FU) h)
/-! FractionRun$State.takeStep(LFractionRun$Fractions;)I: frames 3, words 71 -/
abbrev mX5_takeStep : MR := (⟨"FractionRun$State", "takeStep", "(LFractionRun$Fractions;)I"⟩, prog_7_method_14_code, 3, (some .int))
theorem dX5_takeStep_0 : decode prog_7_method_14_code 0 = .ok (.aload_n 0, 1) := by decide +kernel
theorem dX5_takeStep_1 : decode prog_7_method_14_code 1 = .ok (.aload_n 1, 1) := by decide +kernel
theorem dX5_takeStep_2 : decode prog_7_method_14_code 2 = .ok (.invokevirtual 63, 3) := by decide +kernel
theorem dX5_takeStep_5 : decode prog_7_method_14_code 5 = .ok (.istore_n 2, 1) := by decide +kernel
theorem dX5_takeStep_6 : decode prog_7_method_14_code 6 = .ok (.iload_n 2, 1) := by decide +kernel
theorem dX5_takeStep_7 : decode prog_7_method_14_code 7 = .ok (.bipush (-4), 2) := by decide +kernel
theorem dX5_takeStep_9 : decode prog_7_method_14_code 9 = .ok (.if_icmp .ne 6, 3) := by decide +kernel
theorem dX5_takeStep_12 : decode prog_7_method_14_code 12 = .ok (.bipush (-4), 2) := by decide +kernel
theorem dX5_takeStep_14 : decode prog_7_method_14_code 14 = .ok (.ireturn, 1) := by decide +kernel
theorem dX5_takeStep_15 : decode prog_7_method_14_code 15 = .ok (.aload_n 0, 1) := by decide +kernel
theorem dX5_takeStep_16 : decode prog_7_method_14_code 16 = .ok (.aload_n 1, 1) := by decide +kernel
theorem dX5_takeStep_17 : decode prog_7_method_14_code 17 = .ok (.iload_n 2, 1) := by decide +kernel
theorem dX5_takeStep_18 : decode prog_7_method_14_code 18 = .ok (.invokevirtual 67, 3) := by decide +kernel
theorem dX5_takeStep_21 : decode prog_7_method_14_code 21 = .ok (.aload_n 0, 1) := by decide +kernel
theorem dX5_takeStep_22 : decode prog_7_method_14_code 22 = .ok (.iconst 1, 1) := by decide +kernel
theorem dX5_takeStep_23 : decode prog_7_method_14_code 23 = .ok (.putfield 71, 3) := by decide +kernel
theorem dX5_takeStep_26 : decode prog_7_method_14_code 26 = .ok (.aload_n 1, 1) := by decide +kernel
theorem dX5_takeStep_27 : decode prog_7_method_14_code 27 = .ok (.getfield 49, 3) := by decide +kernel
theorem dX5_takeStep_30 : decode prog_7_method_14_code 30 = .ok (.iload_n 2, 1) := by decide +kernel
theorem dX5_takeStep_31 : decode prog_7_method_14_code 31 = .ok (.iaload, 1) := by decide +kernel
theorem dX5_takeStep_32 : decode prog_7_method_14_code 32 = .ok (.iconst 3, 1) := by decide +kernel
theorem dX5_takeStep_33 : decode prog_7_method_14_code 33 = .ok (.if_icmp .ne 23, 3) := by decide +kernel
theorem dX5_takeStep_36 : decode prog_7_method_14_code 36 = .ok (.aload_n 0, 1) := by decide +kernel
theorem dX5_takeStep_37 : decode prog_7_method_14_code 37 = .ok (.aload_n 1, 1) := by decide +kernel
theorem dX5_takeStep_38 : decode prog_7_method_14_code 38 = .ok (.iload_n 2, 1) := by decide +kernel
theorem dX5_takeStep_39 : decode prog_7_method_14_code 39 = .ok (.invokevirtual 55, 3) := by decide +kernel
theorem dX5_takeStep_42 : decode prog_7_method_14_code 42 = .ok (.ifCond .eq 14, 3) := by decide +kernel
theorem dX5_takeStep_45 : decode prog_7_method_14_code 45 = .ok (.aload_n 0, 1) := by decide +kernel
theorem dX5_takeStep_46 : decode prog_7_method_14_code 46 = .ok (.aload_n 1, 1) := by decide +kernel
theorem dX5_takeStep_47 : decode prog_7_method_14_code 47 = .ok (.iload_n 2, 1) := by decide +kernel
theorem dX5_takeStep_48 : decode prog_7_method_14_code 48 = .ok (.invokevirtual 67, 3) := by decide +kernel
theorem dX5_takeStep_51 : decode prog_7_method_14_code 51 = .ok (.aload_n 0, 1) := by decide +kernel
theorem dX5_takeStep_52 : decode prog_7_method_14_code 52 = .ok (.iconst 2, 1) := by decide +kernel
theorem dX5_takeStep_53 : decode prog_7_method_14_code 53 = .ok (.putfield 71, 3) := by decide +kernel
theorem dX5_takeStep_56 : decode prog_7_method_14_code 56 = .ok (.aload_n 0, 1) := by decide +kernel
theorem dX5_takeStep_57 : decode prog_7_method_14_code 57 = .ok (.dup, 1) := by decide +kernel
theorem dX5_takeStep_58 : decode prog_7_method_14_code 58 = .ok (.getfield 39, 3) := by decide +kernel
theorem dX5_takeStep_61 : decode prog_7_method_14_code 61 = .ok (.iconst 1, 1) := by decide +kernel
theorem dX5_takeStep_62 : decode prog_7_method_14_code 62 = .ok (.iload_n 2, 1) := by decide +kernel
theorem dX5_takeStep_63 : decode prog_7_method_14_code 63 = .ok (.ishl, 1) := by decide +kernel
theorem dX5_takeStep_64 : decode prog_7_method_14_code 64 = .ok (.ior, 1) := by decide +kernel
theorem dX5_takeStep_65 : decode prog_7_method_14_code 65 = .ok (.putfield 39, 3) := by decide +kernel
theorem dX5_takeStep_68 : decode prog_7_method_14_code 68 = .ok (.aload_n 0, 1) := by decide +kernel
theorem dX5_takeStep_69 : decode prog_7_method_14_code 69 = .ok (.aload_n 1, 1) := by decide +kernel
theorem dX5_takeStep_70 : decode prog_7_method_14_code 70 = .ok (.getfield 49, 3) := by decide +kernel
theorem dX5_takeStep_73 : decode prog_7_method_14_code 73 = .ok (.iload_n 2, 1) := by decide +kernel
theorem dX5_takeStep_74 : decode prog_7_method_14_code 74 = .ok (.iaload, 1) := by decide +kernel
theorem dX5_takeStep_75 : decode prog_7_method_14_code 75 = .ok (.iconst 5, 1) := by decide +kernel
theorem dX5_takeStep_76 : decode prog_7_method_14_code 76 = .ok (.if_icmp .ne 7, 3) := by decide +kernel
theorem dX5_takeStep_79 : decode prog_7_method_14_code 79 = .ok (.iconst 1, 1) := by decide +kernel
theorem dX5_takeStep_80 : decode prog_7_method_14_code 80 = .ok (.goto 4, 3) := by decide +kernel
theorem dX5_takeStep_83 : decode prog_7_method_14_code 83 = .ok (.iconst 0, 1) := by decide +kernel
theorem dX5_takeStep_84 : decode prog_7_method_14_code 84 = .ok (.putfield 45, 3) := by decide +kernel
theorem dX5_takeStep_87 : decode prog_7_method_14_code 87 = .ok (.aload_n 0, 1) := by decide +kernel
theorem dX5_takeStep_88 : decode prog_7_method_14_code 88 = .ok (.dup, 1) := by decide +kernel
theorem dX5_takeStep_89 : decode prog_7_method_14_code 89 = .ok (.getfield 42, 3) := by decide +kernel
theorem dX5_takeStep_92 : decode prog_7_method_14_code 92 = .ok (.iconst 1, 1) := by decide +kernel
theorem dX5_takeStep_93 : decode prog_7_method_14_code 93 = .ok (.iadd, 1) := by decide +kernel
theorem dX5_takeStep_94 : decode prog_7_method_14_code 94 = .ok (.putfield 42, 3) := by decide +kernel
theorem dX5_takeStep_97 : decode prog_7_method_14_code 97 = .ok (.iload_n 2, 1) := by decide +kernel
theorem dX5_takeStep_98 : decode prog_7_method_14_code 98 = .ok (.ireturn, 1) := by decide +kernel
theorem okM_X5_takeStep : okM mX5_takeStep 1 := ⟨tw433, tw5, by decide, by decide, by decide +kernel⟩
def bX5_takeStep_84 (K : CX) (w : XW) (l0 : Nat) (l2 : Int32) (s0 : Nat) (s1 : Int32) : Option (Int32 × XW) :=
  if s1 &&& 1 = s1 then
  (pV w s0 5 5 (.int s1)).bind fun w1 =>
  (gI w1 l0 5 4).bind fun x6 =>
  (pV w1 l0 5 4 (.int (x6 + (1 : Int32)))).bind fun w9 =>
  some (l2, w9)
  else none
theorem BX5_takeStep_84 {K : CX} {l : Launch} {n0 k0 : Nat} {w : XW} {l0 : Nat} {l2 : Int32} {s0 : Nat} {s1 : Int32} {q : Int32 × XW} (h0 : bX5_takeStep_84 K w l0 l2 s0 s1 = some q) : WP K l mX5_takeStep 3 71 n0 k0 (some (.int q.1)) q.2 84 [some (.ref l0), none, some (.int l2)] [.int s1, .ref s0] w := by
  unfold bX5_takeStep_84 at h0
  have c2 : s1 &&& 1 = s1 := Decidable.byContradiction fun z => by rw [if_neg z] at h0; cases h0
  rw [if_pos c2] at h0
  obtain ⟨w1, e5, h4⟩ := Option.bind_eq_some_iff.mp h0
  clear h0
  refine wp_putV okX5 (k := 5) (by decide) rfl tw105 dX5_takeStep_84 (zb_n c2) (zb_f c2) e5 ?_
  refine wp_aload_n dX5_takeStep_87 rfl ?_
  refine wp_dup dX5_takeStep_88 rfl ?_
  obtain ⟨x6, e8, h7⟩ := Option.bind_eq_some_iff.mp h4
  clear h4
  refine wp_getI okX5 (k := 4) (by decide) tw103 dX5_takeStep_89 e8 ?_
  refine wp_iconst (v := (1 : Int32)) dX5_takeStep_92 (by decide) ?_
  refine wp_iadd dX5_takeStep_93 ?_
  obtain ⟨w9, e11, h10⟩ := Option.bind_eq_some_iff.mp h7
  clear h7
  refine wp_putV okX5 (k := 4) (by decide) rfl tw103 dX5_takeStep_94 rfl rfl e11 ?_
  refine wp_iload_n dX5_takeStep_97 rfl ?_
  cases h10
  exact wp_iret rfl dX5_takeStep_98
def bX5_takeStep_56 (K : CX) (w : XW) (l0 : Nat) (l1 : Nat) (l2 : Int32) : Option (Int32 × XW) :=
  (gI w l0 5 3).bind fun x1 =>
  (pV w l0 5 3 (.int (x1 ||| ((1 : Int32) <<< (l2 &&& 31))))).bind fun w4 =>
  (gR w4 l1 1 0).bind fun x7 =>
  (aI w4 0 x7 l2).bind fun x10 =>
  if x10 = (5 : Int32) then
  bX5_takeStep_84 K w4 l0 l2 l0 (1 : Int32)
  else
  bX5_takeStep_84 K w4 l0 l2 l0 (0 : Int32)
theorem BX5_takeStep_56 {K : CX} {l : Launch} {n0 k0 : Nat} {w : XW} {l0 : Nat} {l1 : Nat} {l2 : Int32} {q : Int32 × XW} (h0 : bX5_takeStep_56 K w l0 l1 l2 = some q) : WP K l mX5_takeStep 3 71 n0 k0 (some (.int q.1)) q.2 56 [some (.ref l0), some (.ref l1), some (.int l2)] [] w := by
  unfold bX5_takeStep_56 at h0
  refine wp_aload_n dX5_takeStep_56 rfl ?_
  refine wp_dup dX5_takeStep_57 rfl ?_
  obtain ⟨x1, e3, h2⟩ := Option.bind_eq_some_iff.mp h0
  clear h0
  refine wp_getI okX5 (k := 3) (by decide) tw100 dX5_takeStep_58 e3 ?_
  refine wp_iconst (v := (1 : Int32)) dX5_takeStep_61 (by decide) ?_
  refine wp_iload_n dX5_takeStep_62 rfl ?_
  refine wp_ishl dX5_takeStep_63 ?_
  refine wp_ior dX5_takeStep_64 ?_
  obtain ⟨w4, e6, h5⟩ := Option.bind_eq_some_iff.mp h2
  clear h2
  refine wp_putV okX5 (k := 3) (by decide) rfl tw100 dX5_takeStep_65 rfl rfl e6 ?_
  refine wp_aload_n dX5_takeStep_68 rfl ?_
  refine wp_aload_n dX5_takeStep_69 rfl ?_
  obtain ⟨x7, e9, h8⟩ := Option.bind_eq_some_iff.mp h5
  clear h5
  refine wp_getR okX1 (k := 0) (by decide) tw60 dX5_takeStep_70 e9 ?_
  refine wp_iload_n dX5_takeStep_73 rfl ?_
  obtain ⟨x10, e12, h11⟩ := Option.bind_eq_some_iff.mp h8
  clear h8
  refine wp_iald dX5_takeStep_74 e12 ?_
  refine wp_iconst (v := (5 : Int32)) dX5_takeStep_75 (by decide) ?_
  refine wp_icmp_ne (tgt := 83) dX5_takeStep_76 (by decide) (fun c13 => ?_) (fun c13 => ?_)
  · rw [if_neg c13] at h11
    refine wp_iconst (v := (0 : Int32)) dX5_takeStep_83 (by decide) ?_
    exact WP.wk (BX5_takeStep_84 h11) (And.intro rfl (And.intro rfl trivial))
  · rw [if_pos c13] at h11
    refine wp_iconst (v := (1 : Int32)) dX5_takeStep_79 (by decide) ?_
    refine wp_goto (tgt := 84) dX5_takeStep_80 (by decide) ?_
    exact WP.wk (BX5_takeStep_84 h11) (And.intro rfl (And.intro rfl trivial))
def eX5_takeStep (K : CX) (w : XW) (l0 : Nat) (l1 : Nat) : Option (Int32 × XW) :=
  (fX5_nextFraction K w l0 l1).bind fun q1 =>
  if q1.1 = (-4 : Int32) then
  some ((-4 : Int32), q1.2)
  else
  (fX5_multiplyByFraction K q1.2 l0 l1 q1.1).bind fun q5 =>
  (pV q5 l0 5 6 (.int (1 : Int32))).bind fun w8 =>
  (gR w8 l1 1 0).bind fun x11 =>
  (aI w8 0 x11 q1.1).bind fun x14 =>
  if x14 = (3 : Int32) then
  (fX5_isUsable K w8 l0 l1 q1.1).bind fun q18 =>
  if q18.1 = 0 then
  bX5_takeStep_56 K q18.2 l0 l1 q1.1
  else
  (fX5_multiplyByFraction K q18.2 l0 l1 q1.1).bind fun q22 =>
  (pV q22 l0 5 6 (.int (2 : Int32))).bind fun w25 =>
  bX5_takeStep_56 K w25 l0 l1 q1.1
  else
  bX5_takeStep_56 K w8 l0 l1 q1.1
theorem EX5_takeStep {K : CX} {l : Launch} {n0 k0 : Nat} {w : XW} {l0 : Nat} {l1 : Nat} {q : Int32 × XW} (h0 : eX5_takeStep K w l0 l1 = some q) : WP K l mX5_takeStep 3 71 n0 k0 (some (.int q.1)) q.2 0 [some (.ref l0), some (.ref l1), none] [] w := by
  unfold eX5_takeStep at h0
  refine wp_aload_n dX5_takeStep_0 rfl ?_
  refine wp_aload_n dX5_takeStep_1 rfl ?_
  obtain ⟨q1, e3, h2⟩ := Option.bind_eq_some_iff.mp h0
  clear h0
  refine wp_Vi (As := [.ref l1]) (S := []) okM_X5_nextFraction tw410 tw411 tw409 (OX5_nextFraction e3) rfl rfl rfl ⟨(Nat.le_of_ble_eq_true rfl), (Nat.le_of_ble_eq_true rfl)⟩ (Nat.le_of_ble_eq_true rfl) rfl dX5_takeStep_2 (MX5_nextFraction e3) ?_
  refine wp_istore_n (L1 := [some (.ref l0), some (.ref l1), some (.int q1.1)]) dX5_takeStep_5 (Nat.le_of_ble_eq_true rfl) rfl ?_
  refine wp_iload_n dX5_takeStep_6 rfl ?_
  refine wp_bipush (v := (-4 : Int32)) dX5_takeStep_7 (by decide) ?_
  refine wp_icmp_ne (tgt := 15) dX5_takeStep_9 (by decide) (fun c4 => ?_) (fun c4 => ?_)
  · rw [if_neg c4] at h2
    refine wp_aload_n dX5_takeStep_15 rfl ?_
    refine wp_aload_n dX5_takeStep_16 rfl ?_
    refine wp_iload_n dX5_takeStep_17 rfl ?_
    obtain ⟨q5, e7, h6⟩ := Option.bind_eq_some_iff.mp h2
    clear h2
    refine wp_Vv (As := [.ref l1, .int q1.1]) (S := []) okM_X5_multiplyByFraction tw436 twP_X5_multiplyByFraction tw434 (OX5_multiplyByFraction e7) rfl rfl rfl ⟨(Nat.le_of_ble_eq_true rfl), (Nat.le_of_ble_eq_true rfl)⟩ (Nat.le_of_ble_eq_true rfl) rfl dX5_takeStep_18 (MX5_multiplyByFraction e7) ?_
    refine wp_aload_n dX5_takeStep_21 rfl ?_
    refine wp_iconst (v := (1 : Int32)) dX5_takeStep_22 (by decide) ?_
    obtain ⟨w8, e10, h9⟩ := Option.bind_eq_some_iff.mp h6
    clear h6
    refine wp_putV okX5 (k := 6) (by decide) rfl tw107 dX5_takeStep_23 rfl rfl e10 ?_
    refine wp_aload_n dX5_takeStep_26 rfl ?_
    obtain ⟨x11, e13, h12⟩ := Option.bind_eq_some_iff.mp h9
    clear h9
    refine wp_getR okX1 (k := 0) (by decide) tw60 dX5_takeStep_27 e13 ?_
    refine wp_iload_n dX5_takeStep_30 rfl ?_
    obtain ⟨x14, e16, h15⟩ := Option.bind_eq_some_iff.mp h12
    clear h12
    refine wp_iald dX5_takeStep_31 e16 ?_
    refine wp_iconst (v := (3 : Int32)) dX5_takeStep_32 (by decide) ?_
    refine wp_icmp_ne (tgt := 56) dX5_takeStep_33 (by decide) (fun c17 => ?_) (fun c17 => ?_)
    · rw [if_neg c17] at h15
      exact WP.wk (BX5_takeStep_56 h15) (And.intro rfl (And.intro rfl (And.intro rfl trivial)))
    · rw [if_pos c17] at h15
      refine wp_aload_n dX5_takeStep_36 rfl ?_
      refine wp_aload_n dX5_takeStep_37 rfl ?_
      refine wp_iload_n dX5_takeStep_38 rfl ?_
      obtain ⟨q18, e20, h19⟩ := Option.bind_eq_some_iff.mp h15
      clear h15
      refine wp_Vi (As := [.ref l1, .int q1.1]) (S := []) okM_X5_isUsable tw391 tw392 tw413 (OX5_isUsable e20) rfl rfl rfl ⟨(Nat.le_of_ble_eq_true rfl), (Nat.le_of_ble_eq_true rfl)⟩ (Nat.le_of_ble_eq_true rfl) rfl dX5_takeStep_39 (MX5_isUsable e20) ?_
      refine wp_if_eq (tgt := 56) dX5_takeStep_42 (by decide) (fun c21 => ?_) (fun c21 => ?_)
      · rw [if_pos c21] at h19
        exact WP.wk (BX5_takeStep_56 h19) (And.intro rfl (And.intro rfl (And.intro rfl trivial)))
      · rw [if_neg c21] at h19
        refine wp_aload_n dX5_takeStep_45 rfl ?_
        refine wp_aload_n dX5_takeStep_46 rfl ?_
        refine wp_iload_n dX5_takeStep_47 rfl ?_
        obtain ⟨q22, e24, h23⟩ := Option.bind_eq_some_iff.mp h19
        clear h19
        refine wp_Vv (As := [.ref l1, .int q1.1]) (S := []) okM_X5_multiplyByFraction tw436 twP_X5_multiplyByFraction tw434 (OX5_multiplyByFraction e24) rfl rfl rfl ⟨(Nat.le_of_ble_eq_true rfl), (Nat.le_of_ble_eq_true rfl)⟩ (Nat.le_of_ble_eq_true rfl) rfl dX5_takeStep_48 (MX5_multiplyByFraction e24) ?_
        refine wp_aload_n dX5_takeStep_51 rfl ?_
        refine wp_iconst (v := (2 : Int32)) dX5_takeStep_52 (by decide) ?_
        obtain ⟨w25, e27, h26⟩ := Option.bind_eq_some_iff.mp h23
        clear h23
        refine wp_putV okX5 (k := 6) (by decide) rfl tw107 dX5_takeStep_53 rfl rfl e27 ?_
        exact WP.wk (BX5_takeStep_56 h26) (And.intro rfl (And.intro rfl (And.intro rfl trivial)))
  · rw [if_pos c4] at h2
    refine wp_bipush (v := (-4 : Int32)) dX5_takeStep_12 (by decide) ?_
    cases h2
    exact wp_iret rfl dX5_takeStep_14
def fX5_takeStep (K : CX) (w : XW) (l0 : Nat) (l1 : Nat) : Option (Int32 × XW) := if isO w l0 5 = true then eX5_takeStep K w l0 l1 else none
theorem OX5_takeStep {K : CX} {w : XW} {l0 : Nat} {l1 : Nat} {q : Int32 × XW} (h : fX5_takeStep K w l0 l1 = some q) : isO w l0 5 = true := Decidable.byContradiction fun z => by unfold fX5_takeStep at h; rw [if_neg z] at h; cases h
theorem MX5_takeStep {K : CX} {l : Launch} {w : XW} {l0 : Nat} {l1 : Nat} {q : Int32 × XW} (h : fX5_takeStep K w l0 l1 = some q) : MT K l mX5_takeStep 3 71 [.ref l0, .ref l1] w (some (.int q.1)) q.2 := by
  have z := OX5_takeStep h
  unfold fX5_takeStep at h
  rw [if_pos z] at h
  exact MT.of (by decide) (Nat.le_of_ble_eq_true rfl) rfl (EX5_takeStep h)
/-! FractionRun$State.takeSteps(LFractionRun$Fractions;I)I: frames 4, words 93 -/
abbrev mX5_takeSteps : MR := (⟨"FractionRun$State", "takeSteps", "(LFractionRun$Fractions;I)I"⟩, prog_7_method_16_code, 4, (some .int))
theorem dX5_takeSteps_0 : decode prog_7_method_16_code 0 = .ok (.iconst 0, 1) := by decide +kernel
theorem dX5_takeSteps_1 : decode prog_7_method_16_code 1 = .ok (.istore_n 3, 1) := by decide +kernel
theorem dX5_takeSteps_2 : decode prog_7_method_16_code 2 = .ok (.iload_n 3, 1) := by decide +kernel
theorem dX5_takeSteps_3 : decode prog_7_method_16_code 3 = .ok (.iload_n 2, 1) := by decide +kernel
theorem dX5_takeSteps_4 : decode prog_7_method_16_code 4 = .ok (.if_icmp .ge 19, 3) := by decide +kernel
theorem dX5_takeSteps_7 : decode prog_7_method_16_code 7 = .ok (.aload_n 0, 1) := by decide +kernel
theorem dX5_takeSteps_8 : decode prog_7_method_16_code 8 = .ok (.aload_n 1, 1) := by decide +kernel
theorem dX5_takeSteps_9 : decode prog_7_method_16_code 9 = .ok (.invokevirtual 74, 3) := by decide +kernel
theorem dX5_takeSteps_12 : decode prog_7_method_16_code 12 = .ok (.bipush (-4), 2) := by decide +kernel
theorem dX5_takeSteps_14 : decode prog_7_method_16_code 14 = .ok (.if_icmp .eq 9, 3) := by decide +kernel
theorem dX5_takeSteps_17 : decode prog_7_method_16_code 17 = .ok (.iinc 3 1, 3) := by decide +kernel
theorem dX5_takeSteps_20 : decode prog_7_method_16_code 20 = .ok (.goto (-18), 3) := by decide +kernel
theorem dX5_takeSteps_23 : decode prog_7_method_16_code 23 = .ok (.iload_n 3, 1) := by decide +kernel
theorem dX5_takeSteps_24 : decode prog_7_method_16_code 24 = .ok (.ireturn, 1) := by decide +kernel
theorem okM_X5_takeSteps : okM mX5_takeSteps 2 := ⟨tw429, tw5, by decide, by decide, by decide +kernel⟩
abbrev KTX5_takeSteps : Type := (XW → Nat → Nat → Int32 → Int32 → Option (Int32 × XW))
def bX5_takeSteps_23 (K : CX) (k : KTX5_takeSteps) (w : XW) (l3 : Int32) : Option (Int32 × XW) :=
  some (l3, w)
theorem BX5_takeSteps_23 {K : CX} {l : Launch} {n0 k0 : Nat} {k : KTX5_takeSteps} (hk0 : ∀ (w : XW) (l0 : Nat) (l1 : Nat) (l2 : Int32) (l3 : Int32) (q : Int32 × XW), k w l0 l1 l2 l3 = some q → WP K l mX5_takeSteps 4 93 n0 k0 (some (.int q.1)) q.2 2 [some (.ref l0), some (.ref l1), some (.int l2), some (.int l3)] [] w) {w : XW} {l3 : Int32} {q : Int32 × XW} (h0 : bX5_takeSteps_23 K k w l3 = some q) : WP K l mX5_takeSteps 4 93 n0 k0 (some (.int q.1)) q.2 23 [none, none, none, some (.int l3)] [] w := by
  unfold bX5_takeSteps_23 at h0
  refine wp_iload_n dX5_takeSteps_23 rfl ?_
  cases h0
  exact wp_iret rfl dX5_takeSteps_24
def hX5_takeSteps_2 (K : CX) (k : KTX5_takeSteps) (w : XW) (l0 : Nat) (l1 : Nat) (l2 : Int32) (l3 : Int32) : Option (Int32 × XW) :=
  if l2 ≤ l3 then
  bX5_takeSteps_23 K k w l3
  else
  (fX5_takeStep K w l0 l1).bind fun q2 =>
  if q2.1 = (-4 : Int32) then
  bX5_takeSteps_23 K k q2.2 l3
  else
  k q2.2 l0 l1 l2 (l3 + (1 : Int32))
theorem HX5_takeSteps_2 {K : CX} {l : Launch} {n0 k0 : Nat} {k : KTX5_takeSteps} (hk0 : ∀ (w : XW) (l0 : Nat) (l1 : Nat) (l2 : Int32) (l3 : Int32) (q : Int32 × XW), k w l0 l1 l2 l3 = some q → WP K l mX5_takeSteps 4 93 n0 k0 (some (.int q.1)) q.2 2 [some (.ref l0), some (.ref l1), some (.int l2), some (.int l3)] [] w) {w : XW} {l0 : Nat} {l1 : Nat} {l2 : Int32} {l3 : Int32} {q : Int32 × XW} (h0 : hX5_takeSteps_2 K k w l0 l1 l2 l3 = some q) : WP K l mX5_takeSteps 4 93 n0 k0 (some (.int q.1)) q.2 2 [some (.ref l0), some (.ref l1), some (.int l2), some (.int l3)] [] w := by
  unfold hX5_takeSteps_2 at h0
  refine wp_iload_n dX5_takeSteps_2 rfl ?_
  refine wp_iload_n dX5_takeSteps_3 rfl ?_
  refine wp_icmp_ge (tgt := 23) dX5_takeSteps_4 (by decide) (fun c1 => ?_) (fun c1 => ?_)
  · rw [if_pos c1] at h0
    exact WP.wk (BX5_takeSteps_23 hk0 h0) (And.intro rfl trivial)
  · rw [if_neg c1] at h0
    refine wp_aload_n dX5_takeSteps_7 rfl ?_
    refine wp_aload_n dX5_takeSteps_8 rfl ?_
    obtain ⟨q2, e4, h3⟩ := Option.bind_eq_some_iff.mp h0
    clear h0
    refine wp_Vi (As := [.ref l1]) (S := []) okM_X5_takeStep tw431 tw432 tw430 (OX5_takeStep e4) rfl rfl rfl ⟨(Nat.le_of_ble_eq_true rfl), (Nat.le_of_ble_eq_true rfl)⟩ (Nat.le_of_ble_eq_true rfl) rfl dX5_takeSteps_9 (MX5_takeStep e4) ?_
    refine wp_bipush (v := (-4 : Int32)) dX5_takeSteps_12 (by decide) ?_
    refine wp_icmp_eq (tgt := 23) dX5_takeSteps_14 (by decide) (fun c5 => ?_) (fun c5 => ?_)
    · rw [if_pos c5] at h3
      exact WP.wk (BX5_takeSteps_23 hk0 h3) (And.intro rfl trivial)
    · rw [if_neg c5] at h3
      refine wp_iinc (v := (l3 + (1 : Int32))) (L1 := [some (.ref l0), some (.ref l1), some (.int l2), some (.int (l3 + (1 : Int32)))]) dX5_takeSteps_17 (Nat.le_of_ble_eq_true rfl) rfl (congrArg (fun z => l3 + z) (by decide)) rfl ?_
      refine wp_goto (tgt := 2) dX5_takeSteps_20 (by decide) ?_
      exact WP.wk (hk0 _ _ _ _ _ _ h3) (And.intro rfl (And.intro rfl (And.intro rfl (And.intro rfl trivial))))
def eX5_takeSteps (K : CX) (k : KTX5_takeSteps) (w : XW) (l0 : Nat) (l1 : Nat) (l2 : Int32) : Option (Int32 × XW) :=
  k w l0 l1 l2 (0 : Int32)
theorem EX5_takeSteps {K : CX} {l : Launch} {n0 k0 : Nat} {k : KTX5_takeSteps} (hk0 : ∀ (w : XW) (l0 : Nat) (l1 : Nat) (l2 : Int32) (l3 : Int32) (q : Int32 × XW), k w l0 l1 l2 l3 = some q → WP K l mX5_takeSteps 4 93 n0 k0 (some (.int q.1)) q.2 2 [some (.ref l0), some (.ref l1), some (.int l2), some (.int l3)] [] w) {w : XW} {l0 : Nat} {l1 : Nat} {l2 : Int32} {q : Int32 × XW} (h0 : eX5_takeSteps K k w l0 l1 l2 = some q) : WP K l mX5_takeSteps 4 93 n0 k0 (some (.int q.1)) q.2 0 [some (.ref l0), some (.ref l1), some (.int l2), none] [] w := by
  unfold eX5_takeSteps at h0
  refine wp_iconst (v := (0 : Int32)) dX5_takeSteps_0 (by decide) ?_
  refine wp_istore_n (L1 := [some (.ref l0), some (.ref l1), some (.int l2), some (.int (0 : Int32))]) dX5_takeSteps_1 (Nat.le_of_ble_eq_true rfl) rfl ?_
  exact WP.wk (hk0 _ _ _ _ _ _ h0) (And.intro rfl (And.intro rfl (And.intro rfl (And.intro rfl trivial))))
def loX5_takeSteps (K : CX) : Nat → KTX5_takeSteps
  | 0 => fun _ _ _ _ _ => none
  | n + 1 => hX5_takeSteps_2 K (loX5_takeSteps K n)
theorem LOX5_takeSteps {K : CX} {l : Launch} {n0 k0 : Nat} : ∀ n : Nat, (∀ (w : XW) (l0 : Nat) (l1 : Nat) (l2 : Int32) (l3 : Int32) (q : Int32 × XW), (loX5_takeSteps K n) w l0 l1 l2 l3 = some q → WP K l mX5_takeSteps 4 93 n0 k0 (some (.int q.1)) q.2 2 [some (.ref l0), some (.ref l1), some (.int l2), some (.int l3)] [] w) := by
  intro n
  induction n with
  | zero => exact fun _ _ _ _ _ q h => by cases h
  | succ n ih => exact fun _ _ _ _ _ q h => HX5_takeSteps_2 ih h
def fX5_takeSteps (K : CX) (w : XW) (l0 : Nat) (l1 : Nat) (l2 : Int32) : Option (Int32 × XW) := if isO w l0 5 = true then eX5_takeSteps K (loX5_takeSteps K FU) w l0 l1 l2 else none
theorem OX5_takeSteps {K : CX} {w : XW} {l0 : Nat} {l1 : Nat} {l2 : Int32} {q : Int32 × XW} (h : fX5_takeSteps K w l0 l1 l2 = some q) : isO w l0 5 = true := Decidable.byContradiction fun z => by unfold fX5_takeSteps at h; rw [if_neg z] at h; cases h
theorem MX5_takeSteps {K : CX} {l : Launch} {w : XW} {l0 : Nat} {l1 : Nat} {l2 : Int32} {q : Int32 × XW} (h : fX5_takeSteps K w l0 l1 l2 = some q) : MT K l mX5_takeSteps 4 93 [.ref l0, .ref l1, .int l2] w (some (.int q.1)) q.2 := by
  have z := OX5_takeSteps h
  unfold fX5_takeSteps at h
  rw [if_pos z] at h
  exact MT.of (by decide) (Nat.le_of_ble_eq_true rfl) rfl (EX5_takeSteps (LOX5_takeSteps FU) h)
/-! FractionRun$State.isAtRest(LFractionRun$Fractions;)Z: frames 3, words 71 -/
abbrev mX5_isAtRest : MR := (⟨"FractionRun$State", "isAtRest", "(LFractionRun$Fractions;)Z"⟩, prog_7_method_13_code, 2, (some .boolean))
theorem dX5_isAtRest_0 : decode prog_7_method_13_code 0 = .ok (.aload_n 0, 1) := by decide +kernel
theorem dX5_isAtRest_1 : decode prog_7_method_13_code 1 = .ok (.aload_n 1, 1) := by decide +kernel
theorem dX5_isAtRest_2 : decode prog_7_method_13_code 2 = .ok (.invokevirtual 63, 3) := by decide +kernel
theorem dX5_isAtRest_5 : decode prog_7_method_13_code 5 = .ok (.bipush (-4), 2) := by decide +kernel
theorem dX5_isAtRest_7 : decode prog_7_method_13_code 7 = .ok (.if_icmp .ne 7, 3) := by decide +kernel
theorem dX5_isAtRest_10 : decode prog_7_method_13_code 10 = .ok (.iconst 1, 1) := by decide +kernel
theorem dX5_isAtRest_11 : decode prog_7_method_13_code 11 = .ok (.goto 4, 3) := by decide +kernel
theorem dX5_isAtRest_14 : decode prog_7_method_13_code 14 = .ok (.iconst 0, 1) := by decide +kernel
theorem dX5_isAtRest_15 : decode prog_7_method_13_code 15 = .ok (.ireturn, 1) := by decide +kernel
theorem okM_X5_isAtRest : okM mX5_isAtRest 1 := ⟨tw408, tw5, by decide, by decide, by decide +kernel⟩
def bX5_isAtRest_15 (K : CX) (w : XW) (s0 : Int32) : Option (Int32 × XW) :=
  if s0 &&& 1 = s0 then some (s0, w) else none
theorem BX5_isAtRest_15 {K : CX} {l : Launch} {n0 k0 : Nat} {w : XW} {s0 : Int32} {q : Int32 × XW} (h0 : bX5_isAtRest_15 K w s0 = some q) : WP K l mX5_isAtRest 3 71 n0 k0 (some (.int q.1)) q.2 15 [none, none] [.int s0] w := by
  unfold bX5_isAtRest_15 at h0
  have c1 : s0 &&& 1 = s0 := Decidable.byContradiction fun z => by rw [if_neg z] at h0; cases h0
  rw [if_pos c1] at h0
  cases h0
  exact wp_zret rfl (zb_n c1) dX5_isAtRest_15
def eX5_isAtRest (K : CX) (w : XW) (l0 : Nat) (l1 : Nat) : Option (Int32 × XW) :=
  (fX5_nextFraction K w l0 l1).bind fun q1 =>
  if q1.1 = (-4 : Int32) then
  bX5_isAtRest_15 K q1.2 (1 : Int32)
  else
  bX5_isAtRest_15 K q1.2 (0 : Int32)
theorem EX5_isAtRest {K : CX} {l : Launch} {n0 k0 : Nat} {w : XW} {l0 : Nat} {l1 : Nat} {q : Int32 × XW} (h0 : eX5_isAtRest K w l0 l1 = some q) : WP K l mX5_isAtRest 3 71 n0 k0 (some (.int q.1)) q.2 0 [some (.ref l0), some (.ref l1)] [] w := by
  unfold eX5_isAtRest at h0
  refine wp_aload_n dX5_isAtRest_0 rfl ?_
  refine wp_aload_n dX5_isAtRest_1 rfl ?_
  obtain ⟨q1, e3, h2⟩ := Option.bind_eq_some_iff.mp h0
  clear h0
  refine wp_Vi (As := [.ref l1]) (S := []) okM_X5_nextFraction tw410 tw411 tw409 (OX5_nextFraction e3) rfl rfl rfl ⟨(Nat.le_of_ble_eq_true rfl), (Nat.le_of_ble_eq_true rfl)⟩ (Nat.le_of_ble_eq_true rfl) rfl dX5_isAtRest_2 (MX5_nextFraction e3) ?_
  refine wp_bipush (v := (-4 : Int32)) dX5_isAtRest_5 (by decide) ?_
  refine wp_icmp_ne (tgt := 14) dX5_isAtRest_7 (by decide) (fun c4 => ?_) (fun c4 => ?_)
  · rw [if_neg c4] at h2
    refine wp_iconst (v := (0 : Int32)) dX5_isAtRest_14 (by decide) ?_
    exact WP.wk (BX5_isAtRest_15 h2) trivial
  · rw [if_pos c4] at h2
    refine wp_iconst (v := (1 : Int32)) dX5_isAtRest_10 (by decide) ?_
    refine wp_goto (tgt := 15) dX5_isAtRest_11 (by decide) ?_
    exact WP.wk (BX5_isAtRest_15 h2) trivial
def fX5_isAtRest (K : CX) (w : XW) (l0 : Nat) (l1 : Nat) : Option (Int32 × XW) := if isO w l0 5 = true then eX5_isAtRest K w l0 l1 else none
theorem OX5_isAtRest {K : CX} {w : XW} {l0 : Nat} {l1 : Nat} {q : Int32 × XW} (h : fX5_isAtRest K w l0 l1 = some q) : isO w l0 5 = true := Decidable.byContradiction fun z => by unfold fX5_isAtRest at h; rw [if_neg z] at h; cases h
theorem MX5_isAtRest {K : CX} {l : Launch} {w : XW} {l0 : Nat} {l1 : Nat} {q : Int32 × XW} (h : fX5_isAtRest K w l0 l1 = some q) : MT K l mX5_isAtRest 3 71 [.ref l0, .ref l1] w (some (.int q.1)) q.2 := by
  have z := OX5_isAtRest h
  unfold fX5_isAtRest at h
  rw [if_pos z] at h
  exact MT.of (by decide) (Nat.le_of_ble_eq_true rfl) rfl (EX5_isAtRest h)
/-! FractionRun$State.stepsToRest(LFractionRun$Fractions;I)I: frames 5, words 116 -/
abbrev mX5_stepsToRest : MR := (⟨"FractionRun$State", "stepsToRest", "(LFractionRun$Fractions;I)I"⟩, prog_7_method_17_code, 4, (some .int))
theorem dX5_stepsToRest_0 : decode prog_7_method_17_code 0 = .ok (.aload_n 0, 1) := by decide +kernel
theorem dX5_stepsToRest_1 : decode prog_7_method_17_code 1 = .ok (.aload_n 1, 1) := by decide +kernel
theorem dX5_stepsToRest_2 : decode prog_7_method_17_code 2 = .ok (.iload_n 2, 1) := by decide +kernel
theorem dX5_stepsToRest_3 : decode prog_7_method_17_code 3 = .ok (.invokevirtual 77, 3) := by decide +kernel
theorem dX5_stepsToRest_6 : decode prog_7_method_17_code 6 = .ok (.istore_n 3, 1) := by decide +kernel
theorem dX5_stepsToRest_7 : decode prog_7_method_17_code 7 = .ok (.aload_n 0, 1) := by decide +kernel
theorem dX5_stepsToRest_8 : decode prog_7_method_17_code 8 = .ok (.aload_n 1, 1) := by decide +kernel
theorem dX5_stepsToRest_9 : decode prog_7_method_17_code 9 = .ok (.invokevirtual 81, 3) := by decide +kernel
theorem dX5_stepsToRest_12 : decode prog_7_method_17_code 12 = .ok (.ifCond .eq 7, 3) := by decide +kernel
theorem dX5_stepsToRest_15 : decode prog_7_method_17_code 15 = .ok (.iload_n 3, 1) := by decide +kernel
theorem dX5_stepsToRest_16 : decode prog_7_method_17_code 16 = .ok (.goto 5, 3) := by decide +kernel
theorem dX5_stepsToRest_19 : decode prog_7_method_17_code 19 = .ok (.bipush (-4), 2) := by decide +kernel
theorem dX5_stepsToRest_21 : decode prog_7_method_17_code 21 = .ok (.ireturn, 1) := by decide +kernel
theorem okM_X5_stepsToRest : okM mX5_stepsToRest 2 := ⟨tw487, tw5, by decide, by decide, by decide +kernel⟩
def bX5_stepsToRest_21 (K : CX) (w : XW) (s0 : Int32) : Option (Int32 × XW) :=
  some (s0, w)
theorem BX5_stepsToRest_21 {K : CX} {l : Launch} {n0 k0 : Nat} {w : XW} {s0 : Int32} {q : Int32 × XW} (h0 : bX5_stepsToRest_21 K w s0 = some q) : WP K l mX5_stepsToRest 5 116 n0 k0 (some (.int q.1)) q.2 21 [none, none, none, none] [.int s0] w := by
  unfold bX5_stepsToRest_21 at h0
  cases h0
  exact wp_iret rfl dX5_stepsToRest_21
def eX5_stepsToRest (K : CX) (w : XW) (l0 : Nat) (l1 : Nat) (l2 : Int32) : Option (Int32 × XW) :=
  (fX5_takeSteps K w l0 l1 l2).bind fun q1 =>
  (fX5_isAtRest K q1.2 l0 l1).bind fun q4 =>
  if q4.1 = 0 then
  bX5_stepsToRest_21 K q4.2 (-4 : Int32)
  else
  bX5_stepsToRest_21 K q4.2 q1.1
theorem EX5_stepsToRest {K : CX} {l : Launch} {n0 k0 : Nat} {w : XW} {l0 : Nat} {l1 : Nat} {l2 : Int32} {q : Int32 × XW} (h0 : eX5_stepsToRest K w l0 l1 l2 = some q) : WP K l mX5_stepsToRest 5 116 n0 k0 (some (.int q.1)) q.2 0 [some (.ref l0), some (.ref l1), some (.int l2), none] [] w := by
  unfold eX5_stepsToRest at h0
  refine wp_aload_n dX5_stepsToRest_0 rfl ?_
  refine wp_aload_n dX5_stepsToRest_1 rfl ?_
  refine wp_iload_n dX5_stepsToRest_2 rfl ?_
  obtain ⟨q1, e3, h2⟩ := Option.bind_eq_some_iff.mp h0
  clear h0
  refine wp_Vi (As := [.ref l1, .int l2]) (S := []) okM_X5_takeSteps tw427 tw428 tw488 (OX5_takeSteps e3) rfl rfl rfl ⟨(Nat.le_of_ble_eq_true rfl), (Nat.le_of_ble_eq_true rfl)⟩ (Nat.le_of_ble_eq_true rfl) rfl dX5_stepsToRest_3 (MX5_takeSteps e3) ?_
  refine wp_istore_n (L1 := [some (.ref l0), some (.ref l1), some (.int l2), some (.int q1.1)]) dX5_stepsToRest_6 (Nat.le_of_ble_eq_true rfl) rfl ?_
  refine wp_aload_n dX5_stepsToRest_7 rfl ?_
  refine wp_aload_n dX5_stepsToRest_8 rfl ?_
  obtain ⟨q4, e6, h5⟩ := Option.bind_eq_some_iff.mp h2
  clear h2
  refine wp_Vi (As := [.ref l1]) (S := []) okM_X5_isAtRest tw406 tw407 tw489 (OX5_isAtRest e6) rfl rfl rfl ⟨(Nat.le_of_ble_eq_true rfl), (Nat.le_of_ble_eq_true rfl)⟩ (Nat.le_of_ble_eq_true rfl) rfl dX5_stepsToRest_9 (MX5_isAtRest e6) ?_
  refine wp_if_eq (tgt := 19) dX5_stepsToRest_12 (by decide) (fun c7 => ?_) (fun c7 => ?_)
  · rw [if_pos c7] at h5
    refine wp_bipush (v := (-4 : Int32)) dX5_stepsToRest_19 (by decide) ?_
    exact WP.wk (BX5_stepsToRest_21 h5) trivial
  · rw [if_neg c7] at h5
    refine wp_iload_n dX5_stepsToRest_15 rfl ?_
    refine wp_goto (tgt := 21) dX5_stepsToRest_16 (by decide) ?_
    exact WP.wk (BX5_stepsToRest_21 h5) trivial
def fX5_stepsToRest (K : CX) (w : XW) (l0 : Nat) (l1 : Nat) (l2 : Int32) : Option (Int32 × XW) := if isO w l0 5 = true then eX5_stepsToRest K w l0 l1 l2 else none
theorem OX5_stepsToRest {K : CX} {w : XW} {l0 : Nat} {l1 : Nat} {l2 : Int32} {q : Int32 × XW} (h : fX5_stepsToRest K w l0 l1 l2 = some q) : isO w l0 5 = true := Decidable.byContradiction fun z => by unfold fX5_stepsToRest at h; rw [if_neg z] at h; cases h
theorem MX5_stepsToRest {K : CX} {l : Launch} {w : XW} {l0 : Nat} {l1 : Nat} {l2 : Int32} {q : Int32 × XW} (h : fX5_stepsToRest K w l0 l1 l2 = some q) : MT K l mX5_stepsToRest 5 116 [.ref l0, .ref l1, .int l2] w (some (.int q.1)) q.2 := by
  have z := OX5_stepsToRest h
  unfold fX5_stepsToRest at h
  rw [if_pos z] at h
  exact MT.of (by decide) (Nat.le_of_ble_eq_true rfl) rfl (EX5_stepsToRest h)
