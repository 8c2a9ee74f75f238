/-! FractionRun$State.usableAhead(LFractionRun$Fractions;I)I: frames 2, words 46 -/
abbrev mX5_usableAhead : MR := (⟨"FractionRun$State", "usableAhead", "(LFractionRun$Fractions;I)I"⟩, prog_7_method_12_code, 9, (some .int))
theorem dX5_usableAhead_0 : decode prog_7_method_12_code 0 = .ok (.aload_n 0, 1) := by decide +kernel
theorem dX5_usableAhead_1 : decode prog_7_method_12_code 1 = .ok (.iload_n 2, 1) := by decide +kernel
theorem dX5_usableAhead_2 : decode prog_7_method_12_code 2 = .ok (.invokevirtual 59, 3) := by decide +kernel
theorem dX5_usableAhead_5 : decode prog_7_method_12_code 5 = .ok (.bipush (-4), 2) := by decide +kernel
theorem dX5_usableAhead_7 : decode prog_7_method_12_code 7 = .ok (.if_icmp .eq 13, 3) := by decide +kernel
theorem dX5_usableAhead_10 : decode prog_7_method_12_code 10 = .ok (.aload_n 1, 1) := by decide +kernel
theorem dX5_usableAhead_11 : decode prog_7_method_12_code 11 = .ok (.getfield 49, 3) := by decide +kernel
theorem dX5_usableAhead_14 : decode prog_7_method_12_code 14 = .ok (.iload_n 2, 1) := by decide +kernel
theorem dX5_usableAhead_15 : decode prog_7_method_12_code 15 = .ok (.iaload, 1) := by decide +kernel
theorem dX5_usableAhead_16 : decode prog_7_method_12_code 16 = .ok (.iconst 4, 1) := by decide +kernel
theorem dX5_usableAhead_17 : decode prog_7_method_12_code 17 = .ok (.if_icmp .ne 7, 3) := by decide +kernel
theorem dX5_usableAhead_20 : decode prog_7_method_12_code 20 = .ok (.iconst 1, 1) := by decide +kernel
theorem dX5_usableAhead_21 : decode prog_7_method_12_code 21 = .ok (.goto 4, 3) := by decide +kernel
theorem dX5_usableAhead_24 : decode prog_7_method_12_code 24 = .ok (.iconst 0, 1) := by decide +kernel
theorem dX5_usableAhead_25 : decode prog_7_method_12_code 25 = .ok (.istore_n 3, 1) := by decide +kernel
theorem dX5_usableAhead_26 : decode prog_7_method_12_code 26 = .ok (.iconst 0, 1) := by decide +kernel
theorem dX5_usableAhead_27 : decode prog_7_method_12_code 27 = .ok (.istore 4, 2) := by decide +kernel
theorem dX5_usableAhead_29 : decode prog_7_method_12_code 29 = .ok (.iconst 0, 1) := by decide +kernel
theorem dX5_usableAhead_30 : decode prog_7_method_12_code 30 = .ok (.istore 5, 2) := by decide +kernel
theorem dX5_usableAhead_32 : decode prog_7_method_12_code 32 = .ok (.iconst 0, 1) := by decide +kernel
theorem dX5_usableAhead_33 : decode prog_7_method_12_code 33 = .ok (.istore 6, 2) := by decide +kernel
theorem dX5_usableAhead_35 : decode prog_7_method_12_code 35 = .ok (.iload 6, 2) := by decide +kernel
theorem dX5_usableAhead_37 : decode prog_7_method_12_code 37 = .ok (.aload_n 0, 1) := by decide +kernel
theorem dX5_usableAhead_38 : decode prog_7_method_12_code 38 = .ok (.getfield 33, 3) := by decide +kernel
theorem dX5_usableAhead_41 : decode prog_7_method_12_code 41 = .ok (.if_icmp .ge 98, 3) := by decide +kernel
theorem dX5_usableAhead_44 : decode prog_7_method_12_code 44 = .ok (.aload_n 0, 1) := by decide +kernel
theorem dX5_usableAhead_45 : decode prog_7_method_12_code 45 = .ok (.getfield 15, 3) := by decide +kernel
theorem dX5_usableAhead_48 : decode prog_7_method_12_code 48 = .ok (.iload 6, 2) := by decide +kernel
theorem dX5_usableAhead_50 : decode prog_7_method_12_code 50 = .ok (.iaload, 1) := by decide +kernel
theorem dX5_usableAhead_51 : decode prog_7_method_12_code 51 = .ok (.istore 7, 2) := by decide +kernel
theorem dX5_usableAhead_53 : decode prog_7_method_12_code 53 = .ok (.iload 4, 2) := by decide +kernel
theorem dX5_usableAhead_55 : decode prog_7_method_12_code 55 = .ok (.ifCond .ne 9, 3) := by decide +kernel
theorem dX5_usableAhead_58 : decode prog_7_method_12_code 58 = .ok (.iload 7, 2) := by decide +kernel
theorem dX5_usableAhead_60 : decode prog_7_method_12_code 60 = .ok (.iload_n 2, 1) := by decide +kernel
theorem dX5_usableAhead_61 : decode prog_7_method_12_code 61 = .ok (.if_icmp .ne 7, 3) := by decide +kernel
theorem dX5_usableAhead_64 : decode prog_7_method_12_code 64 = .ok (.iconst 1, 1) := by decide +kernel
theorem dX5_usableAhead_65 : decode prog_7_method_12_code 65 = .ok (.goto 4, 3) := by decide +kernel
theorem dX5_usableAhead_68 : decode prog_7_method_12_code 68 = .ok (.iconst 0, 1) := by decide +kernel
theorem dX5_usableAhead_69 : decode prog_7_method_12_code 69 = .ok (.istore 4, 2) := by decide +kernel
theorem dX5_usableAhead_71 : decode prog_7_method_12_code 71 = .ok (.aload_n 1, 1) := by decide +kernel
theorem dX5_usableAhead_72 : decode prog_7_method_12_code 72 = .ok (.getfield 49, 3) := by decide +kernel
theorem dX5_usableAhead_75 : decode prog_7_method_12_code 75 = .ok (.iload 7, 2) := by decide +kernel
theorem dX5_usableAhead_77 : decode prog_7_method_12_code 77 = .ok (.iaload, 1) := by decide +kernel
theorem dX5_usableAhead_78 : decode prog_7_method_12_code 78 = .ok (.iconst 4, 1) := by decide +kernel
theorem dX5_usableAhead_79 : decode prog_7_method_12_code 79 = .ok (.if_icmp .ne 20, 3) := by decide +kernel
theorem dX5_usableAhead_82 : decode prog_7_method_12_code 82 = .ok (.iload_n 3, 1) := by decide +kernel
theorem dX5_usableAhead_83 : decode prog_7_method_12_code 83 = .ok (.ifCond .eq 12, 3) := by decide +kernel
theorem dX5_usableAhead_86 : decode prog_7_method_12_code 86 = .ok (.iload 4, 2) := by decide +kernel
theorem dX5_usableAhead_88 : decode prog_7_method_12_code 88 = .ok (.ifCond .ne 7, 3) := by decide +kernel
theorem dX5_usableAhead_91 : decode prog_7_method_12_code 91 = .ok (.iconst 1, 1) := by decide +kernel
theorem dX5_usableAhead_92 : decode prog_7_method_12_code 92 = .ok (.goto 21, 3) := by decide +kernel
theorem dX5_usableAhead_95 : decode prog_7_method_12_code 95 = .ok (.iconst 0, 1) := by decide +kernel
theorem dX5_usableAhead_96 : decode prog_7_method_12_code 96 = .ok (.goto 17, 3) := by decide +kernel
theorem dX5_usableAhead_99 : decode prog_7_method_12_code 99 = .ok (.iload_n 3, 1) := by decide +kernel
theorem dX5_usableAhead_100 : decode prog_7_method_12_code 100 = .ok (.ifCond .ne 8, 3) := by decide +kernel
theorem dX5_usableAhead_103 : decode prog_7_method_12_code 103 = .ok (.iload 4, 2) := by decide +kernel
theorem dX5_usableAhead_105 : decode prog_7_method_12_code 105 = .ok (.ifCond .ne 7, 3) := by decide +kernel
theorem dX5_usableAhead_108 : decode prog_7_method_12_code 108 = .ok (.iconst 1, 1) := by decide +kernel
theorem dX5_usableAhead_109 : decode prog_7_method_12_code 109 = .ok (.goto 4, 3) := by decide +kernel
theorem dX5_usableAhead_112 : decode prog_7_method_12_code 112 = .ok (.iconst 0, 1) := by decide +kernel
theorem dX5_usableAhead_113 : decode prog_7_method_12_code 113 = .ok (.istore 8, 2) := by decide +kernel
theorem dX5_usableAhead_115 : decode prog_7_method_12_code 115 = .ok (.iload 8, 2) := by decide +kernel
theorem dX5_usableAhead_117 : decode prog_7_method_12_code 117 = .ok (.ifCond .eq 16, 3) := by decide +kernel
theorem dX5_usableAhead_120 : decode prog_7_method_12_code 120 = .ok (.aload_n 0, 1) := by decide +kernel
theorem dX5_usableAhead_121 : decode prog_7_method_12_code 121 = .ok (.aload_n 1, 1) := by decide +kernel
theorem dX5_usableAhead_122 : decode prog_7_method_12_code 122 = .ok (.iload 7, 2) := by decide +kernel
theorem dX5_usableAhead_124 : decode prog_7_method_12_code 124 = .ok (.invokevirtual 55, 3) := by decide +kernel
theorem dX5_usableAhead_127 : decode prog_7_method_12_code 127 = .ok (.ifCond .eq 6, 3) := by decide +kernel
theorem dX5_usableAhead_130 : decode prog_7_method_12_code 130 = .ok (.iinc 5 1, 3) := by decide +kernel
theorem dX5_usableAhead_133 : decode prog_7_method_12_code 133 = .ok (.iinc 6 1, 3) := by decide +kernel
theorem dX5_usableAhead_136 : decode prog_7_method_12_code 136 = .ok (.goto (-101), 3) := by decide +kernel
theorem dX5_usableAhead_139 : decode prog_7_method_12_code 139 = .ok (.iload 5, 2) := by decide +kernel
theorem dX5_usableAhead_141 : decode prog_7_method_12_code 141 = .ok (.ireturn, 1) := by decide +kernel
theorem okM_X5_usableAhead : okM mX5_usableAhead 2 := ⟨tw641, tw5, by decide, by decide, by decide +kernel⟩
abbrev KTX5_usableAhead : Type := (XW → Nat → Nat → Int32 → Int32 → Int32 → Int32 → Int32 → Option (Int32 × XW))
def bX5_usableAhead_133 (k : KTX5_usableAhead) (w : XW) (l0 : Nat) (l1 : Nat) (l2 : Int32) (l3 : Int32) (l4 : Int32) (l5 : Int32) (l6 : Int32) : Option (Int32 × XW) :=
  k w l0 l1 l2 l3 l4 l5 (l6 + (1 : Int32))
theorem BX5_usableAhead_133 {K : CX} {l : Launch} {n0 k0 : Nat} {k : KTX5_usableAhead} (hk0 : ∀ (w : XW) (l0 : Nat) (l1 : Nat) (l2 : Int32) (l3 : Int32) (l4 : Int32) (l5 : Int32) (l6 : Int32) (q : Int32 × XW), k w l0 l1 l2 l3 l4 l5 l6 = some q → WP K l mX5_usableAhead 2 46 n0 k0 (some (.int q.1)) q.2 35 [some (.ref l0), some (.ref l1), some (.int l2), some (.int l3), some (.int l4), some (.int l5), some (.int l6), none, none] [] w) {w : XW} {l0 : Nat} {l1 : Nat} {l2 : Int32} {l3 : Int32} {l4 : Int32} {l5 : Int32} {l6 : Int32} {q : Int32 × XW} (h0 : bX5_usableAhead_133 k w l0 l1 l2 l3 l4 l5 l6 = some q) : WP K l mX5_usableAhead 2 46 n0 k0 (some (.int q.1)) q.2 133 [some (.ref l0), some (.ref l1), some (.int l2), some (.int l3), some (.int l4), some (.int l5), some (.int l6), none, none] [] w := by
  unfold bX5_usableAhead_133 at h0
  refine wp_iinc (v := (l6 + (1 : Int32))) (L1 := [some (.ref l0), some (.ref l1), some (.int l2), some (.int l3), some (.int l4), some (.int l5), some (.int (l6 + (1 : Int32))), none, none]) dX5_usableAhead_133 (Nat.le_of_ble_eq_true rfl) rfl (congrArg (fun z => l6 + z) (by decide)) rfl ?_
  refine wp_goto (tgt := 35) dX5_usableAhead_136 (by decide) ?_
  exact WP.wk (hk0 _ _ _ _ _ _ _ _ _ h0) (And.intro rfl (And.intro rfl (And.intro rfl (And.intro rfl (And.intro rfl (And.intro rfl (And.intro rfl trivial)))))))
def bX5_usableAhead_113 (k : KTX5_usableAhead) (w : XW) (l0 : Nat) (l1 : Nat) (l2 : Int32) (l3 : Int32) (l4 : Int32) (l5 : Int32) (l6 : Int32) (l7 : Int32) (s0 : Int32) : Option (Int32 × XW) :=
  if s0 = 0 then
  bX5_usableAhead_133 k w l0 l1 l2 l3 l4 l5 l6
  else
  (fX5_isUsable w l0 l1 l7).bind fun q2 =>
  if q2.1 = 0 then
  bX5_usableAhead_133 k q2.2 l0 l1 l2 l3 l4 l5 l6
  else
  bX5_usableAhead_133 k q2.2 l0 l1 l2 l3 l4 (l5 + (1 : Int32)) l6
theorem BX5_usableAhead_113 {K : CX} {l : Launch} {n0 k0 : Nat} {k : KTX5_usableAhead} (hk0 : ∀ (w : XW) (l0 : Nat) (l1 : Nat) (l2 : Int32) (l3 : Int32) (l4 : Int32) (l5 : Int32) (l6 : Int32) (q : Int32 × XW), k w l0 l1 l2 l3 l4 l5 l6 = some q → WP K l mX5_usableAhead 2 46 n0 k0 (some (.int q.1)) q.2 35 [some (.ref l0), some (.ref l1), some (.int l2), some (.int l3), some (.int l4), some (.int l5), some (.int l6), none, none] [] w) {w : XW} {l0 : Nat} {l1 : Nat} {l2 : Int32} {l3 : Int32} {l4 : Int32} {l5 : Int32} {l6 : Int32} {l7 : Int32} {s0 : Int32} {q : Int32 × XW} (h0 : bX5_usableAhead_113 k w l0 l1 l2 l3 l4 l5 l6 l7 s0 = some q) : WP K l mX5_usableAhead 2 46 n0 k0 (some (.int q.1)) q.2 113 [some (.ref l0), some (.ref l1), some (.int l2), some (.int l3), some (.int l4), some (.int l5), some (.int l6), some (.int l7), none] [.int s0] w := by
  unfold bX5_usableAhead_113 at h0
  refine wp_istore (L1 := [some (.ref l0), some (.ref l1), some (.int l2), some (.int l3), some (.int l4), some (.int l5), some (.int l6), some (.int l7), some (.int s0)]) dX5_usableAhead_113 (Nat.le_of_ble_eq_true rfl) rfl ?_
  refine wp_iload dX5_usableAhead_115 rfl ?_
  refine wp_if_eq (tgt := 133) dX5_usableAhead_117 (by decide) (fun c1 => ?_) (fun c1 => ?_)
  · rw [if_pos c1] at h0
    exact WP.wk (BX5_usableAhead_133 hk0 h0) (And.intro rfl (And.intro rfl (And.intro rfl (And.intro rfl (And.intro rfl (And.intro rfl (And.intro rfl trivial)))))))
  · rw [if_neg c1] at h0
    refine wp_aload_n dX5_usableAhead_120 rfl ?_
    refine wp_aload_n dX5_usableAhead_121 rfl ?_
    refine wp_iload dX5_usableAhead_122 rfl ?_
    obtain ⟨q2, e4, h3⟩ := Option.bind_eq_some_iff.mp h0
    clear h0
    refine wp_Vi (As := [.ref l1, .int l7]) (S := []) okM_X5_isUsable tw391 tw392 tw413 (OX5_isUsable e4) rfl rfl rfl ⟨(Nat.le_of_ble_eq_true rfl), (Nat.le_of_ble_eq_true rfl)⟩ (Nat.le_of_ble_eq_true rfl) rfl dX5_usableAhead_124 (MX5_isUsable e4) ?_
    refine wp_if_eq (tgt := 133) dX5_usableAhead_127 (by decide) (fun c5 => ?_) (fun c5 => ?_)
    · rw [if_pos c5] at h3
      exact WP.wk (BX5_usableAhead_133 hk0 h3) (And.intro rfl (And.intro rfl (And.intro rfl (And.intro rfl (And.intro rfl (And.intro rfl (And.intro rfl trivial)))))))
    · rw [if_neg c5] at h3
      refine wp_iinc (v := (l5 + (1 : Int32))) (L1 := [some (.ref l0), some (.ref l1), some (.int l2), some (.int l3), some (.int l4), some (.int (l5 + (1 : Int32))), some (.int l6), some (.int l7), some (.int s0)]) dX5_usableAhead_130 (Nat.le_of_ble_eq_true rfl) rfl (congrArg (fun z => l5 + z) (by decide)) rfl ?_
      exact WP.wk (BX5_usableAhead_133 hk0 h3) (And.intro rfl (And.intro rfl (And.intro rfl (And.intro rfl (And.intro rfl (And.intro rfl (And.intro rfl trivial)))))))
def bX5_usableAhead_108 (k : KTX5_usableAhead) (w : XW) (l0 : Nat) (l1 : Nat) (l2 : Int32) (l3 : Int32) (l4 : Int32) (l5 : Int32) (l6 : Int32) (l7 : Int32) : Option (Int32 × XW) :=
  bX5_usableAhead_113 k w l0 l1 l2 l3 l4 l5 l6 l7 (1 : Int32)
theorem BX5_usableAhead_108 {K : CX} {l : Launch} {n0 k0 : Nat} {k : KTX5_usableAhead} (hk0 : ∀ (w : XW) (l0 : Nat) (l1 : Nat) (l2 : Int32) (l3 : Int32) (l4 : Int32) (l5 : Int32) (l6 : Int32) (q : Int32 × XW), k w l0 l1 l2 l3 l4 l5 l6 = some q → WP K l mX5_usableAhead 2 46 n0 k0 (some (.int q.1)) q.2 35 [some (.ref l0), some (.ref l1), some (.int l2), some (.int l3), some (.int l4), some (.int l5), some (.int l6), none, none] [] w) {w : XW} {l0 : Nat} {l1 : Nat} {l2 : Int32} {l3 : Int32} {l4 : Int32} {l5 : Int32} {l6 : Int32} {l7 : Int32} {q : Int32 × XW} (h0 : bX5_usableAhead_108 k w l0 l1 l2 l3 l4 l5 l6 l7 = some q) : WP K l mX5_usableAhead 2 46 n0 k0 (some (.int q.1)) q.2 108 [some (.ref l0), some (.ref l1), some (.int l2), some (.int l3), some (.int l4), some (.int l5), some (.int l6), some (.int l7), none] [] w := by
  unfold bX5_usableAhead_108 at h0
  refine wp_iconst (v := (1 : Int32)) dX5_usableAhead_108 (by decide) ?_
  refine wp_goto (tgt := 113) dX5_usableAhead_109 (by decide) ?_
  exact WP.wk (BX5_usableAhead_113 hk0 h0) (And.intro rfl (And.intro rfl (And.intro rfl (And.intro rfl (And.intro rfl (And.intro rfl (And.intro rfl (And.intro rfl trivial))))))))
def bX5_usableAhead_95 (k : KTX5_usableAhead) (w : XW) (l0 : Nat) (l1 : Nat) (l2 : Int32) (l3 : Int32) (l4 : Int32) (l5 : Int32) (l6 : Int32) (l7 : Int32) : Option (Int32 × XW) :=
  bX5_usableAhead_113 k w l0 l1 l2 l3 l4 l5 l6 l7 (0 : Int32)
theorem BX5_usableAhead_95 {K : CX} {l : Launch} {n0 k0 : Nat} {k : KTX5_usableAhead} (hk0 : ∀ (w : XW) (l0 : Nat) (l1 : Nat) (l2 : Int32) (l3 : Int32) (l4 : Int32) (l5 : Int32) (l6 : Int32) (q : Int32 × XW), k w l0 l1 l2 l3 l4 l5 l6 = some q → WP K l mX5_usableAhead 2 46 n0 k0 (some (.int q.1)) q.2 35 [some (.ref l0), some (.ref l1), some (.int l2), some (.int l3), some (.int l4), some (.int l5), some (.int l6), none, none] [] w) {w : XW} {l0 : Nat} {l1 : Nat} {l2 : Int32} {l3 : Int32} {l4 : Int32} {l5 : Int32} {l6 : Int32} {l7 : Int32} {q : Int32 × XW} (h0 : bX5_usableAhead_95 k w l0 l1 l2 l3 l4 l5 l6 l7 = some q) : WP K l mX5_usableAhead 2 46 n0 k0 (some (.int q.1)) q.2 95 [some (.ref l0), some (.ref l1), some (.int l2), some (.int l3), some (.int l4), some (.int l5), some (.int l6), some (.int l7), none] [] w := by
  unfold bX5_usableAhead_95 at h0
  refine wp_iconst (v := (0 : Int32)) dX5_usableAhead_95 (by decide) ?_
  refine wp_goto (tgt := 113) dX5_usableAhead_96 (by decide) ?_
  exact WP.wk (BX5_usableAhead_113 hk0 h0) (And.intro rfl (And.intro rfl (And.intro rfl (And.intro rfl (And.intro rfl (And.intro rfl (And.intro rfl (And.intro rfl trivial))))))))
def bX5_usableAhead_69 (k : KTX5_usableAhead) (w : XW) (l0 : Nat) (l1 : Nat) (l2 : Int32) (l3 : Int32) (l5 : Int32) (l6 : Int32) (l7 : Int32) (s0 : Int32) : Option (Int32 × XW) :=
  (gR w l1 1 0).bind fun x1 =>
  (aI w 0 x1 l7).bind fun x4 =>
  if x4 = (4 : Int32) then
  if l3 = 0 then
  bX5_usableAhead_95 k w l0 l1 l2 l3 s0 l5 l6 l7
  else
  if s0 = 0 then
  bX5_usableAhead_113 k w l0 l1 l2 l3 s0 l5 l6 l7 (1 : Int32)
  else
  bX5_usableAhead_95 k w l0 l1 l2 l3 s0 l5 l6 l7
  else
  if l3 = 0 then
  if s0 = 0 then
  bX5_usableAhead_108 k w l0 l1 l2 l3 s0 l5 l6 l7
  else
  bX5_usableAhead_113 k w l0 l1 l2 l3 s0 l5 l6 l7 (0 : Int32)
  else
  bX5_usableAhead_108 k w l0 l1 l2 l3 s0 l5 l6 l7
theorem BX5_usableAhead_69 {K : CX} {l : Launch} {n0 k0 : Nat} {k : KTX5_usableAhead} (hk0 : ∀ (w : XW) (l0 : Nat) (l1 : Nat) (l2 : Int32) (l3 : Int32) (l4 : Int32) (l5 : Int32) (l6 : Int32) (q : Int32 × XW), k w l0 l1 l2 l3 l4 l5 l6 = some q → WP K l mX5_usableAhead 2 46 n0 k0 (some (.int q.1)) q.2 35 [some (.ref l0), some (.ref l1), some (.int l2), some (.int l3), some (.int l4), some (.int l5), some (.int l6), none, none] [] w) {w : XW} {l0 : Nat} {l1 : Nat} {l2 : Int32} {l3 : Int32} {l5 : Int32} {l6 : Int32} {l7 : Int32} {s0 : Int32} {q : Int32 × XW} (h0 : bX5_usableAhead_69 k w l0 l1 l2 l3 l5 l6 l7 s0 = some q) : WP K l mX5_usableAhead 2 46 n0 k0 (some (.int q.1)) q.2 69 [some (.ref l0), some (.ref l1), some (.int l2), some (.int l3), none, some (.int l5), some (.int l6), some (.int l7), none] [.int s0] w := by
  unfold bX5_usableAhead_69 at h0
  refine wp_istore (L1 := [some (.ref l0), some (.ref l1), some (.int l2), some (.int l3), some (.int s0), some (.int l5), some (.int l6), some (.int l7), none]) dX5_usableAhead_69 (Nat.le_of_ble_eq_true rfl) rfl ?_
  refine wp_aload_n dX5_usableAhead_71 rfl ?_
  obtain ⟨x1, e3, h2⟩ := Option.bind_eq_some_iff.mp h0
  clear h0
  refine wp_getR okX1 (k := 0) (by decide) tw60 dX5_usableAhead_72 e3 ?_
  refine wp_iload dX5_usableAhead_75 rfl ?_
  obtain ⟨x4, e6, h5⟩ := Option.bind_eq_some_iff.mp h2
  clear h2
  refine wp_iald dX5_usableAhead_77 e6 ?_
  refine wp_iconst (v := (4 : Int32)) dX5_usableAhead_78 (by decide) ?_
  refine wp_icmp_ne (tgt := 99) dX5_usableAhead_79 (by decide) (fun c7 => ?_) (fun c7 => ?_)
  · rw [if_neg c7] at h5
    refine wp_iload_n dX5_usableAhead_99 rfl ?_
    refine wp_if_ne (tgt := 108) dX5_usableAhead_100 (by decide) (fun c8 => ?_) (fun c8 => ?_)
    · rw [if_neg c8] at h5
      exact WP.wk (BX5_usableAhead_108 hk0 h5) (And.intro rfl (And.intro rfl (And.intro rfl (And.intro rfl (And.intro rfl (And.intro rfl (And.intro rfl (And.intro rfl trivial))))))))
    · rw [if_pos c8] at h5
      refine wp_iload dX5_usableAhead_103 rfl ?_
      refine wp_if_ne (tgt := 112) dX5_usableAhead_105 (by decide) (fun c9 => ?_) (fun c9 => ?_)
      · rw [if_neg c9] at h5
        refine wp_iconst (v := (0 : Int32)) dX5_usableAhead_112 (by decide) ?_
        exact WP.wk (BX5_usableAhead_113 hk0 h5) (And.intro rfl (And.intro rfl (And.intro rfl (And.intro rfl (And.intro rfl (And.intro rfl (And.intro rfl (And.intro rfl trivial))))))))
      · rw [if_pos c9] at h5
        exact WP.wk (BX5_usableAhead_108 hk0 h5) (And.intro rfl (And.intro rfl (And.intro rfl (And.intro rfl (And.intro rfl (And.intro rfl (And.intro rfl (And.intro rfl trivial))))))))
  · rw [if_pos c7] at h5
    refine wp_iload_n dX5_usableAhead_82 rfl ?_
    refine wp_if_eq (tgt := 95) dX5_usableAhead_83 (by decide) (fun c10 => ?_) (fun c10 => ?_)
    · rw [if_pos c10] at h5
      exact WP.wk (BX5_usableAhead_95 hk0 h5) (And.intro rfl (And.intro rfl (And.intro rfl (And.intro rfl (And.intro rfl (And.intro rfl (And.intro rfl (And.intro rfl trivial))))))))
    · rw [if_neg c10] at h5
      refine wp_iload dX5_usableAhead_86 rfl ?_
      refine wp_if_ne (tgt := 95) dX5_usableAhead_88 (by decide) (fun c11 => ?_) (fun c11 => ?_)
      · rw [if_neg c11] at h5
        exact WP.wk (BX5_usableAhead_95 hk0 h5) (And.intro rfl (And.intro rfl (And.intro rfl (And.intro rfl (And.intro rfl (And.intro rfl (And.intro rfl (And.intro rfl trivial))))))))
      · rw [if_pos c11] at h5
        refine wp_iconst (v := (1 : Int32)) dX5_usableAhead_91 (by decide) ?_
        refine wp_goto (tgt := 113) dX5_usableAhead_92 (by decide) ?_
        exact WP.wk (BX5_usableAhead_113 hk0 h5) (And.intro rfl (And.intro rfl (And.intro rfl (And.intro rfl (And.intro rfl (And.intro rfl (And.intro rfl (And.intro rfl trivial))))))))
def bX5_usableAhead_64 (k : KTX5_usableAhead) (w : XW) (l0 : Nat) (l1 : Nat) (l2 : Int32) (l3 : Int32) (l5 : Int32) (l6 : Int32) (l7 : Int32) : Option (Int32 × XW) :=
  bX5_usableAhead_69 k w l0 l1 l2 l3 l5 l6 l7 (1 : Int32)
theorem BX5_usableAhead_64 {K : CX} {l : Launch} {n0 k0 : Nat} {k : KTX5_usableAhead} (hk0 : ∀ (w : XW) (l0 : Nat) (l1 : Nat) (l2 : Int32) (l3 : Int32) (l4 : Int32) (l5 : Int32) (l6 : Int32) (q : Int32 × XW), k w l0 l1 l2 l3 l4 l5 l6 = some q → WP K l mX5_usableAhead 2 46 n0 k0 (some (.int q.1)) q.2 35 [some (.ref l0), some (.ref l1), some (.int l2), some (.int l3), some (.int l4), some (.int l5), some (.int l6), none, none] [] w) {w : XW} {l0 : Nat} {l1 : Nat} {l2 : Int32} {l3 : Int32} {l5 : Int32} {l6 : Int32} {l7 : Int32} {q : Int32 × XW} (h0 : bX5_usableAhead_64 k w l0 l1 l2 l3 l5 l6 l7 = some q) : WP K l mX5_usableAhead 2 46 n0 k0 (some (.int q.1)) q.2 64 [some (.ref l0), some (.ref l1), some (.int l2), some (.int l3), none, some (.int l5), some (.int l6), some (.int l7), none] [] w := by
  unfold bX5_usableAhead_64 at h0
  refine wp_iconst (v := (1 : Int32)) dX5_usableAhead_64 (by decide) ?_
  refine wp_goto (tgt := 69) dX5_usableAhead_65 (by decide) ?_
  exact WP.wk (BX5_usableAhead_69 hk0 h0) (And.intro rfl (And.intro rfl (And.intro rfl (And.intro rfl (And.intro rfl (And.intro rfl (And.intro rfl trivial)))))))
def bX5_usableAhead_25 (k : KTX5_usableAhead) (w : XW) (l0 : Nat) (l1 : Nat) (l2 : Int32) (s0 : Int32) : Option (Int32 × XW) :=
  k w l0 l1 l2 s0 (0 : Int32) (0 : Int32) (0 : Int32)
theorem BX5_usableAhead_25 {K : CX} {l : Launch} {n0 k0 : Nat} {k : KTX5_usableAhead} (hk0 : ∀ (w : XW) (l0 : Nat) (l1 : Nat) (l2 : Int32) (l3 : Int32) (l4 : Int32) (l5 : Int32) (l6 : Int32) (q : Int32 × XW), k w l0 l1 l2 l3 l4 l5 l6 = some q → WP K l mX5_usableAhead 2 46 n0 k0 (some (.int q.1)) q.2 35 [some (.ref l0), some (.ref l1), some (.int l2), some (.int l3), some (.int l4), some (.int l5), some (.int l6), none, none] [] w) {w : XW} {l0 : Nat} {l1 : Nat} {l2 : Int32} {s0 : Int32} {q : Int32 × XW} (h0 : bX5_usableAhead_25 k w l0 l1 l2 s0 = some q) : WP K l mX5_usableAhead 2 46 n0 k0 (some (.int q.1)) q.2 25 [some (.ref l0), some (.ref l1), some (.int l2), none, none, none, none, none, none] [.int s0] w := by
  unfold bX5_usableAhead_25 at h0
  refine wp_istore_n (L1 := [some (.ref l0), some (.ref l1), some (.int l2), some (.int s0), none, none, none, none, none]) dX5_usableAhead_25 (Nat.le_of_ble_eq_true rfl) rfl ?_
  refine wp_iconst (v := (0 : Int32)) dX5_usableAhead_26 (by decide) ?_
  refine wp_istore (L1 := [some (.ref l0), some (.ref l1), some (.int l2), some (.int s0), some (.int (0 : Int32)), none, none, none, none]) dX5_usableAhead_27 (Nat.le_of_ble_eq_true rfl) rfl ?_
  refine wp_iconst (v := (0 : Int32)) dX5_usableAhead_29 (by decide) ?_
  refine wp_istore (L1 := [some (.ref l0), some (.ref l1), some (.int l2), some (.int s0), some (.int (0 : Int32)), some (.int (0 : Int32)), none, none, none]) dX5_usableAhead_30 (Nat.le_of_ble_eq_true rfl) rfl ?_
  refine wp_iconst (v := (0 : Int32)) dX5_usableAhead_32 (by decide) ?_
  refine wp_istore (L1 := [some (.ref l0), some (.ref l1), some (.int l2), some (.int s0), some (.int (0 : Int32)), some (.int (0 : Int32)), some (.int (0 : Int32)), none, none]) dX5_usableAhead_33 (Nat.le_of_ble_eq_true rfl) rfl ?_
  exact WP.wk (hk0 _ _ _ _ _ _ _ _ _ h0) (And.intro rfl (And.intro rfl (And.intro rfl (And.intro rfl (And.intro rfl (And.intro rfl (And.intro rfl trivial)))))))
def bX5_usableAhead_20 (k : KTX5_usableAhead) (w : XW) (l0 : Nat) (l1 : Nat) (l2 : Int32) : Option (Int32 × XW) :=
  bX5_usableAhead_25 k w l0 l1 l2 (1 : Int32)
theorem BX5_usableAhead_20 {K : CX} {l : Launch} {n0 k0 : Nat} {k : KTX5_usableAhead} (hk0 : ∀ (w : XW) (l0 : Nat) (l1 : Nat) (l2 : Int32) (l3 : Int32) (l4 : Int32) (l5 : Int32) (l6 : Int32) (q : Int32 × XW), k w l0 l1 l2 l3 l4 l5 l6 = some q → WP K l mX5_usableAhead 2 46 n0 k0 (some (.int q.1)) q.2 35 [some (.ref l0), some (.ref l1), some (.int l2), some (.int l3), some (.int l4), some (.int l5), some (.int l6), none, none] [] w) {w : XW} {l0 : Nat} {l1 : Nat} {l2 : Int32} {q : Int32 × XW} (h0 : bX5_usableAhead_20 k w l0 l1 l2 = some q) : WP K l mX5_usableAhead 2 46 n0 k0 (some (.int q.1)) q.2 20 [some (.ref l0), some (.ref l1), some (.int l2), none, none, none, none, none, none] [] w := by
  unfold bX5_usableAhead_20 at h0
  refine wp_iconst (v := (1 : Int32)) dX5_usableAhead_20 (by decide) ?_
  refine wp_goto (tgt := 25) dX5_usableAhead_21 (by decide) ?_
  exact WP.wk (BX5_usableAhead_25 hk0 h0) (And.intro rfl (And.intro rfl (And.intro rfl trivial)))
def hX5_usableAhead_35 (k : KTX5_usableAhead) (w : XW) (l0 : Nat) (l1 : Nat) (l2 : Int32) (l3 : Int32) (l4 : Int32) (l5 : Int32) (l6 : Int32) : Option (Int32 × XW) :=
  (gI w l0 5 2).bind fun x1 =>
  if x1 ≤ l6 then
  some (l5, w)
  else
  (gR w l0 5 1).bind fun x5 =>
  (aI w 0 x5 l6).bind fun x8 =>
  if l4 = 0 then
  if x8 = l2 then
  bX5_usableAhead_64 k w l0 l1 l2 l3 l5 l6 x8
  else
  bX5_usableAhead_69 k w l0 l1 l2 l3 l5 l6 x8 (0 : Int32)
  else
  bX5_usableAhead_64 k w l0 l1 l2 l3 l5 l6 x8
theorem HX5_usableAhead_35 {K : CX} {l : Launch} {n0 k0 : Nat} {k : KTX5_usableAhead} (hk0 : ∀ (w : XW) (l0 : Nat) (l1 : Nat) (l2 : Int32) (l3 : Int32) (l4 : Int32) (l5 : Int32) (l6 : Int32) (q : Int32 × XW), k w l0 l1 l2 l3 l4 l5 l6 = some q → WP K l mX5_usableAhead 2 46 n0 k0 (some (.int q.1)) q.2 35 [some (.ref l0), some (.ref l1), some (.int l2), some (.int l3), some (.int l4), some (.int l5), some (.int l6), none, none] [] w) {w : XW} {l0 : Nat} {l1 : Nat} {l2 : Int32} {l3 : Int32} {l4 : Int32} {l5 : Int32} {l6 : Int32} {q : Int32 × XW} (h0 : hX5_usableAhead_35 k w l0 l1 l2 l3 l4 l5 l6 = some q) : WP K l mX5_usableAhead 2 46 n0 k0 (some (.int q.1)) q.2 35 [some (.ref l0), some (.ref l1), some (.int l2), some (.int l3), some (.int l4), some (.int l5), some (.int l6), none, none] [] w := by
  unfold hX5_usableAhead_35 at h0
  refine wp_iload dX5_usableAhead_35 rfl ?_
  refine wp_aload_n dX5_usableAhead_37 rfl ?_
  obtain ⟨x1, e3, h2⟩ := Option.bind_eq_some_iff.mp h0
  clear h0
  refine wp_getI okX5 (k := 2) (by decide) tw97 dX5_usableAhead_38 e3 ?_
  refine wp_icmp_ge (tgt := 139) dX5_usableAhead_41 (by decide) (fun c4 => ?_) (fun c4 => ?_)
  · rw [if_pos c4] at h2
    refine wp_iload dX5_usableAhead_139 rfl ?_
    cases h2
    exact wp_iret rfl dX5_usableAhead_141
  · rw [if_neg c4] at h2
    refine wp_aload_n dX5_usableAhead_44 rfl ?_
    obtain ⟨x5, e7, h6⟩ := Option.bind_eq_some_iff.mp h2
    clear h2
    refine wp_getR okX5 (k := 1) (by decide) tw95 dX5_usableAhead_45 e7 ?_
    refine wp_iload dX5_usableAhead_48 rfl ?_
    obtain ⟨x8, e10, h9⟩ := Option.bind_eq_some_iff.mp h6
    clear h6
    refine wp_iald dX5_usableAhead_50 e10 ?_
    refine wp_istore (L1 := [some (.ref l0), some (.ref l1), some (.int l2), some (.int l3), some (.int l4), some (.int l5), some (.int l6), some (.int x8), none]) dX5_usableAhead_51 (Nat.le_of_ble_eq_true rfl) rfl ?_
    refine wp_iload dX5_usableAhead_53 rfl ?_
    refine wp_if_ne (tgt := 64) dX5_usableAhead_55 (by decide) (fun c11 => ?_) (fun c11 => ?_)
    · rw [if_neg c11] at h9
      exact WP.wk (BX5_usableAhead_64 hk0 h9) (And.intro rfl (And.intro rfl (And.intro rfl (And.intro rfl (And.intro rfl (And.intro rfl (And.intro rfl trivial)))))))
    · rw [if_pos c11] at h9
      refine wp_iload dX5_usableAhead_58 rfl ?_
      refine wp_iload_n dX5_usableAhead_60 rfl ?_
      refine wp_icmp_ne (tgt := 68) dX5_usableAhead_61 (by decide) (fun c12 => ?_) (fun c12 => ?_)
      · rw [if_neg c12] at h9
        refine wp_iconst (v := (0 : Int32)) dX5_usableAhead_68 (by decide) ?_
        exact WP.wk (BX5_usableAhead_69 hk0 h9) (And.intro rfl (And.intro rfl (And.intro rfl (And.intro rfl (And.intro rfl (And.intro rfl (And.intro rfl trivial)))))))
      · rw [if_pos c12] at h9
        exact WP.wk (BX5_usableAhead_64 hk0 h9) (And.intro rfl (And.intro rfl (And.intro rfl (And.intro rfl (And.intro rfl (And.intro rfl (And.intro rfl trivial)))))))
def eX5_usableAhead (k : KTX5_usableAhead) (w : XW) (l0 : Nat) (l1 : Nat) (l2 : Int32) : Option (Int32 × XW) :=
  (fX5_placeOf w l0 l2).bind fun q1 =>
  if q1.1 = (-4 : Int32) then
  bX5_usableAhead_20 k q1.2 l0 l1 l2
  else
  (gR q1.2 l1 1 0).bind fun x5 =>
  (aI q1.2 0 x5 l2).bind fun x8 =>
  if x8 = (4 : Int32) then
  bX5_usableAhead_20 k q1.2 l0 l1 l2
  else
  bX5_usableAhead_25 k q1.2 l0 l1 l2 (0 : Int32)
theorem EX5_usableAhead {K : CX} {l : Launch} {n0 k0 : Nat} {k : KTX5_usableAhead} (hk0 : ∀ (w : XW) (l0 : Nat) (l1 : Nat) (l2 : Int32) (l3 : Int32) (l4 : Int32) (l5 : Int32) (l6 : Int32) (q : Int32 × XW), k w l0 l1 l2 l3 l4 l5 l6 = some q → WP K l mX5_usableAhead 2 46 n0 k0 (some (.int q.1)) q.2 35 [some (.ref l0), some (.ref l1), some (.int l2), some (.int l3), some (.int l4), some (.int l5), some (.int l6), none, none] [] w) {w : XW} {l0 : Nat} {l1 : Nat} {l2 : Int32} {q : Int32 × XW} (h0 : eX5_usableAhead k w l0 l1 l2 = some q) : WP K l mX5_usableAhead 2 46 n0 k0 (some (.int q.1)) q.2 0 [some (.ref l0), some (.ref l1), some (.int l2), none, none, none, none, none, none] [] w := by
  unfold eX5_usableAhead at h0
  refine wp_aload_n dX5_usableAhead_0 rfl ?_
  refine wp_iload_n dX5_usableAhead_1 rfl ?_
  obtain ⟨q1, e3, h2⟩ := Option.bind_eq_some_iff.mp h0
  clear h0
  refine wp_Vi (As := [.int l2]) (S := []) okM_X5_placeOf tw383 tw384 tw642 (OX5_placeOf e3) rfl rfl rfl ⟨(Nat.le_of_ble_eq_true rfl), (Nat.le_of_ble_eq_true rfl)⟩ (Nat.le_of_ble_eq_true rfl) rfl dX5_usableAhead_2 (MX5_placeOf e3) ?_
  refine wp_bipush (v := (-4 : Int32)) dX5_usableAhead_5 (by decide) ?_
  refine wp_icmp_eq (tgt := 20) dX5_usableAhead_7 (by decide) (fun c4 => ?_) (fun c4 => ?_)
  · rw [if_pos c4] at h2
    exact WP.wk (BX5_usableAhead_20 hk0 h2) (And.intro rfl (And.intro rfl (And.intro rfl trivial)))
  · rw [if_neg c4] at h2
    refine wp_aload_n dX5_usableAhead_10 rfl ?_
    obtain ⟨x5, e7, h6⟩ := Option.bind_eq_some_iff.mp h2
    clear h2
    refine wp_getR okX1 (k := 0) (by decide) tw60 dX5_usableAhead_11 e7 ?_
    refine wp_iload_n dX5_usableAhead_14 rfl ?_
    obtain ⟨x8, e10, h9⟩ := Option.bind_eq_some_iff.mp h6
    clear h6
    refine wp_iald dX5_usableAhead_15 e10 ?_
    refine wp_iconst (v := (4 : Int32)) dX5_usableAhead_16 (by decide) ?_
    refine wp_icmp_ne (tgt := 24) dX5_usableAhead_17 (by decide) (fun c11 => ?_) (fun c11 => ?_)
    · rw [if_neg c11] at h9
      refine wp_iconst (v := (0 : Int32)) dX5_usableAhead_24 (by decide) ?_
      exact WP.wk (BX5_usableAhead_25 hk0 h9) (And.intro rfl (And.intro rfl (And.intro rfl trivial)))
    · rw [if_pos c11] at h9
      exact WP.wk (BX5_usableAhead_20 hk0 h9) (And.intro rfl (And.intro rfl (And.intro rfl trivial)))
def loX5_usableAhead : Nat → KTX5_usableAhead
  | 0 => fun _ _ _ _ _ _ _ _ => none
  | n + 1 => hX5_usableAhead_35 (loX5_usableAhead n)
theorem LOX5_usableAhead {K : CX} {l : Launch} {n0 k0 : Nat} : ∀ n : Nat, (∀ (w : XW) (l0 : Nat) (l1 : Nat) (l2 : Int32) (l3 : Int32) (l4 : Int32) (l5 : Int32) (l6 : Int32) (q : Int32 × XW), (loX5_usableAhead n) w l0 l1 l2 l3 l4 l5 l6 = some q → WP K l mX5_usableAhead 2 46 n0 k0 (some (.int q.1)) q.2 35 [some (.ref l0), some (.ref l1), some (.int l2), some (.int l3), some (.int l4), some (.int l5), some (.int l6), none, none] [] w) := by
  intro n
  induction n with
  | zero => exact fun _ _ _ _ _ _ _ _ q h => (by cases h)
  | succ n ih => exact fun _ _ _ _ _ _ _ _ q h => HX5_usableAhead_35 ih h
def fX5_usableAhead (w : XW) (l0 : Nat) (l1 : Nat) (l2 : Int32) : Option (Int32 × XW) := if isO w l0 5 = true then eX5_usableAhead (loX5_usableAhead FU) w l0 l1 l2 else none
theorem OX5_usableAhead {w : XW} {l0 : Nat} {l1 : Nat} {l2 : Int32} {q : Int32 × XW} (h : fX5_usableAhead w l0 l1 l2 = some q) : isO w l0 5 = true := Decidable.byContradiction fun z => by unfold fX5_usableAhead at h; rw [if_neg z] at h; cases h
theorem MX5_usableAhead {K : CX} {l : Launch} {w : XW} {l0 : Nat} {l1 : Nat} {l2 : Int32} {q : Int32 × XW} (h : fX5_usableAhead w l0 l1 l2 = some q) : MT K l mX5_usableAhead 2 46 [.ref l0, .ref l1, .int l2] w (some (.int q.1)) q.2 := by
  have z := OX5_usableAhead h
  unfold fX5_usableAhead at h
  rw [if_pos z] at h
  exact MT.of (by decide) (Nat.le_of_ble_eq_true rfl) rfl (EX5_usableAhead (LOX5_usableAhead FU) h)
/-! FractionRun.odds(III)I: frames 3, words 74 -/
abbrev mX7_odds : MR := (⟨"FractionRun", "odds", "(III)I"⟩, prog_1_method_29_code, 8, (some .int))
theorem dX7_odds_0 : decode prog_1_method_29_code 0 = .ok (.iload_n 1, 1) := by decide +kernel
theorem dX7_odds_1 : decode prog_1_method_29_code 1 = .ok (.bipush 8, 2) := by decide +kernel
theorem dX7_odds_3 : decode prog_1_method_29_code 3 = .ok (.if_icmp .eq 11, 3) := by decide +kernel
theorem dX7_odds_6 : decode prog_1_method_29_code 6 = .ok (.aload_n 0, 1) := by decide +kernel
theorem dX7_odds_7 : decode prog_1_method_29_code 7 = .ok (.iload_n 1, 1) := by decide +kernel
theorem dX7_odds_8 : decode prog_1_method_29_code 8 = .ok (.invokevirtual 120, 3) := by decide +kernel
theorem dX7_odds_11 : decode prog_1_method_29_code 11 = .ok (.ifCond .eq 22, 3) := by decide +kernel
theorem dX7_odds_14 : decode prog_1_method_29_code 14 = .ok (.iload_n 2, 1) := by decide +kernel
theorem dX7_odds_15 : decode prog_1_method_29_code 15 = .ok (.ifCond .lt 18, 3) := by decide +kernel
theorem dX7_odds_18 : decode prog_1_method_29_code 18 = .ok (.iload_n 2, 1) := by decide +kernel
theorem dX7_odds_19 : decode prog_1_method_29_code 19 = .ok (.bipush 10, 2) := by decide +kernel
theorem dX7_odds_21 : decode prog_1_method_29_code 21 = .ok (.if_icmp .gt 12, 3) := by decide +kernel
theorem dX7_odds_24 : decode prog_1_method_29_code 24 = .ok (.iload_n 3, 1) := by decide +kernel
theorem dX7_odds_25 : decode prog_1_method_29_code 25 = .ok (.ifCond .lt 8, 3) := by decide +kernel
theorem dX7_odds_28 : decode prog_1_method_29_code 28 = .ok (.iload_n 3, 1) := by decide +kernel
theorem dX7_odds_29 : decode prog_1_method_29_code 29 = .ok (.iconst 1, 1) := by decide +kernel
theorem dX7_odds_30 : decode prog_1_method_29_code 30 = .ok (.if_icmp .le 5, 3) := by decide +kernel
theorem dX7_odds_33 : decode prog_1_method_29_code 33 = .ok (.iconst (-1), 1) := by decide +kernel
theorem dX7_odds_34 : decode prog_1_method_29_code 34 = .ok (.ireturn, 1) := by decide +kernel
theorem dX7_odds_35 : decode prog_1_method_29_code 35 = .ok (.aload_n 0, 1) := by decide +kernel
theorem dX7_odds_36 : decode prog_1_method_29_code 36 = .ok (.getfield 36, 3) := by decide +kernel
theorem dX7_odds_39 : decode prog_1_method_29_code 39 = .ok (.aload_n 0, 1) := by decide +kernel
theorem dX7_odds_40 : decode prog_1_method_29_code 40 = .ok (.getfield 26, 3) := by decide +kernel
theorem dX7_odds_43 : decode prog_1_method_29_code 43 = .ok (.iload_n 1, 1) := by decide +kernel
theorem dX7_odds_44 : decode prog_1_method_29_code 44 = .ok (.invokevirtual 248, 3) := by decide +kernel
theorem dX7_odds_47 : decode prog_1_method_29_code 47 = .ok (.istore 4, 2) := by decide +kernel
theorem dX7_odds_49 : decode prog_1_method_29_code 49 = .ok (.iconst 1, 1) := by decide +kernel
theorem dX7_odds_50 : decode prog_1_method_29_code 50 = .ok (.istore 5, 2) := by decide +kernel
theorem dX7_odds_52 : decode prog_1_method_29_code 52 = .ok (.iconst 1, 1) := by decide +kernel
theorem dX7_odds_53 : decode prog_1_method_29_code 53 = .ok (.istore 6, 2) := by decide +kernel
theorem dX7_odds_55 : decode prog_1_method_29_code 55 = .ok (.iconst 0, 1) := by decide +kernel
theorem dX7_odds_56 : decode prog_1_method_29_code 56 = .ok (.istore 7, 2) := by decide +kernel
theorem dX7_odds_58 : decode prog_1_method_29_code 58 = .ok (.iload 7, 2) := by decide +kernel
theorem dX7_odds_60 : decode prog_1_method_29_code 60 = .ok (.iload 4, 2) := by decide +kernel
theorem dX7_odds_62 : decode prog_1_method_29_code 62 = .ok (.if_icmp .ge 22, 3) := by decide +kernel
theorem dX7_odds_65 : decode prog_1_method_29_code 65 = .ok (.iload 5, 2) := by decide +kernel
theorem dX7_odds_67 : decode prog_1_method_29_code 67 = .ok (.iload_n 2, 1) := by decide +kernel
theorem dX7_odds_68 : decode prog_1_method_29_code 68 = .ok (.imul, 1) := by decide +kernel
theorem dX7_odds_69 : decode prog_1_method_29_code 69 = .ok (.istore 5, 2) := by decide +kernel
theorem dX7_odds_71 : decode prog_1_method_29_code 71 = .ok (.iload 6, 2) := by decide +kernel
theorem dX7_odds_73 : decode prog_1_method_29_code 73 = .ok (.bipush 10, 2) := by decide +kernel
theorem dX7_odds_75 : decode prog_1_method_29_code 75 = .ok (.imul, 1) := by decide +kernel
theorem dX7_odds_76 : decode prog_1_method_29_code 76 = .ok (.istore 6, 2) := by decide +kernel
theorem dX7_odds_78 : decode prog_1_method_29_code 78 = .ok (.iinc 7 1, 3) := by decide +kernel
theorem dX7_odds_81 : decode prog_1_method_29_code 81 = .ok (.goto (-23), 3) := by decide +kernel
theorem dX7_odds_84 : decode prog_1_method_29_code 84 = .ok (.iload_n 1, 1) := by decide +kernel
theorem dX7_odds_85 : decode prog_1_method_29_code 85 = .ok (.bipush 8, 2) := by decide +kernel
theorem dX7_odds_87 : decode prog_1_method_29_code 87 = .ok (.if_icmp .eq 51, 3) := by decide +kernel
theorem dX7_odds_90 : decode prog_1_method_29_code 90 = .ok (.iload 5, 2) := by decide +kernel
theorem dX7_odds_92 : decode prog_1_method_29_code 92 = .ok (.aload_n 0, 1) := by decide +kernel
theorem dX7_odds_93 : decode prog_1_method_29_code 93 = .ok (.getfield 36, 3) := by decide +kernel
theorem dX7_odds_96 : decode prog_1_method_29_code 96 = .ok (.iload_n 1, 1) := by decide +kernel
theorem dX7_odds_97 : decode prog_1_method_29_code 97 = .ok (.invokevirtual 133, 3) := by decide +kernel
theorem dX7_odds_100 : decode prog_1_method_29_code 100 = .ok (.bipush (-4), 2) := by decide +kernel
theorem dX7_odds_102 : decode prog_1_method_29_code 102 = .ok (.if_icmp .eq 25, 3) := by decide +kernel
theorem dX7_odds_105 : decode prog_1_method_29_code 105 = .ok (.aload_n 0, 1) := by decide +kernel
theorem dX7_odds_106 : decode prog_1_method_29_code 106 = .ok (.getfield 36, 3) := by decide +kernel
theorem dX7_odds_109 : decode prog_1_method_29_code 109 = .ok (.aload_n 0, 1) := by decide +kernel
theorem dX7_odds_110 : decode prog_1_method_29_code 110 = .ok (.getfield 26, 3) := by decide +kernel
theorem dX7_odds_113 : decode prog_1_method_29_code 113 = .ok (.iload_n 1, 1) := by decide +kernel
theorem dX7_odds_114 : decode prog_1_method_29_code 114 = .ok (.invokevirtual 140, 3) := by decide +kernel
theorem dX7_odds_117 : decode prog_1_method_29_code 117 = .ok (.ifCond .eq 10, 3) := by decide +kernel
theorem dX7_odds_120 : decode prog_1_method_29_code 120 = .ok (.bipush 10, 2) := by decide +kernel
theorem dX7_odds_122 : decode prog_1_method_29_code 122 = .ok (.iload_n 2, 1) := by decide +kernel
theorem dX7_odds_123 : decode prog_1_method_29_code 123 = .ok (.isub, 1) := by decide +kernel
theorem dX7_odds_124 : decode prog_1_method_29_code 124 = .ok (.goto 4, 3) := by decide +kernel
theorem dX7_odds_127 : decode prog_1_method_29_code 127 = .ok (.iconst 0, 1) := by decide +kernel
theorem dX7_odds_128 : decode prog_1_method_29_code 128 = .ok (.imul, 1) := by decide +kernel
theorem dX7_odds_129 : decode prog_1_method_29_code 129 = .ok (.istore 5, 2) := by decide +kernel
theorem dX7_odds_131 : decode prog_1_method_29_code 131 = .ok (.iload 6, 2) := by decide +kernel
theorem dX7_odds_133 : decode prog_1_method_29_code 133 = .ok (.bipush 10, 2) := by decide +kernel
theorem dX7_odds_135 : decode prog_1_method_29_code 135 = .ok (.imul, 1) := by decide +kernel
theorem dX7_odds_136 : decode prog_1_method_29_code 136 = .ok (.istore 6, 2) := by decide +kernel
theorem dX7_odds_138 : decode prog_1_method_29_code 138 = .ok (.iload 5, 2) := by decide +kernel
theorem dX7_odds_140 : decode prog_1_method_29_code 140 = .ok (.iload 6, 2) := by decide +kernel
theorem dX7_odds_142 : decode prog_1_method_29_code 142 = .ok (.invokestatic 251, 3) := by decide +kernel
theorem dX7_odds_145 : decode prog_1_method_29_code 145 = .ok (.istore 7, 2) := by decide +kernel
theorem dX7_odds_147 : decode prog_1_method_29_code 147 = .ok (.iload_n 3, 1) := by decide +kernel
theorem dX7_odds_148 : decode prog_1_method_29_code 148 = .ok (.ifCond .ne 8, 3) := by decide +kernel
theorem dX7_odds_151 : decode prog_1_method_29_code 151 = .ok (.iload 5, 2) := by decide +kernel
theorem dX7_odds_153 : decode prog_1_method_29_code 153 = .ok (.goto 5, 3) := by decide +kernel
theorem dX7_odds_156 : decode prog_1_method_29_code 156 = .ok (.iload 6, 2) := by decide +kernel
theorem dX7_odds_158 : decode prog_1_method_29_code 158 = .ok (.iload 7, 2) := by decide +kernel
theorem dX7_odds_160 : decode prog_1_method_29_code 160 = .ok (.idiv, 1) := by decide +kernel
theorem dX7_odds_161 : decode prog_1_method_29_code 161 = .ok (.ireturn, 1) := by decide +kernel
theorem okM_X7_odds : okM mX7_odds 3 := ⟨tw637, tw1, by decide, by decide, by decide +kernel⟩
abbrev KTX7_odds : Type := (XW → Nat → Int32 → Int32 → Int32 → Int32 → Int32 → Int32 → Int32 → Option (Int32 × XW))
def bX7_odds_158 (k : KTX7_odds) (w : XW) (l7 : Int32) (s0 : Int32) : Option (Int32 × XW) :=
  if l7 = 0 then none else
  some ((s0 / l7), w)
theorem BX7_odds_158 {K : CX} {l : Launch} {n0 k0 : Nat} {k : KTX7_odds} (hk0 : ∀ (w : XW) (l0 : Nat) (l1 : Int32) (l2 : Int32) (l3 : Int32) (l4 : Int32) (l5 : Int32) (l6 : Int32) (l7 : Int32) (q : Int32 × XW), k w l0 l1 l2 l3 l4 l5 l6 l7 = some q → WP K l mX7_odds 3 74 n0 k0 (some (.int q.1)) q.2 58 [some (.ref l0), some (.int l1), some (.int l2), some (.int l3), some (.int l4), some (.int l5), some (.int l6), some (.int l7)] [] w) {w : XW} {l7 : Int32} {s0 : Int32} {q : Int32 × XW} (h0 : bX7_odds_158 k w l7 s0 = some q) : WP K l mX7_odds 3 74 n0 k0 (some (.int q.1)) q.2 158 [none, none, none, none, none, none, none, some (.int l7)] [.int s0] w := by
  unfold bX7_odds_158 at h0
  refine wp_iload dX7_odds_158 rfl ?_
  have c1 : ¬ l7 = 0 := by intro z; rw [if_pos z] at h0; cases h0
  rw [if_neg c1] at h0
  have h2 := h0; clear h0
  refine wp_idiv dX7_odds_160 c1 ?_
  cases h2
  exact wp_iret rfl dX7_odds_161
def bX7_odds_138 (k : KTX7_odds) (w : XW) (l3 : Int32) (l5 : Int32) (l6 : Int32) : Option (Int32 × XW) :=
  (fX7_greatestDivisor w l5 l6).bind fun q1 =>
  if l3 = 0 then
  bX7_odds_158 k q1.2 q1.1 l5
  else
  bX7_odds_158 k q1.2 q1.1 l6
theorem BX7_odds_138 {K : CX} {l : Launch} {n0 k0 : Nat} {k : KTX7_odds} (hk0 : ∀ (w : XW) (l0 : Nat) (l1 : Int32) (l2 : Int32) (l3 : Int32) (l4 : Int32) (l5 : Int32) (l6 : Int32) (l7 : Int32) (q : Int32 × XW), k w l0 l1 l2 l3 l4 l5 l6 l7 = some q → WP K l mX7_odds 3 74 n0 k0 (some (.int q.1)) q.2 58 [some (.ref l0), some (.int l1), some (.int l2), some (.int l3), some (.int l4), some (.int l5), some (.int l6), some (.int l7)] [] w) {w : XW} {l3 : Int32} {l5 : Int32} {l6 : Int32} {q : Int32 × XW} (h0 : bX7_odds_138 k w l3 l5 l6 = some q) : WP K l mX7_odds 3 74 n0 k0 (some (.int q.1)) q.2 138 [none, none, none, some (.int l3), none, some (.int l5), some (.int l6), none] [] w := by
  unfold bX7_odds_138 at h0
  refine wp_iload dX7_odds_138 rfl ?_
  refine wp_iload dX7_odds_140 rfl ?_
  obtain ⟨q1, e3, h2⟩ := Option.bind_eq_some_iff.mp h0
  clear h0
  refine wp_Si (As := [.int l5, .int l6]) (S := []) okM_X7_greatestDivisor tw277 tw643 rfl ⟨(Nat.le_of_ble_eq_true rfl), (Nat.le_of_ble_eq_true rfl)⟩ (Nat.le_of_ble_eq_true rfl) rfl dX7_odds_142 (MX7_greatestDivisor e3) ?_
  refine wp_istore (L1 := [none, none, none, some (.int l3), none, some (.int l5), some (.int l6), some (.int q1.1)]) dX7_odds_145 (Nat.le_of_ble_eq_true rfl) rfl ?_
  refine wp_iload_n dX7_odds_147 rfl ?_
  refine wp_if_ne (tgt := 156) dX7_odds_148 (by decide) (fun c4 => ?_) (fun c4 => ?_)
  · rw [if_neg c4] at h2
    refine wp_iload dX7_odds_156 rfl ?_
    exact WP.wk (BX7_odds_158 hk0 h2) (And.intro rfl trivial)
  · rw [if_pos c4] at h2
    refine wp_iload dX7_odds_151 rfl ?_
    refine wp_goto (tgt := 158) dX7_odds_153 (by decide) ?_
    exact WP.wk (BX7_odds_158 hk0 h2) (And.intro rfl trivial)
def bX7_odds_128 (k : KTX7_odds) (w : XW) (l3 : Int32) (l6 : Int32) (s0 : Int32) (s1 : Int32) : Option (Int32 × XW) :=
  bX7_odds_138 k w l3 (s0 * s1) (l6 * (10 : Int32))
theorem BX7_odds_128 {K : CX} {l : Launch} {n0 k0 : Nat} {k : KTX7_odds} (hk0 : ∀ (w : XW) (l0 : Nat) (l1 : Int32) (l2 : Int32) (l3 : Int32) (l4 : Int32) (l5 : Int32) (l6 : Int32) (l7 : Int32) (q : Int32 × XW), k w l0 l1 l2 l3 l4 l5 l6 l7 = some q → WP K l mX7_odds 3 74 n0 k0 (some (.int q.1)) q.2 58 [some (.ref l0), some (.int l1), some (.int l2), some (.int l3), some (.int l4), some (.int l5), some (.int l6), some (.int l7)] [] w) {w : XW} {l3 : Int32} {l6 : Int32} {s0 : Int32} {s1 : Int32} {q : Int32 × XW} (h0 : bX7_odds_128 k w l3 l6 s0 s1 = some q) : WP K l mX7_odds 3 74 n0 k0 (some (.int q.1)) q.2 128 [none, none, none, some (.int l3), none, none, some (.int l6), none] [.int s1, .int s0] w := by
  unfold bX7_odds_128 at h0
  refine wp_imul dX7_odds_128 ?_
  refine wp_istore (L1 := [none, none, none, some (.int l3), none, some (.int (s0 * s1)), some (.int l6), none]) dX7_odds_129 (Nat.le_of_ble_eq_true rfl) rfl ?_
  refine wp_iload dX7_odds_131 rfl ?_
  refine wp_bipush (v := (10 : Int32)) dX7_odds_133 (by decide) ?_
  refine wp_imul dX7_odds_135 ?_
  refine wp_istore (L1 := [none, none, none, some (.int l3), none, some (.int (s0 * s1)), some (.int (l6 * (10 : Int32))), none]) dX7_odds_136 (Nat.le_of_ble_eq_true rfl) rfl ?_
  exact WP.wk (BX7_odds_138 hk0 h0) (And.intro rfl (And.intro rfl (And.intro rfl trivial)))
def bX7_odds_127 (k : KTX7_odds) (w : XW) (l3 : Int32) (l6 : Int32) (s0 : Int32) : Option (Int32 × XW) :=
  bX7_odds_128 k w l3 l6 s0 (0 : Int32)
theorem BX7_odds_127 {K : CX} {l : Launch} {n0 k0 : Nat} {k : KTX7_odds} (hk0 : ∀ (w : XW) (l0 : Nat) (l1 : Int32) (l2 : Int32) (l3 : Int32) (l4 : Int32) (l5 : Int32) (l6 : Int32) (l7 : Int32) (q : Int32 × XW), k w l0 l1 l2 l3 l4 l5 l6 l7 = some q → WP K l mX7_odds 3 74 n0 k0 (some (.int q.1)) q.2 58 [some (.ref l0), some (.int l1), some (.int l2), some (.int l3), some (.int l4), some (.int l5), some (.int l6), some (.int l7)] [] w) {w : XW} {l3 : Int32} {l6 : Int32} {s0 : Int32} {q : Int32 × XW} (h0 : bX7_odds_127 k w l3 l6 s0 = some q) : WP K l mX7_odds 3 74 n0 k0 (some (.int q.1)) q.2 127 [none, none, none, some (.int l3), none, none, some (.int l6), none] [.int s0] w := by
  unfold bX7_odds_127 at h0
  refine wp_iconst (v := (0 : Int32)) dX7_odds_127 (by decide) ?_
  exact WP.wk (BX7_odds_128 hk0 h0) (And.intro rfl (And.intro rfl trivial))
def bX7_odds_33 (k : KTX7_odds) (w : XW) : Option (Int32 × XW) :=
  some ((-1 : Int32), w)
theorem BX7_odds_33 {K : CX} {l : Launch} {n0 k0 : Nat} {k : KTX7_odds} (hk0 : ∀ (w : XW) (l0 : Nat) (l1 : Int32) (l2 : Int32) (l3 : Int32) (l4 : Int32) (l5 : Int32) (l6 : Int32) (l7 : Int32) (q : Int32 × XW), k w l0 l1 l2 l3 l4 l5 l6 l7 = some q → WP K l mX7_odds 3 74 n0 k0 (some (.int q.1)) q.2 58 [some (.ref l0), some (.int l1), some (.int l2), some (.int l3), some (.int l4), some (.int l5), some (.int l6), some (.int l7)] [] w) {w : XW} {q : Int32 × XW} (h0 : bX7_odds_33 k w = some q) : WP K l mX7_odds 3 74 n0 k0 (some (.int q.1)) q.2 33 [none, none, none, none, none, none, none, none] [] w := by
  unfold bX7_odds_33 at h0
  refine wp_iconst (v := (-1 : Int32)) dX7_odds_33 (by decide) ?_
  cases h0
  exact wp_iret rfl dX7_odds_34
def bX7_odds_14 (k : KTX7_odds) (w : XW) (l0 : Nat) (l1 : Int32) (l2 : Int32) (l3 : Int32) : Option (Int32 × XW) :=
  if l2 < 0 then
  bX7_odds_33 k w
  else
  if (10 : Int32) < l2 then
  bX7_odds_33 k w
  else
  if l3 < 0 then
  bX7_odds_33 k w
  else
  if l3 ≤ (1 : Int32) then
  (gR w l0 7 4).bind fun x5 =>
  (gR w l0 7 2).bind fun x8 =>
  (fX5_usableAhead w x5 x8 l1).bind fun q11 =>
  k q11.2 l0 l1 l2 l3 q11.1 (1 : Int32) (1 : Int32) (0 : Int32)
  else
  bX7_odds_33 k w
theorem BX7_odds_14 {K : CX} {l : Launch} {n0 k0 : Nat} {k : KTX7_odds} (hk0 : ∀ (w : XW) (l0 : Nat) (l1 : Int32) (l2 : Int32) (l3 : Int32) (l4 : Int32) (l5 : Int32) (l6 : Int32) (l7 : Int32) (q : Int32 × XW), k w l0 l1 l2 l3 l4 l5 l6 l7 = some q → WP K l mX7_odds 3 74 n0 k0 (some (.int q.1)) q.2 58 [some (.ref l0), some (.int l1), some (.int l2), some (.int l3), some (.int l4), some (.int l5), some (.int l6), some (.int l7)] [] w) {w : XW} {l0 : Nat} {l1 : Int32} {l2 : Int32} {l3 : Int32} {q : Int32 × XW} (h0 : bX7_odds_14 k w l0 l1 l2 l3 = some q) : WP K l mX7_odds 3 74 n0 k0 (some (.int q.1)) q.2 14 [some (.ref l0), some (.int l1), some (.int l2), some (.int l3), none, none, none, none] [] w := by
  unfold bX7_odds_14 at h0
  refine wp_iload_n dX7_odds_14 rfl ?_
  refine wp_if_lt (tgt := 33) dX7_odds_15 (by decide) (fun c1 => ?_) (fun c1 => ?_)
  · rw [if_pos c1] at h0
    exact WP.wk (BX7_odds_33 hk0 h0) trivial
  · rw [if_neg c1] at h0
    refine wp_iload_n dX7_odds_18 rfl ?_
    refine wp_bipush (v := (10 : Int32)) dX7_odds_19 (by decide) ?_
    refine wp_icmp_gt (tgt := 33) dX7_odds_21 (by decide) (fun c2 => ?_) (fun c2 => ?_)
    · rw [if_pos c2] at h0
      exact WP.wk (BX7_odds_33 hk0 h0) trivial
    · rw [if_neg c2] at h0
      refine wp_iload_n dX7_odds_24 rfl ?_
      refine wp_if_lt (tgt := 33) dX7_odds_25 (by decide) (fun c3 => ?_) (fun c3 => ?_)
      · rw [if_pos c3] at h0
        exact WP.wk (BX7_odds_33 hk0 h0) trivial
      · rw [if_neg c3] at h0
        refine wp_iload_n dX7_odds_28 rfl ?_
        refine wp_iconst (v := (1 : Int32)) dX7_odds_29 (by decide) ?_
        refine wp_icmp_le (tgt := 35) dX7_odds_30 (by decide) (fun c4 => ?_) (fun c4 => ?_)
        · rw [if_pos c4] at h0
          refine wp_aload_n dX7_odds_35 rfl ?_
          obtain ⟨x5, e7, h6⟩ := Option.bind_eq_some_iff.mp h0
          clear h0
          refine wp_getR okX7 (k := 4) (by decide) tw302 dX7_odds_36 e7 ?_
          refine wp_aload_n dX7_odds_39 rfl ?_
          obtain ⟨x8, e10, h9⟩ := Option.bind_eq_some_iff.mp h6
          clear h6
          refine wp_getR okX7 (k := 2) (by decide) tw300 dX7_odds_40 e10 ?_
          refine wp_iload_n dX7_odds_43 rfl ?_
          obtain ⟨q11, e13, h12⟩ := Option.bind_eq_some_iff.mp h9
          clear h9
          refine wp_Vi (As := [.ref x8, .int l1]) (S := []) okM_X5_usableAhead tw639 tw640 tw638 (OX5_usableAhead e13) rfl rfl rfl ⟨(Nat.le_of_ble_eq_true rfl), (Nat.le_of_ble_eq_true rfl)⟩ (Nat.le_of_ble_eq_true rfl) rfl dX7_odds_44 (MX5_usableAhead e13) ?_
          refine wp_istore (L1 := [some (.ref l0), some (.int l1), some (.int l2), some (.int l3), some (.int q11.1), none, none, none]) dX7_odds_47 (Nat.le_of_ble_eq_true rfl) rfl ?_
          refine wp_iconst (v := (1 : Int32)) dX7_odds_49 (by decide) ?_
          refine wp_istore (L1 := [some (.ref l0), some (.int l1), some (.int l2), some (.int l3), some (.int q11.1), some (.int (1 : Int32)), none, none]) dX7_odds_50 (Nat.le_of_ble_eq_true rfl) rfl ?_
          refine wp_iconst (v := (1 : Int32)) dX7_odds_52 (by decide) ?_
          refine wp_istore (L1 := [some (.ref l0), some (.int l1), some (.int l2), some (.int l3), some (.int q11.1), some (.int (1 : Int32)), some (.int (1 : Int32)), none]) dX7_odds_53 (Nat.le_of_ble_eq_true rfl) rfl ?_
          refine wp_iconst (v := (0 : Int32)) dX7_odds_55 (by decide) ?_
          refine wp_istore (L1 := [some (.ref l0), some (.int l1), some (.int l2), some (.int l3), some (.int q11.1), some (.int (1 : Int32)), some (.int (1 : Int32)), some (.int (0 : Int32))]) dX7_odds_56 (Nat.le_of_ble_eq_true rfl) rfl ?_
          exact WP.wk (hk0 _ _ _ _ _ _ _ _ _ _ h12) (And.intro rfl (And.intro rfl (And.intro rfl (And.intro rfl (And.intro rfl (And.intro rfl (And.intro rfl (And.intro rfl trivial))))))))
        · rw [if_neg c4] at h0
          exact WP.wk (BX7_odds_33 hk0 h0) trivial
def hX7_odds_58 (k : KTX7_odds) (w : XW) (l0 : Nat) (l1 : Int32) (l2 : Int32) (l3 : Int32) (l4 : Int32) (l5 : Int32) (l6 : Int32) (l7 : Int32) : Option (Int32 × XW) :=
  if l4 ≤ l7 then
  if l1 = (8 : Int32) then
  bX7_odds_138 k w l3 l5 l6
  else
  (gR w l0 7 4).bind fun x3 =>
  (fX5_placeOf w x3 l1).bind fun q6 =>
  if q6.1 = (-4 : Int32) then
  bX7_odds_127 k q6.2 l3 l6 l5
  else
  (gR q6.2 l0 7 4).bind fun x10 =>
  (gR q6.2 l0 7 2).bind fun x13 =>
  (fX5_isUsable q6.2 x10 x13 l1).bind fun q16 =>
  if q16.1 = 0 then
  bX7_odds_127 k q16.2 l3 l6 l5
  else
  bX7_odds_128 k q16.2 l3 l6 l5 ((10 : Int32) - l2)
  else
  k w l0 l1 l2 l3 l4 (l5 * l2) (l6 * (10 : Int32)) (l7 + (1 : Int32))
theorem HX7_odds_58 {K : CX} {l : Launch} {n0 k0 : Nat} {k : KTX7_odds} (hk0 : ∀ (w : XW) (l0 : Nat) (l1 : Int32) (l2 : Int32) (l3 : Int32) (l4 : Int32) (l5 : Int32) (l6 : Int32) (l7 : Int32) (q : Int32 × XW), k w l0 l1 l2 l3 l4 l5 l6 l7 = some q → WP K l mX7_odds 3 74 n0 k0 (some (.int q.1)) q.2 58 [some (.ref l0), some (.int l1), some (.int l2), some (.int l3), some (.int l4), some (.int l5), some (.int l6), some (.int l7)] [] w) {w : XW} {l0 : Nat} {l1 : Int32} {l2 : Int32} {l3 : Int32} {l4 : Int32} {l5 : Int32} {l6 : Int32} {l7 : Int32} {q : Int32 × XW} (h0 : hX7_odds_58 k w l0 l1 l2 l3 l4 l5 l6 l7 = some q) : WP K l mX7_odds 3 74 n0 k0 (some (.int q.1)) q.2 58 [some (.ref l0), some (.int l1), some (.int l2), some (.int l3), some (.int l4), some (.int l5), some (.int l6), some (.int l7)] [] w := by
  unfold hX7_odds_58 at h0
  refine wp_iload dX7_odds_58 rfl ?_
  refine wp_iload dX7_odds_60 rfl ?_
  refine wp_icmp_ge (tgt := 84) dX7_odds_62 (by decide) (fun c1 => ?_) (fun c1 => ?_)
  · rw [if_pos c1] at h0
    refine wp_iload_n dX7_odds_84 rfl ?_
    refine wp_bipush (v := (8 : Int32)) dX7_odds_85 (by decide) ?_
    refine wp_icmp_eq (tgt := 138) dX7_odds_87 (by decide) (fun c2 => ?_) (fun c2 => ?_)
    · rw [if_pos c2] at h0
      exact WP.wk (BX7_odds_138 hk0 h0) (And.intro rfl (And.intro rfl (And.intro rfl trivial)))
    · rw [if_neg c2] at h0
      refine wp_iload dX7_odds_90 rfl ?_
      refine wp_aload_n dX7_odds_92 rfl ?_
      obtain ⟨x3, e5, h4⟩ := Option.bind_eq_some_iff.mp h0
      clear h0
      refine wp_getR okX7 (k := 4) (by decide) tw302 dX7_odds_93 e5 ?_
      refine wp_iload_n dX7_odds_96 rfl ?_
      obtain ⟨q6, e8, h7⟩ := Option.bind_eq_some_iff.mp h4
      clear h4
      refine wp_Vi (As := [.int l1]) (S := [.int l5]) okM_X5_placeOf tw383 tw384 tw382 (OX5_placeOf e8) rfl rfl rfl ⟨(Nat.le_of_ble_eq_true rfl), (Nat.le_of_ble_eq_true rfl)⟩ (Nat.le_of_ble_eq_true rfl) rfl dX7_odds_97 (MX5_placeOf e8) ?_
      refine wp_bipush (v := (-4 : Int32)) dX7_odds_100 (by decide) ?_
      refine wp_icmp_eq (tgt := 127) dX7_odds_102 (by decide) (fun c9 => ?_) (fun c9 => ?_)
      · rw [if_pos c9] at h7
        exact WP.wk (BX7_odds_127 hk0 h7) (And.intro rfl (And.intro rfl trivial))
      · rw [if_neg c9] at h7
        refine wp_aload_n dX7_odds_105 rfl ?_
        obtain ⟨x10, e12, h11⟩ := Option.bind_eq_some_iff.mp h7
        clear h7
        refine wp_getR okX7 (k := 4) (by decide) tw302 dX7_odds_106 e12 ?_
        refine wp_aload_n dX7_odds_109 rfl ?_
        obtain ⟨x13, e15, h14⟩ := Option.bind_eq_some_iff.mp h11
        clear h11
        refine wp_getR okX7 (k := 2) (by decide) tw300 dX7_odds_110 e15 ?_
        refine wp_iload_n dX7_odds_113 rfl ?_
        obtain ⟨q16, e18, h17⟩ := Option.bind_eq_some_iff.mp h14
        clear h14
        refine wp_Vi (As := [.ref x13, .int l1]) (S := [.int l5]) okM_X5_isUsable tw391 tw392 tw390 (OX5_isUsable e18) rfl rfl rfl ⟨(Nat.le_of_ble_eq_true rfl), (Nat.le_of_ble_eq_true rfl)⟩ (Nat.le_of_ble_eq_true rfl) rfl dX7_odds_114 (MX5_isUsable e18) ?_
        refine wp_if_eq (tgt := 127) dX7_odds_117 (by decide) (fun c19 => ?_) (fun c19 => ?_)
        · rw [if_pos c19] at h17
          exact WP.wk (BX7_odds_127 hk0 h17) (And.intro rfl (And.intro rfl trivial))
        · rw [if_neg c19] at h17
          refine wp_bipush (v := (10 : Int32)) dX7_odds_120 (by decide) ?_
          refine wp_iload_n dX7_odds_122 rfl ?_
          refine wp_isub dX7_odds_123 ?_
          refine wp_goto (tgt := 128) dX7_odds_124 (by decide) ?_
          exact WP.wk (BX7_odds_128 hk0 h17) (And.intro rfl (And.intro rfl trivial))
  · rw [if_neg c1] at h0
    refine wp_iload dX7_odds_65 rfl ?_
    refine wp_iload_n dX7_odds_67 rfl ?_
    refine wp_imul dX7_odds_68 ?_
    refine wp_istore (L1 := [some (.ref l0), some (.int l1), some (.int l2), some (.int l3), some (.int l4), some (.int (l5 * l2)), some (.int l6), some (.int l7)]) dX7_odds_69 (Nat.le_of_ble_eq_true rfl) rfl ?_
    refine wp_iload dX7_odds_71 rfl ?_
    refine wp_bipush (v := (10 : Int32)) dX7_odds_73 (by decide) ?_
    refine wp_imul dX7_odds_75 ?_
    refine wp_istore (L1 := [some (.ref l0), some (.int l1), some (.int l2), some (.int l3), some (.int l4), some (.int (l5 * l2)), some (.int (l6 * (10 : Int32))), some (.int l7)]) dX7_odds_76 (Nat.le_of_ble_eq_true rfl) rfl ?_
    refine wp_iinc (v := (l7 + (1 : Int32))) (L1 := [some (.ref l0), some (.int l1), some (.int l2), some (.int l3), some (.int l4), some (.int (l5 * l2)), some (.int (l6 * (10 : Int32))), some (.int (l7 + (1 : Int32)))]) dX7_odds_78 (Nat.le_of_ble_eq_true rfl) rfl (congrArg (fun z => l7 + z) (by decide)) rfl ?_
    refine wp_goto (tgt := 58) dX7_odds_81 (by decide) ?_
    exact WP.wk (hk0 _ _ _ _ _ _ _ _ _ _ h0) (And.intro rfl (And.intro rfl (And.intro rfl (And.intro rfl (And.intro rfl (And.intro rfl (And.intro rfl (And.intro rfl trivial))))))))
def eX7_odds (k : KTX7_odds) (w : XW) (l0 : Nat) (l1 : Int32) (l2 : Int32) (l3 : Int32) : Option (Int32 × XW) :=
  if l1 = (8 : Int32) then
  bX7_odds_14 k w l0 l1 l2 l3
  else
  (fX7_isTold w l0 l1).bind fun q2 =>
  if q2.1 = 0 then
  bX7_odds_33 k q2.2
  else
  bX7_odds_14 k q2.2 l0 l1 l2 l3
theorem EX7_odds {K : CX} {l : Launch} {n0 k0 : Nat} {k : KTX7_odds} (hk0 : ∀ (w : XW) (l0 : Nat) (l1 : Int32) (l2 : Int32) (l3 : Int32) (l4 : Int32) (l5 : Int32) (l6 : Int32) (l7 : Int32) (q : Int32 × XW), k w l0 l1 l2 l3 l4 l5 l6 l7 = some q → WP K l mX7_odds 3 74 n0 k0 (some (.int q.1)) q.2 58 [some (.ref l0), some (.int l1), some (.int l2), some (.int l3), some (.int l4), some (.int l5), some (.int l6), some (.int l7)] [] w) {w : XW} {l0 : Nat} {l1 : Int32} {l2 : Int32} {l3 : Int32} {q : Int32 × XW} (h0 : eX7_odds k w l0 l1 l2 l3 = some q) : WP K l mX7_odds 3 74 n0 k0 (some (.int q.1)) q.2 0 [some (.ref l0), some (.int l1), some (.int l2), some (.int l3), none, none, none, none] [] w := by
  unfold eX7_odds at h0
  refine wp_iload_n dX7_odds_0 rfl ?_
  refine wp_bipush (v := (8 : Int32)) dX7_odds_1 (by decide) ?_
  refine wp_icmp_eq (tgt := 14) dX7_odds_3 (by decide) (fun c1 => ?_) (fun c1 => ?_)
  · rw [if_pos c1] at h0
    exact WP.wk (BX7_odds_14 hk0 h0) (And.intro rfl (And.intro rfl (And.intro rfl (And.intro rfl trivial))))
  · rw [if_neg c1] at h0
    refine wp_aload_n dX7_odds_6 rfl ?_
    refine wp_iload_n dX7_odds_7 rfl ?_
    obtain ⟨q2, e4, h3⟩ := Option.bind_eq_some_iff.mp h0
    clear h0
    refine wp_Vi (As := [.int l1]) (S := []) okM_X7_isTold tw380 twP_X7_isTold tw378 (OX7_isTold e4) rfl rfl rfl ⟨(Nat.le_of_ble_eq_true rfl), (Nat.le_of_ble_eq_true rfl)⟩ (Nat.le_of_ble_eq_true rfl) rfl dX7_odds_8 (MX7_isTold e4) ?_
    refine wp_if_eq (tgt := 33) dX7_odds_11 (by decide) (fun c5 => ?_) (fun c5 => ?_)
    · rw [if_pos c5] at h3
      exact WP.wk (BX7_odds_33 hk0 h3) trivial
    · rw [if_neg c5] at h3
      exact WP.wk (BX7_odds_14 hk0 h3) (And.intro rfl (And.intro rfl (And.intro rfl (And.intro rfl trivial))))
def loX7_odds : Nat → KTX7_odds
  | 0 => fun _ _ _ _ _ _ _ _ _ => none
  | n + 1 => hX7_odds_58 (loX7_odds n)
theorem LOX7_odds {K : CX} {l : Launch} {n0 k0 : Nat} : ∀ n : Nat, (∀ (w : XW) (l0 : Nat) (l1 : Int32) (l2 : Int32) (l3 : Int32) (l4 : Int32) (l5 : Int32) (l6 : Int32) (l7 : Int32) (q : Int32 × XW), (loX7_odds n) w l0 l1 l2 l3 l4 l5 l6 l7 = some q → WP K l mX7_odds 3 74 n0 k0 (some (.int q.1)) q.2 58 [some (.ref l0), some (.int l1), some (.int l2), some (.int l3), some (.int l4), some (.int l5), some (.int l6), some (.int l7)] [] w) := by
  intro n
  induction n with
  | zero => exact fun _ _ _ _ _ _ _ _ _ q h => (by cases h)
  | succ n ih => exact fun _ _ _ _ _ _ _ _ _ q h => HX7_odds_58 ih h
def fX7_odds (w : XW) (l0 : Nat) (l1 : Int32) (l2 : Int32) (l3 : Int32) : Option (Int32 × XW) := if isO w l0 7 = true then eX7_odds (loX7_odds FU) w l0 l1 l2 l3 else none
theorem OX7_odds {w : XW} {l0 : Nat} {l1 : Int32} {l2 : Int32} {l3 : Int32} {q : Int32 × XW} (h : fX7_odds w l0 l1 l2 l3 = some q) : isO w l0 7 = true := Decidable.byContradiction fun z => by unfold fX7_odds at h; rw [if_neg z] at h; cases h
theorem MX7_odds {K : CX} {l : Launch} {w : XW} {l0 : Nat} {l1 : Int32} {l2 : Int32} {l3 : Int32} {q : Int32 × XW} (h : fX7_odds w l0 l1 l2 l3 = some q) : MT K l mX7_odds 3 74 [.ref l0, .int l1, .int l2, .int l3] w (some (.int q.1)) q.2 := by
  have z := OX7_odds h
  unfold fX7_odds at h
  rw [if_pos z] at h
  exact MT.of (by decide) (Nat.le_of_ble_eq_true rfl) rfl (EX7_odds (LOX7_odds FU) h)
/-! FractionRunModel.odds(III)I: frames 5, words 118 -/
abbrev mX8_odds : MR := (⟨"FractionRunModel", "odds", "(III)I"⟩, prog_10_method_65_code, 11, (some .int))
theorem dX8_odds_0 : decode prog_10_method_65_code 0 = .ok (.aload_n 0, 1) := by decide +kernel
theorem dX8_odds_1 : decode prog_10_method_65_code 1 = .ok (.iload_n 1, 1) := by decide +kernel
theorem dX8_odds_2 : decode prog_10_method_65_code 2 = .ok (.invokevirtual 223, 3) := by decide +kernel
theorem dX8_odds_5 : decode prog_10_method_65_code 5 = .ok (.ifCond .eq 25, 3) := by decide +kernel
theorem dX8_odds_8 : decode prog_10_method_65_code 8 = .ok (.iload_n 2, 1) := by decide +kernel
theorem dX8_odds_9 : decode prog_10_method_65_code 9 = .ok (.i2l, 1) := by decide +kernel
theorem dX8_odds_10 : decode prog_10_method_65_code 10 = .ok (.lconst 0, 1) := by decide +kernel
theorem dX8_odds_11 : decode prog_10_method_65_code 11 = .ok (.ldc2_w 239, 3) := by decide +kernel
theorem dX8_odds_14 : decode prog_10_method_65_code 14 = .ok (.invokestatic 88, 3) := by decide +kernel
theorem dX8_odds_17 : decode prog_10_method_65_code 17 = .ok (.ifCond .eq 13, 3) := by decide +kernel
theorem dX8_odds_20 : decode prog_10_method_65_code 20 = .ok (.iload_n 3, 1) := by decide +kernel
theorem dX8_odds_21 : decode prog_10_method_65_code 21 = .ok (.i2l, 1) := by decide +kernel
theorem dX8_odds_22 : decode prog_10_method_65_code 22 = .ok (.lconst 0, 1) := by decide +kernel
theorem dX8_odds_23 : decode prog_10_method_65_code 23 = .ok (.lconst 1, 1) := by decide +kernel
theorem dX8_odds_24 : decode prog_10_method_65_code 24 = .ok (.invokestatic 88, 3) := by decide +kernel
theorem dX8_odds_27 : decode prog_10_method_65_code 27 = .ok (.ifCond .ne 5, 3) := by decide +kernel
theorem dX8_odds_30 : decode prog_10_method_65_code 30 = .ok (.iconst (-1), 1) := by decide +kernel
theorem dX8_odds_31 : decode prog_10_method_65_code 31 = .ok (.ireturn, 1) := by decide +kernel
theorem dX8_odds_32 : decode prog_10_method_65_code 32 = .ok (.iconst 0, 1) := by decide +kernel
theorem dX8_odds_33 : decode prog_10_method_65_code 33 = .ok (.istore 4, 2) := by decide +kernel
theorem dX8_odds_35 : decode prog_10_method_65_code 35 = .ok (.iconst 1, 1) := by decide +kernel
theorem dX8_odds_36 : decode prog_10_method_65_code 36 = .ok (.istore 5, 2) := by decide +kernel
theorem dX8_odds_38 : decode prog_10_method_65_code 38 = .ok (.iconst 1, 1) := by decide +kernel
theorem dX8_odds_39 : decode prog_10_method_65_code 39 = .ok (.istore 6, 2) := by decide +kernel
theorem dX8_odds_41 : decode prog_10_method_65_code 41 = .ok (.aload_n 0, 1) := by decide +kernel
theorem dX8_odds_42 : decode prog_10_method_65_code 42 = .ok (.iconst 0, 1) := by decide +kernel
theorem dX8_odds_43 : decode prog_10_method_65_code 43 = .ok (.iload 4, 2) := by decide +kernel
theorem dX8_odds_45 : decode prog_10_method_65_code 45 = .ok (.invokevirtual 145, 3) := by decide +kernel
theorem dX8_odds_48 : decode prog_10_method_65_code 48 = .ok (.istore 7, 2) := by decide +kernel
theorem dX8_odds_50 : decode prog_10_method_65_code 50 = .ok (.iload 7, 2) := by decide +kernel
theorem dX8_odds_52 : decode prog_10_method_65_code 52 = .ok (.ifCond .lt 43, 3) := by decide +kernel
theorem dX8_odds_55 : decode prog_10_method_65_code 55 = .ok (.iload 7, 2) := by decide +kernel
theorem dX8_odds_57 : decode prog_10_method_65_code 57 = .ok (.iload_n 1, 1) := by decide +kernel
theorem dX8_odds_58 : decode prog_10_method_65_code 58 = .ok (.if_icmp .eq 37, 3) := by decide +kernel
theorem dX8_odds_61 : decode prog_10_method_65_code 61 = .ok (.iload 5, 2) := by decide +kernel
theorem dX8_odds_63 : decode prog_10_method_65_code 63 = .ok (.iload_n 2, 1) := by decide +kernel
theorem dX8_odds_64 : decode prog_10_method_65_code 64 = .ok (.imul, 1) := by decide +kernel
theorem dX8_odds_65 : decode prog_10_method_65_code 65 = .ok (.istore 5, 2) := by decide +kernel
theorem dX8_odds_67 : decode prog_10_method_65_code 67 = .ok (.iload 6, 2) := by decide +kernel
theorem dX8_odds_69 : decode prog_10_method_65_code 69 = .ok (.bipush 10, 2) := by decide +kernel
theorem dX8_odds_71 : decode prog_10_method_65_code 71 = .ok (.imul, 1) := by decide +kernel
theorem dX8_odds_72 : decode prog_10_method_65_code 72 = .ok (.istore 6, 2) := by decide +kernel
theorem dX8_odds_74 : decode prog_10_method_65_code 74 = .ok (.iload 4, 2) := by decide +kernel
theorem dX8_odds_76 : decode prog_10_method_65_code 76 = .ok (.iconst 1, 1) := by decide +kernel
theorem dX8_odds_77 : decode prog_10_method_65_code 77 = .ok (.iload 7, 2) := by decide +kernel
theorem dX8_odds_79 : decode prog_10_method_65_code 79 = .ok (.ishl, 1) := by decide +kernel
theorem dX8_odds_80 : decode prog_10_method_65_code 80 = .ok (.ior, 1) := by decide +kernel
theorem dX8_odds_81 : decode prog_10_method_65_code 81 = .ok (.istore 4, 2) := by decide +kernel
theorem dX8_odds_83 : decode prog_10_method_65_code 83 = .ok (.aload_n 0, 1) := by decide +kernel
theorem dX8_odds_84 : decode prog_10_method_65_code 84 = .ok (.iconst 0, 1) := by decide +kernel
theorem dX8_odds_85 : decode prog_10_method_65_code 85 = .ok (.iload 4, 2) := by decide +kernel
theorem dX8_odds_87 : decode prog_10_method_65_code 87 = .ok (.invokevirtual 145, 3) := by decide +kernel
theorem dX8_odds_90 : decode prog_10_method_65_code 90 = .ok (.istore 7, 2) := by decide +kernel
theorem dX8_odds_92 : decode prog_10_method_65_code 92 = .ok (.goto (-42), 3) := by decide +kernel
theorem dX8_odds_95 : decode prog_10_method_65_code 95 = .ok (.iload 7, 2) := by decide +kernel
theorem dX8_odds_97 : decode prog_10_method_65_code 97 = .ok (.ifCond .lt 13, 3) := by decide +kernel
theorem dX8_odds_100 : decode prog_10_method_65_code 100 = .ok (.iload 5, 2) := by decide +kernel
theorem dX8_odds_102 : decode prog_10_method_65_code 102 = .ok (.bipush 10, 2) := by decide +kernel
theorem dX8_odds_104 : decode prog_10_method_65_code 104 = .ok (.iload_n 2, 1) := by decide +kernel
theorem dX8_odds_105 : decode prog_10_method_65_code 105 = .ok (.isub, 1) := by decide +kernel
theorem dX8_odds_106 : decode prog_10_method_65_code 106 = .ok (.imul, 1) := by decide +kernel
theorem dX8_odds_107 : decode prog_10_method_65_code 107 = .ok (.goto 15, 3) := by decide +kernel
theorem dX8_odds_110 : decode prog_10_method_65_code 110 = .ok (.iload_n 1, 1) := by decide +kernel
theorem dX8_odds_111 : decode prog_10_method_65_code 111 = .ok (.bipush 8, 2) := by decide +kernel
theorem dX8_odds_113 : decode prog_10_method_65_code 113 = .ok (.if_icmp .ne 8, 3) := by decide +kernel
theorem dX8_odds_116 : decode prog_10_method_65_code 116 = .ok (.iload 5, 2) := by decide +kernel
theorem dX8_odds_118 : decode prog_10_method_65_code 118 = .ok (.goto 4, 3) := by decide +kernel
theorem dX8_odds_121 : decode prog_10_method_65_code 121 = .ok (.iconst 0, 1) := by decide +kernel
theorem dX8_odds_122 : decode prog_10_method_65_code 122 = .ok (.istore 5, 2) := by decide +kernel
theorem dX8_odds_124 : decode prog_10_method_65_code 124 = .ok (.iload 6, 2) := by decide +kernel
theorem dX8_odds_126 : decode prog_10_method_65_code 126 = .ok (.iload 7, 2) := by decide +kernel
theorem dX8_odds_128 : decode prog_10_method_65_code 128 = .ok (.ifCond .lt 8, 3) := by decide +kernel
theorem dX8_odds_131 : decode prog_10_method_65_code 131 = .ok (.bipush 10, 2) := by decide +kernel
theorem dX8_odds_133 : decode prog_10_method_65_code 133 = .ok (.goto 4, 3) := by decide +kernel
theorem dX8_odds_136 : decode prog_10_method_65_code 136 = .ok (.iconst 1, 1) := by decide +kernel
theorem dX8_odds_137 : decode prog_10_method_65_code 137 = .ok (.imul, 1) := by decide +kernel
theorem dX8_odds_138 : decode prog_10_method_65_code 138 = .ok (.istore 6, 2) := by decide +kernel
theorem dX8_odds_140 : decode prog_10_method_65_code 140 = .ok (.iload 5, 2) := by decide +kernel
theorem dX8_odds_142 : decode prog_10_method_65_code 142 = .ok (.istore 8, 2) := by decide +kernel
theorem dX8_odds_144 : decode prog_10_method_65_code 144 = .ok (.iload 6, 2) := by decide +kernel
theorem dX8_odds_146 : decode prog_10_method_65_code 146 = .ok (.istore 9, 2) := by decide +kernel
theorem dX8_odds_148 : decode prog_10_method_65_code 148 = .ok (.iload 9, 2) := by decide +kernel
theorem dX8_odds_150 : decode prog_10_method_65_code 150 = .ok (.ifCond .eq 21, 3) := by decide +kernel
theorem dX8_odds_153 : decode prog_10_method_65_code 153 = .ok (.iload 8, 2) := by decide +kernel
theorem dX8_odds_155 : decode prog_10_method_65_code 155 = .ok (.iload 9, 2) := by decide +kernel
theorem dX8_odds_157 : decode prog_10_method_65_code 157 = .ok (.irem, 1) := by decide +kernel
theorem dX8_odds_158 : decode prog_10_method_65_code 158 = .ok (.istore 10, 2) := by decide +kernel
theorem dX8_odds_160 : decode prog_10_method_65_code 160 = .ok (.iload 9, 2) := by decide +kernel
theorem dX8_odds_162 : decode prog_10_method_65_code 162 = .ok (.istore 8, 2) := by decide +kernel
theorem dX8_odds_164 : decode prog_10_method_65_code 164 = .ok (.iload 10, 2) := by decide +kernel
theorem dX8_odds_166 : decode prog_10_method_65_code 166 = .ok (.istore 9, 2) := by decide +kernel
theorem dX8_odds_168 : decode prog_10_method_65_code 168 = .ok (.goto (-20), 3) := by decide +kernel
theorem dX8_odds_171 : decode prog_10_method_65_code 171 = .ok (.iload_n 3, 1) := by decide +kernel
theorem dX8_odds_172 : decode prog_10_method_65_code 172 = .ok (.ifCond .ne 11, 3) := by decide +kernel
theorem dX8_odds_175 : decode prog_10_method_65_code 175 = .ok (.iload 5, 2) := by decide +kernel
theorem dX8_odds_177 : decode prog_10_method_65_code 177 = .ok (.iload 8, 2) := by decide +kernel
theorem dX8_odds_179 : decode prog_10_method_65_code 179 = .ok (.idiv, 1) := by decide +kernel
theorem dX8_odds_180 : decode prog_10_method_65_code 180 = .ok (.goto 8, 3) := by decide +kernel
theorem dX8_odds_183 : decode prog_10_method_65_code 183 = .ok (.iload 6, 2) := by decide +kernel
theorem dX8_odds_185 : decode prog_10_method_65_code 185 = .ok (.iload 8, 2) := by decide +kernel
theorem dX8_odds_187 : decode prog_10_method_65_code 187 = .ok (.idiv, 1) := by decide +kernel
theorem dX8_odds_188 : decode prog_10_method_65_code 188 = .ok (.ireturn, 1) := by decide +kernel
theorem okM_X8_odds : okM mX8_odds 3 := ⟨tw1029, tw15, by decide, by decide, by decide +kernel⟩
abbrev KTX8_odds : Type := (XW → Nat → Int32 → Int32 → Int32 → Int32 → Int32 → Int32 → Int32 → Option (Int32 × XW)) × (XW → Int32 → Int32 → Int32 → Int32 → Int32 → Option (Int32 × XW))
def bX8_odds_188 (k : KTX8_odds) (w : XW) (s0 : Int32) : Option (Int32 × XW) :=
  some (s0, w)
theorem BX8_odds_188 {K : CX} {l : Launch} {n0 k0 : Nat} {k : KTX8_odds} (hk0 : ∀ (w : XW) (l0 : Nat) (l1 : Int32) (l2 : Int32) (l3 : Int32) (l4 : Int32) (l5 : Int32) (l6 : Int32) (l7 : Int32) (q : Int32 × XW), k.1 w l0 l1 l2 l3 l4 l5 l6 l7 = some q → WP K l mX8_odds 5 118 n0 k0 (some (.int q.1)) q.2 50 [some (.ref l0), some (.int l1), some (.int l2), some (.int l3), some (.int l4), some (.int l5), some (.int l6), some (.int l7), none, none, none] [] w) (hk1 : ∀ (w : XW) (l3 : Int32) (l5 : Int32) (l6 : Int32) (l8 : Int32) (l9 : Int32) (q : Int32 × XW), k.2 w l3 l5 l6 l8 l9 = some q → WP K l mX8_odds 5 118 n0 k0 (some (.int q.1)) q.2 148 [none, none, none, some (.int l3), none, some (.int l5), some (.int l6), none, some (.int l8), some (.int l9), none] [] w) {w : XW} {s0 : Int32} {q : Int32 × XW} (h0 : bX8_odds_188 k w s0 = some q) : WP K l mX8_odds 5 118 n0 k0 (some (.int q.1)) q.2 188 [none, none, none, none, none, none, none, none, none, none, none] [.int s0] w := by
  unfold bX8_odds_188 at h0
  cases h0
  exact wp_iret rfl dX8_odds_188
def bX8_odds_137 (k : KTX8_odds) (w : XW) (l3 : Int32) (l5 : Int32) (s0 : Int32) (s1 : Int32) : Option (Int32 × XW) :=
  k.2 w l3 l5 (s0 * s1) l5 (s0 * s1)
theorem BX8_odds_137 {K : CX} {l : Launch} {n0 k0 : Nat} {k : KTX8_odds} (hk0 : ∀ (w : XW) (l0 : Nat) (l1 : Int32) (l2 : Int32) (l3 : Int32) (l4 : Int32) (l5 : Int32) (l6 : Int32) (l7 : Int32) (q : Int32 × XW), k.1 w l0 l1 l2 l3 l4 l5 l6 l7 = some q → WP K l mX8_odds 5 118 n0 k0 (some (.int q.1)) q.2 50 [some (.ref l0), some (.int l1), some (.int l2), some (.int l3), some (.int l4), some (.int l5), some (.int l6), some (.int l7), none, none, none] [] w) (hk1 : ∀ (w : XW) (l3 : Int32) (l5 : Int32) (l6 : Int32) (l8 : Int32) (l9 : Int32) (q : Int32 × XW), k.2 w l3 l5 l6 l8 l9 = some q → WP K l mX8_odds 5 118 n0 k0 (some (.int q.1)) q.2 148 [none, none, none, some (.int l3), none, some (.int l5), some (.int l6), none, some (.int l8), some (.int l9), none] [] w) {w : XW} {l3 : Int32} {l5 : Int32} {s0 : Int32} {s1 : Int32} {q : Int32 × XW} (h0 : bX8_odds_137 k w l3 l5 s0 s1 = some q) : WP K l mX8_odds 5 118 n0 k0 (some (.int q.1)) q.2 137 [none, none, none, some (.int l3), none, some (.int l5), none, none, none, none, none] [.int s1, .int s0] w := by
  unfold bX8_odds_137 at h0
  refine wp_imul dX8_odds_137 ?_
  refine wp_istore (L1 := [none, none, none, some (.int l3), none, some (.int l5), some (.int (s0 * s1)), none, none, none, none]) dX8_odds_138 (Nat.le_of_ble_eq_true rfl) rfl ?_
  refine wp_iload dX8_odds_140 rfl ?_
  refine wp_istore (L1 := [none, none, none, some (.int l3), none, some (.int l5), some (.int (s0 * s1)), none, some (.int l5), none, none]) dX8_odds_142 (Nat.le_of_ble_eq_true rfl) rfl ?_
  refine wp_iload dX8_odds_144 rfl ?_
  refine wp_istore (L1 := [none, none, none, some (.int l3), none, some (.int l5), some (.int (s0 * s1)), none, some (.int l5), some (.int (s0 * s1)), none]) dX8_odds_146 (Nat.le_of_ble_eq_true rfl) rfl ?_
  exact WP.wk (hk1 _ _ _ _ _ _ _ h0) (And.intro rfl (And.intro rfl (And.intro rfl (And.intro rfl (And.intro rfl trivial)))))
def bX8_odds_122 (k : KTX8_odds) (w : XW) (l3 : Int32) (l6 : Int32) (l7 : Int32) (s0 : Int32) : Option (Int32 × XW) :=
  if l7 < 0 then
  bX8_odds_137 k w l3 s0 l6 (1 : Int32)
  else
  bX8_odds_137 k w l3 s0 l6 (10 : Int32)
theorem BX8_odds_122 {K : CX} {l : Launch} {n0 k0 : Nat} {k : KTX8_odds} (hk0 : ∀ (w : XW) (l0 : Nat) (l1 : Int32) (l2 : Int32) (l3 : Int32) (l4 : Int32) (l5 : Int32) (l6 : Int32) (l7 : Int32) (q : Int32 × XW), k.1 w l0 l1 l2 l3 l4 l5 l6 l7 = some q → WP K l mX8_odds 5 118 n0 k0 (some (.int q.1)) q.2 50 [some (.ref l0), some (.int l1), some (.int l2), some (.int l3), some (.int l4), some (.int l5), some (.int l6), some (.int l7), none, none, none] [] w) (hk1 : ∀ (w : XW) (l3 : Int32) (l5 : Int32) (l6 : Int32) (l8 : Int32) (l9 : Int32) (q : Int32 × XW), k.2 w l3 l5 l6 l8 l9 = some q → WP K l mX8_odds 5 118 n0 k0 (some (.int q.1)) q.2 148 [none, none, none, some (.int l3), none, some (.int l5), some (.int l6), none, some (.int l8), some (.int l9), none] [] w) {w : XW} {l3 : Int32} {l6 : Int32} {l7 : Int32} {s0 : Int32} {q : Int32 × XW} (h0 : bX8_odds_122 k w l3 l6 l7 s0 = some q) : WP K l mX8_odds 5 118 n0 k0 (some (.int q.1)) q.2 122 [none, none, none, some (.int l3), none, none, some (.int l6), some (.int l7), none, none, none] [.int s0] w := by
  unfold bX8_odds_122 at h0
  refine wp_istore (L1 := [none, none, none, some (.int l3), none, some (.int s0), some (.int l6), some (.int l7), none, none, none]) dX8_odds_122 (Nat.le_of_ble_eq_true rfl) rfl ?_
  refine wp_iload dX8_odds_124 rfl ?_
  refine wp_iload dX8_odds_126 rfl ?_
  refine wp_if_lt (tgt := 136) dX8_odds_128 (by decide) (fun c1 => ?_) (fun c1 => ?_)
  · rw [if_pos c1] at h0
    refine wp_iconst (v := (1 : Int32)) dX8_odds_136 (by decide) ?_
    exact WP.wk (BX8_odds_137 hk0 hk1 h0) (And.intro rfl (And.intro rfl trivial))
  · rw [if_neg c1] at h0
    refine wp_bipush (v := (10 : Int32)) dX8_odds_131 (by decide) ?_
    refine wp_goto (tgt := 137) dX8_odds_133 (by decide) ?_
    exact WP.wk (BX8_odds_137 hk0 hk1 h0) (And.intro rfl (And.intro rfl trivial))
def bX8_odds_95 (k : KTX8_odds) (w : XW) (l1 : Int32) (l2 : Int32) (l3 : Int32) (l5 : Int32) (l6 : Int32) (l7 : Int32) : Option (Int32 × XW) :=
  if l7 < 0 then
  if l1 = (8 : Int32) then
  bX8_odds_122 k w l3 l6 l7 l5
  else
  bX8_odds_122 k w l3 l6 l7 (0 : Int32)
  else
  bX8_odds_122 k w l3 l6 l7 (l5 * ((10 : Int32) - l2))
theorem BX8_odds_95 {K : CX} {l : Launch} {n0 k0 : Nat} {k : KTX8_odds} (hk0 : ∀ (w : XW) (l0 : Nat) (l1 : Int32) (l2 : Int32) (l3 : Int32) (l4 : Int32) (l5 : Int32) (l6 : Int32) (l7 : Int32) (q : Int32 × XW), k.1 w l0 l1 l2 l3 l4 l5 l6 l7 = some q → WP K l mX8_odds 5 118 n0 k0 (some (.int q.1)) q.2 50 [some (.ref l0), some (.int l1), some (.int l2), some (.int l3), some (.int l4), some (.int l5), some (.int l6), some (.int l7), none, none, none] [] w) (hk1 : ∀ (w : XW) (l3 : Int32) (l5 : Int32) (l6 : Int32) (l8 : Int32) (l9 : Int32) (q : Int32 × XW), k.2 w l3 l5 l6 l8 l9 = some q → WP K l mX8_odds 5 118 n0 k0 (some (.int q.1)) q.2 148 [none, none, none, some (.int l3), none, some (.int l5), some (.int l6), none, some (.int l8), some (.int l9), none] [] w) {w : XW} {l1 : Int32} {l2 : Int32} {l3 : Int32} {l5 : Int32} {l6 : Int32} {l7 : Int32} {q : Int32 × XW} (h0 : bX8_odds_95 k w l1 l2 l3 l5 l6 l7 = some q) : WP K l mX8_odds 5 118 n0 k0 (some (.int q.1)) q.2 95 [none, some (.int l1), some (.int l2), some (.int l3), none, some (.int l5), some (.int l6), some (.int l7), none, none, none] [] w := by
  unfold bX8_odds_95 at h0
  refine wp_iload dX8_odds_95 rfl ?_
  refine wp_if_lt (tgt := 110) dX8_odds_97 (by decide) (fun c1 => ?_) (fun c1 => ?_)
  · rw [if_pos c1] at h0
    refine wp_iload_n dX8_odds_110 rfl ?_
    refine wp_bipush (v := (8 : Int32)) dX8_odds_111 (by decide) ?_
    refine wp_icmp_ne (tgt := 121) dX8_odds_113 (by decide) (fun c2 => ?_) (fun c2 => ?_)
    · rw [if_neg c2] at h0
      refine wp_iconst (v := (0 : Int32)) dX8_odds_121 (by decide) ?_
      exact WP.wk (BX8_odds_122 hk0 hk1 h0) (And.intro rfl (And.intro rfl (And.intro rfl trivial)))
    · rw [if_pos c2] at h0
      refine wp_iload dX8_odds_116 rfl ?_
      refine wp_goto (tgt := 122) dX8_odds_118 (by decide) ?_
      exact WP.wk (BX8_odds_122 hk0 hk1 h0) (And.intro rfl (And.intro rfl (And.intro rfl trivial)))
  · rw [if_neg c1] at h0
    refine wp_iload dX8_odds_100 rfl ?_
    refine wp_bipush (v := (10 : Int32)) dX8_odds_102 (by decide) ?_
    refine wp_iload_n dX8_odds_104 rfl ?_
    refine wp_isub dX8_odds_105 ?_
    refine wp_imul dX8_odds_106 ?_
    refine wp_goto (tgt := 122) dX8_odds_107 (by decide) ?_
    exact WP.wk (BX8_odds_122 hk0 hk1 h0) (And.intro rfl (And.intro rfl (And.intro rfl trivial)))
def bX8_odds_30 (k : KTX8_odds) (w : XW) : Option (Int32 × XW) :=
  some ((-1 : Int32), w)
theorem BX8_odds_30 {K : CX} {l : Launch} {n0 k0 : Nat} {k : KTX8_odds} (hk0 : ∀ (w : XW) (l0 : Nat) (l1 : Int32) (l2 : Int32) (l3 : Int32) (l4 : Int32) (l5 : Int32) (l6 : Int32) (l7 : Int32) (q : Int32 × XW), k.1 w l0 l1 l2 l3 l4 l5 l6 l7 = some q → WP K l mX8_odds 5 118 n0 k0 (some (.int q.1)) q.2 50 [some (.ref l0), some (.int l1), some (.int l2), some (.int l3), some (.int l4), some (.int l5), some (.int l6), some (.int l7), none, none, none] [] w) (hk1 : ∀ (w : XW) (l3 : Int32) (l5 : Int32) (l6 : Int32) (l8 : Int32) (l9 : Int32) (q : Int32 × XW), k.2 w l3 l5 l6 l8 l9 = some q → WP K l mX8_odds 5 118 n0 k0 (some (.int q.1)) q.2 148 [none, none, none, some (.int l3), none, some (.int l5), some (.int l6), none, some (.int l8), some (.int l9), none] [] w) {w : XW} {q : Int32 × XW} (h0 : bX8_odds_30 k w = some q) : WP K l mX8_odds 5 118 n0 k0 (some (.int q.1)) q.2 30 [none, none, none, none, none, none, none, none, none, none, none] [] w := by
  unfold bX8_odds_30 at h0
  refine wp_iconst (v := (-1 : Int32)) dX8_odds_30 (by decide) ?_
  cases h0
  exact wp_iret rfl dX8_odds_31
def hX8_odds_148 (k : KTX8_odds) (w : XW) (l3 : Int32) (l5 : Int32) (l6 : Int32) (l8 : Int32) (l9 : Int32) : Option (Int32 × XW) :=
  if l9 = 0 then
  if l3 = 0 then
  if l8 = 0 then none else
  bX8_odds_188 k w (l5 / l8)
  else
  if l8 = 0 then none else
  bX8_odds_188 k w (l6 / l8)
  else
  if l9 = 0 then none else
  k.2 w l3 l5 l6 l9 (irm l8 l9)
theorem HX8_odds_148 {K : CX} {l : Launch} {n0 k0 : Nat} {k : KTX8_odds} (hk0 : ∀ (w : XW) (l0 : Nat) (l1 : Int32) (l2 : Int32) (l3 : Int32) (l4 : Int32) (l5 : Int32) (l6 : Int32) (l7 : Int32) (q : Int32 × XW), k.1 w l0 l1 l2 l3 l4 l5 l6 l7 = some q → WP K l mX8_odds 5 118 n0 k0 (some (.int q.1)) q.2 50 [some (.ref l0), some (.int l1), some (.int l2), some (.int l3), some (.int l4), some (.int l5), some (.int l6), some (.int l7), none, none, none] [] w) (hk1 : ∀ (w : XW) (l3 : Int32) (l5 : Int32) (l6 : Int32) (l8 : Int32) (l9 : Int32) (q : Int32 × XW), k.2 w l3 l5 l6 l8 l9 = some q → WP K l mX8_odds 5 118 n0 k0 (some (.int q.1)) q.2 148 [none, none, none, some (.int l3), none, some (.int l5), some (.int l6), none, some (.int l8), some (.int l9), none] [] w) {w : XW} {l3 : Int32} {l5 : Int32} {l6 : Int32} {l8 : Int32} {l9 : Int32} {q : Int32 × XW} (h0 : hX8_odds_148 k w l3 l5 l6 l8 l9 = some q) : WP K l mX8_odds 5 118 n0 k0 (some (.int q.1)) q.2 148 [none, none, none, some (.int l3), none, some (.int l5), some (.int l6), none, some (.int l8), some (.int l9), none] [] w := by
  unfold hX8_odds_148 at h0
  refine wp_iload dX8_odds_148 rfl ?_
  refine wp_if_eq (tgt := 171) dX8_odds_150 (by decide) (fun c1 => ?_) (fun c1 => ?_)
  · rw [if_pos c1] at h0
    refine wp_iload_n dX8_odds_171 rfl ?_
    refine wp_if_ne (tgt := 183) dX8_odds_172 (by decide) (fun c2 => ?_) (fun c2 => ?_)
    · rw [if_neg c2] at h0
      refine wp_iload dX8_odds_183 rfl ?_
      refine wp_iload dX8_odds_185 rfl ?_
      have c3 : ¬ l8 = 0 := by intro z; rw [if_pos z] at h0; cases h0
      rw [if_neg c3] at h0
      have h4 := h0; clear h0
      refine wp_idiv dX8_odds_187 c3 ?_
      exact WP.wk (BX8_odds_188 hk0 hk1 h4) trivial
    · rw [if_pos c2] at h0
      refine wp_iload dX8_odds_175 rfl ?_
      refine wp_iload dX8_odds_177 rfl ?_
      have c5 : ¬ l8 = 0 := by intro z; rw [if_pos z] at h0; cases h0
      rw [if_neg c5] at h0
      have h6 := h0; clear h0
      refine wp_idiv dX8_odds_179 c5 ?_
      refine wp_goto (tgt := 188) dX8_odds_180 (by decide) ?_
      exact WP.wk (BX8_odds_188 hk0 hk1 h6) trivial
  · rw [if_neg c1] at h0
    refine wp_iload dX8_odds_153 rfl ?_
    refine wp_iload dX8_odds_155 rfl ?_
    have c7 : ¬ l9 = 0 := by intro z; rw [if_pos z] at h0; cases h0
    rw [if_neg c7] at h0
    have h8 := h0; clear h0
    refine wp_irm dX8_odds_157 c7 ?_
    refine wp_istore (L1 := [none, none, none, some (.int l3), none, some (.int l5), some (.int l6), none, some (.int l8), some (.int l9), some (.int (irm l8 l9))]) dX8_odds_158 (Nat.le_of_ble_eq_true rfl) rfl ?_
    refine wp_iload dX8_odds_160 rfl ?_
    refine wp_istore (L1 := [none, none, none, some (.int l3), none, some (.int l5), some (.int l6), none, some (.int l9), some (.int l9), some (.int (irm l8 l9))]) dX8_odds_162 (Nat.le_of_ble_eq_true rfl) rfl ?_
    refine wp_iload dX8_odds_164 rfl ?_
    refine wp_istore (L1 := [none, none, none, some (.int l3), none, some (.int l5), some (.int l6), none, some (.int l9), some (.int (irm l8 l9)), some (.int (irm l8 l9))]) dX8_odds_166 (Nat.le_of_ble_eq_true rfl) rfl ?_
    refine wp_goto (tgt := 148) dX8_odds_168 (by decide) ?_
    exact WP.wk (hk1 _ _ _ _ _ _ _ h8) (And.intro rfl (And.intro rfl (And.intro rfl (And.intro rfl (And.intro rfl trivial)))))
def hX8_odds_50 (k : KTX8_odds) (w : XW) (l0 : Nat) (l1 : Int32) (l2 : Int32) (l3 : Int32) (l4 : Int32) (l5 : Int32) (l6 : Int32) (l7 : Int32) : Option (Int32 × XW) :=
  if l7 < 0 then
  bX8_odds_95 k w l1 l2 l3 l5 l6 l7
  else
  if l7 = l1 then
  bX8_odds_95 k w l1 l2 l3 l5 l6 l7
  else
  (fX8_who w l0 (0 : Int32) (l4 ||| ((1 : Int32) <<< (l7 &&& 31)))).bind fun q3 =>
  k.1 q3.2 l0 l1 l2 l3 (l4 ||| ((1 : Int32) <<< (l7 &&& 31))) (l5 * l2) (l6 * (10 : Int32)) q3.1
theorem HX8_odds_50 {K : CX} {l : Launch} {n0 k0 : Nat} {k : KTX8_odds} (hk0 : ∀ (w : XW) (l0 : Nat) (l1 : Int32) (l2 : Int32) (l3 : Int32) (l4 : Int32) (l5 : Int32) (l6 : Int32) (l7 : Int32) (q : Int32 × XW), k.1 w l0 l1 l2 l3 l4 l5 l6 l7 = some q → WP K l mX8_odds 5 118 n0 k0 (some (.int q.1)) q.2 50 [some (.ref l0), some (.int l1), some (.int l2), some (.int l3), some (.int l4), some (.int l5), some (.int l6), some (.int l7), none, none, none] [] w) (hk1 : ∀ (w : XW) (l3 : Int32) (l5 : Int32) (l6 : Int32) (l8 : Int32) (l9 : Int32) (q : Int32 × XW), k.2 w l3 l5 l6 l8 l9 = some q → WP K l mX8_odds 5 118 n0 k0 (some (.int q.1)) q.2 148 [none, none, none, some (.int l3), none, some (.int l5), some (.int l6), none, some (.int l8), some (.int l9), none] [] w) {w : XW} {l0 : Nat} {l1 : Int32} {l2 : Int32} {l3 : Int32} {l4 : Int32} {l5 : Int32} {l6 : Int32} {l7 : Int32} {q : Int32 × XW} (h0 : hX8_odds_50 k w l0 l1 l2 l3 l4 l5 l6 l7 = some q) : WP K l mX8_odds 5 118 n0 k0 (some (.int q.1)) q.2 50 [some (.ref l0), some (.int l1), some (.int l2), some (.int l3), some (.int l4), some (.int l5), some (.int l6), some (.int l7), none, none, none] [] w := by
  unfold hX8_odds_50 at h0
  refine wp_iload dX8_odds_50 rfl ?_
  refine wp_if_lt (tgt := 95) dX8_odds_52 (by decide) (fun c1 => ?_) (fun c1 => ?_)
  · rw [if_pos c1] at h0
    exact WP.wk (BX8_odds_95 hk0 hk1 h0) (And.intro rfl (And.intro rfl (And.intro rfl (And.intro rfl (And.intro rfl (And.intro rfl trivial))))))
  · rw [if_neg c1] at h0
    refine wp_iload dX8_odds_55 rfl ?_
    refine wp_iload_n dX8_odds_57 rfl ?_
    refine wp_icmp_eq (tgt := 95) dX8_odds_58 (by decide) (fun c2 => ?_) (fun c2 => ?_)
    · rw [if_pos c2] at h0
      exact WP.wk (BX8_odds_95 hk0 hk1 h0) (And.intro rfl (And.intro rfl (And.intro rfl (And.intro rfl (And.intro rfl (And.intro rfl trivial))))))
    · rw [if_neg c2] at h0
      refine wp_iload dX8_odds_61 rfl ?_
      refine wp_iload_n dX8_odds_63 rfl ?_
      refine wp_imul dX8_odds_64 ?_
      refine wp_istore (L1 := [some (.ref l0), some (.int l1), some (.int l2), some (.int l3), some (.int l4), some (.int (l5 * l2)), some (.int l6), some (.int l7), none, none, none]) dX8_odds_65 (Nat.le_of_ble_eq_true rfl) rfl ?_
      refine wp_iload dX8_odds_67 rfl ?_
      refine wp_bipush (v := (10 : Int32)) dX8_odds_69 (by decide) ?_
      refine wp_imul dX8_odds_71 ?_
      refine wp_istore (L1 := [some (.ref l0), some (.int l1), some (.int l2), some (.int l3), some (.int l4), some (.int (l5 * l2)), some (.int (l6 * (10 : Int32))), some (.int l7), none, none, none]) dX8_odds_72 (Nat.le_of_ble_eq_true rfl) rfl ?_
      refine wp_iload dX8_odds_74 rfl ?_
      refine wp_iconst (v := (1 : Int32)) dX8_odds_76 (by decide) ?_
      refine wp_iload dX8_odds_77 rfl ?_
      refine wp_ishl dX8_odds_79 ?_
      refine wp_ior dX8_odds_80 ?_
      refine wp_istore (L1 := [some (.ref l0), some (.int l1), some (.int l2), some (.int l3), some (.int (l4 ||| ((1 : Int32) <<< (l7 &&& 31)))), some (.int (l5 * l2)), some (.int (l6 * (10 : Int32))), some (.int l7), none, none, none]) dX8_odds_81 (Nat.le_of_ble_eq_true rfl) rfl ?_
      refine wp_aload_n dX8_odds_83 rfl ?_
      refine wp_iconst (v := (0 : Int32)) dX8_odds_84 (by decide) ?_
      refine wp_iload dX8_odds_85 rfl ?_
      obtain ⟨q3, e5, h4⟩ := Option.bind_eq_some_iff.mp h0
      clear h0
      refine wp_Vi (As := [.int (0 : Int32), .int (l4 ||| ((1 : Int32) <<< (l7 &&& 31)))]) (S := []) okM_X8_who tw869 twP_X8_who tw867 (OX8_who e5) rfl rfl rfl ⟨(Nat.le_of_ble_eq_true rfl), (Nat.le_of_ble_eq_true rfl)⟩ (Nat.le_of_ble_eq_true rfl) rfl dX8_odds_87 (MX8_who e5) ?_
      refine wp_istore (L1 := [some (.ref l0), some (.int l1), some (.int l2), some (.int l3), some (.int (l4 ||| ((1 : Int32) <<< (l7 &&& 31)))), some (.int (l5 * l2)), some (.int (l6 * (10 : Int32))), some (.int q3.1), none, none, none]) dX8_odds_90 (Nat.le_of_ble_eq_true rfl) rfl ?_
      refine wp_goto (tgt := 50) dX8_odds_92 (by decide) ?_
      exact WP.wk (hk0 _ _ _ _ _ _ _ _ _ _ h4) (And.intro rfl (And.intro rfl (And.intro rfl (And.intro rfl (And.intro rfl (And.intro rfl (And.intro rfl (And.intro rfl trivial))))))))
def eX8_odds (k : KTX8_odds) (w : XW) (l0 : Nat) (l1 : Int32) (l2 : Int32) (l3 : Int32) : Option (Int32 × XW) :=
  (fX8_isWho w l0 l1).bind fun q1 =>
  if q1.1 = 0 then
  bX8_odds_30 k q1.2
  else
  (fX8_in q1.2 (l2.toInt64) (0 : Int64) (10 : Int64)).bind fun q5 =>
  if q5.1 = 0 then
  bX8_odds_30 k q5.2
  else
  (fX8_in q5.2 (l3.toInt64) (0 : Int64) (1 : Int64)).bind fun q9 =>
  if q9.1 = 0 then
  bX8_odds_30 k q9.2
  else
  (fX8_who q9.2 l0 (0 : Int32) (0 : Int32)).bind fun q13 =>
  k.1 q13.2 l0 l1 l2 l3 (0 : Int32) (1 : Int32) (1 : Int32) q13.1
theorem EX8_odds {K : CX} {l : Launch} {n0 k0 : Nat} {k : KTX8_odds} (hk0 : ∀ (w : XW) (l0 : Nat) (l1 : Int32) (l2 : Int32) (l3 : Int32) (l4 : Int32) (l5 : Int32) (l6 : Int32) (l7 : Int32) (q : Int32 × XW), k.1 w l0 l1 l2 l3 l4 l5 l6 l7 = some q → WP K l mX8_odds 5 118 n0 k0 (some (.int q.1)) q.2 50 [some (.ref l0), some (.int l1), some (.int l2), some (.int l3), some (.int l4), some (.int l5), some (.int l6), some (.int l7), none, none, none] [] w) (hk1 : ∀ (w : XW) (l3 : Int32) (l5 : Int32) (l6 : Int32) (l8 : Int32) (l9 : Int32) (q : Int32 × XW), k.2 w l3 l5 l6 l8 l9 = some q → WP K l mX8_odds 5 118 n0 k0 (some (.int q.1)) q.2 148 [none, none, none, some (.int l3), none, some (.int l5), some (.int l6), none, some (.int l8), some (.int l9), none] [] w) {w : XW} {l0 : Nat} {l1 : Int32} {l2 : Int32} {l3 : Int32} {q : Int32 × XW} (h0 : eX8_odds k w l0 l1 l2 l3 = some q) : WP K l mX8_odds 5 118 n0 k0 (some (.int q.1)) q.2 0 [some (.ref l0), some (.int l1), some (.int l2), some (.int l3), none, none, none, none, none, none, none] [] w := by
  unfold eX8_odds at h0
  refine wp_aload_n dX8_odds_0 rfl ?_
  refine wp_iload_n dX8_odds_1 rfl ?_
  obtain ⟨q1, e3, h2⟩ := Option.bind_eq_some_iff.mp h0
  clear h0
  refine wp_Vi (As := [.int l1]) (S := []) okM_X8_isWho tw996 twP_X8_isWho tw994 (OX8_isWho e3) rfl rfl rfl ⟨(Nat.le_of_ble_eq_true rfl), (Nat.le_of_ble_eq_true rfl)⟩ (Nat.le_of_ble_eq_true rfl) rfl dX8_odds_2 (MX8_isWho e3) ?_
  refine wp_if_eq (tgt := 30) dX8_odds_5 (by decide) (fun c4 => ?_) (fun c4 => ?_)
  · rw [if_pos c4] at h2
    exact WP.wk (BX8_odds_30 hk0 hk1 h2) trivial
  · rw [if_neg c4] at h2
    refine wp_iload_n dX8_odds_8 rfl ?_
    refine wp_i2l dX8_odds_9 ?_
    refine wp_lconst (v := (0 : Int64)) dX8_odds_10 (by decide) ?_
    refine wp_ldc2 tw1030 dX8_odds_11 ?_
    obtain ⟨q5, e7, h6⟩ := Option.bind_eq_some_iff.mp h2
    clear h2
    refine wp_Si (As := [.long (l2.toInt64), .long (0 : Int64), .long (10 : Int64)]) (S := []) okM_X8_in tw785 tw784 rfl ⟨(Nat.le_of_ble_eq_true rfl), (Nat.le_of_ble_eq_true rfl)⟩ (Nat.le_of_ble_eq_true rfl) rfl dX8_odds_14 (MX8_in e7) ?_
    refine wp_if_eq (tgt := 30) dX8_odds_17 (by decide) (fun c8 => ?_) (fun c8 => ?_)
    · rw [if_pos c8] at h6
      exact WP.wk (BX8_odds_30 hk0 hk1 h6) trivial
    · rw [if_neg c8] at h6
      refine wp_iload_n dX8_odds_20 rfl ?_
      refine wp_i2l dX8_odds_21 ?_
      refine wp_lconst (v := (0 : Int64)) dX8_odds_22 (by decide) ?_
      refine wp_lconst (v := (1 : Int64)) dX8_odds_23 (by decide) ?_
      obtain ⟨q9, e11, h10⟩ := Option.bind_eq_some_iff.mp h6
      clear h6
      refine wp_Si (As := [.long (l3.toInt64), .long (0 : Int64), .long (1 : Int64)]) (S := []) okM_X8_in tw785 tw784 rfl ⟨(Nat.le_of_ble_eq_true rfl), (Nat.le_of_ble_eq_true rfl)⟩ (Nat.le_of_ble_eq_true rfl) rfl dX8_odds_24 (MX8_in e11) ?_
      refine wp_if_ne (tgt := 32) dX8_odds_27 (by decide) (fun c12 => ?_) (fun c12 => ?_)
      · rw [if_neg c12] at h10
        refine wp_iconst (v := (0 : Int32)) dX8_odds_32 (by decide) ?_
        refine wp_istore (L1 := [some (.ref l0), some (.int l1), some (.int l2), some (.int l3), some (.int (0 : Int32)), none, none, none, none, none, none]) dX8_odds_33 (Nat.le_of_ble_eq_true rfl) rfl ?_
        refine wp_iconst (v := (1 : Int32)) dX8_odds_35 (by decide) ?_
        refine wp_istore (L1 := [some (.ref l0), some (.int l1), some (.int l2), some (.int l3), some (.int (0 : Int32)), some (.int (1 : Int32)), none, none, none, none, none]) dX8_odds_36 (Nat.le_of_ble_eq_true rfl) rfl ?_
        refine wp_iconst (v := (1 : Int32)) dX8_odds_38 (by decide) ?_
        refine wp_istore (L1 := [some (.ref l0), some (.int l1), some (.int l2), some (.int l3), some (.int (0 : Int32)), some (.int (1 : Int32)), some (.int (1 : Int32)), none, none, none, none]) dX8_odds_39 (Nat.le_of_ble_eq_true rfl) rfl ?_
        refine wp_aload_n dX8_odds_41 rfl ?_
        refine wp_iconst (v := (0 : Int32)) dX8_odds_42 (by decide) ?_
        refine wp_iload dX8_odds_43 rfl ?_
        obtain ⟨q13, e15, h14⟩ := Option.bind_eq_some_iff.mp h10
        clear h10
        refine wp_Vi (As := [.int (0 : Int32), .int (0 : Int32)]) (S := []) okM_X8_who tw869 twP_X8_who tw867 (OX8_who e15) rfl rfl rfl ⟨(Nat.le_of_ble_eq_true rfl), (Nat.le_of_ble_eq_true rfl)⟩ (Nat.le_of_ble_eq_true rfl) rfl dX8_odds_45 (MX8_who e15) ?_
        refine wp_istore (L1 := [some (.ref l0), some (.int l1), some (.int l2), some (.int l3), some (.int (0 : Int32)), some (.int (1 : Int32)), some (.int (1 : Int32)), some (.int q13.1), none, none, none]) dX8_odds_48 (Nat.le_of_ble_eq_true rfl) rfl ?_
        exact WP.wk (hk0 _ _ _ _ _ _ _ _ _ _ h14) (And.intro rfl (And.intro rfl (And.intro rfl (And.intro rfl (And.intro rfl (And.intro rfl (And.intro rfl (And.intro rfl trivial))))))))
      · rw [if_pos c12] at h10
        exact WP.wk (BX8_odds_30 hk0 hk1 h10) trivial
def loX8_odds : Nat → KTX8_odds
  | 0 => (fun _ _ _ _ _ _ _ _ _ => none, fun _ _ _ _ _ _ => none)
  | n + 1 => (hX8_odds_50 (loX8_odds n), hX8_odds_148 (loX8_odds n))
theorem LOX8_odds {K : CX} {l : Launch} {n0 k0 : Nat} : ∀ n : Nat, (∀ (w : XW) (l0 : Nat) (l1 : Int32) (l2 : Int32) (l3 : Int32) (l4 : Int32) (l5 : Int32) (l6 : Int32) (l7 : Int32) (q : Int32 × XW), (loX8_odds n).1 w l0 l1 l2 l3 l4 l5 l6 l7 = some q → WP K l mX8_odds 5 118 n0 k0 (some (.int q.1)) q.2 50 [some (.ref l0), some (.int l1), some (.int l2), some (.int l3), some (.int l4), some (.int l5), some (.int l6), some (.int l7), none, none, none] [] w) ∧ (∀ (w : XW) (l3 : Int32) (l5 : Int32) (l6 : Int32) (l8 : Int32) (l9 : Int32) (q : Int32 × XW), (loX8_odds n).2 w l3 l5 l6 l8 l9 = some q → WP K l mX8_odds 5 118 n0 k0 (some (.int q.1)) q.2 148 [none, none, none, some (.int l3), none, some (.int l5), some (.int l6), none, some (.int l8), some (.int l9), none] [] w) := by
  intro n
  induction n with
  | zero => exact ⟨fun _ _ _ _ _ _ _ _ _ q h => (by cases h), fun _ _ _ _ _ _ q h => (by cases h)⟩
  | succ n ih => exact ⟨fun _ _ _ _ _ _ _ _ _ q h => HX8_odds_50 ih.1 ih.2 h, fun _ _ _ _ _ _ q h => HX8_odds_148 ih.1 ih.2 h⟩
def fX8_odds (w : XW) (l0 : Nat) (l1 : Int32) (l2 : Int32) (l3 : Int32) : Option (Int32 × XW) := if isO w l0 8 = true then eX8_odds (loX8_odds FU) w l0 l1 l2 l3 else none
theorem OX8_odds {w : XW} {l0 : Nat} {l1 : Int32} {l2 : Int32} {l3 : Int32} {q : Int32 × XW} (h : fX8_odds w l0 l1 l2 l3 = some q) : isO w l0 8 = true := Decidable.byContradiction fun z => by unfold fX8_odds at h; rw [if_neg z] at h; cases h
theorem MX8_odds {K : CX} {l : Launch} {w : XW} {l0 : Nat} {l1 : Int32} {l2 : Int32} {l3 : Int32} {q : Int32 × XW} (h : fX8_odds w l0 l1 l2 l3 = some q) : MT K l mX8_odds 5 118 [.ref l0, .int l1, .int l2, .int l3] w (some (.int q.1)) q.2 := by
  have z := OX8_odds h
  unfold fX8_odds at h
  rw [if_pos z] at h
  exact MT.of (by decide) (Nat.le_of_ble_eq_true rfl) rfl (EX8_odds (LOX8_odds FU).1 (LOX8_odds FU).2 h)
