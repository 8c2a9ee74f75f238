/-! FractionRun.findKinds(I)I: frames 4, words 93 -/
abbrev mX7_findKinds : MR := (⟨"FractionRun", "findKinds", "(I)I"⟩, prog_1_method_41_code, 6, (some .int))
theorem dX7_findKinds_0 : decode prog_1_method_41_code 0 = .ok (.aload_n 0, 1) := by decide +kernel
theorem dX7_findKinds_1 : decode prog_1_method_41_code 1 = .ok (.getfield 30, 3) := by decide +kernel
theorem dX7_findKinds_4 : decode prog_1_method_41_code 4 = .ok (.aload_n 0, 1) := by decide +kernel
theorem dX7_findKinds_5 : decode prog_1_method_41_code 5 = .ok (.getfield 26, 3) := by decide +kernel
theorem dX7_findKinds_8 : decode prog_1_method_41_code 8 = .ok (.invokevirtual 112, 3) := by decide +kernel
theorem dX7_findKinds_11 : decode prog_1_method_41_code 11 = .ok (.iconst 0, 1) := by decide +kernel
theorem dX7_findKinds_12 : decode prog_1_method_41_code 12 = .ok (.istore_n 2, 1) := by decide +kernel
theorem dX7_findKinds_13 : decode prog_1_method_41_code 13 = .ok (.iconst 0, 1) := by decide +kernel
theorem dX7_findKinds_14 : decode prog_1_method_41_code 14 = .ok (.istore_n 3, 1) := by decide +kernel
theorem dX7_findKinds_15 : decode prog_1_method_41_code 15 = .ok (.iload_n 3, 1) := by decide +kernel
theorem dX7_findKinds_16 : decode prog_1_method_41_code 16 = .ok (.bipush 6, 2) := by decide +kernel
theorem dX7_findKinds_18 : decode prog_1_method_41_code 18 = .ok (.if_icmp .ge 98, 3) := by decide +kernel
theorem dX7_findKinds_21 : decode prog_1_method_41_code 21 = .ok (.aload_n 0, 1) := by decide +kernel
theorem dX7_findKinds_22 : decode prog_1_method_41_code 22 = .ok (.getfield 30, 3) := by decide +kernel
theorem dX7_findKinds_25 : decode prog_1_method_41_code 25 = .ok (.getfield 124, 3) := by decide +kernel
theorem dX7_findKinds_28 : decode prog_1_method_41_code 28 = .ok (.iload_n 1, 1) := by decide +kernel
theorem dX7_findKinds_29 : decode prog_1_method_41_code 29 = .ok (.iload_n 3, 1) := by decide +kernel
theorem dX7_findKinds_30 : decode prog_1_method_41_code 30 = .ok (.iastore, 1) := by decide +kernel
theorem dX7_findKinds_31 : decode prog_1_method_41_code 31 = .ok (.aload_n 0, 1) := by decide +kernel
theorem dX7_findKinds_32 : decode prog_1_method_41_code 32 = .ok (.getfield 40, 3) := by decide +kernel
theorem dX7_findKinds_35 : decode prog_1_method_41_code 35 = .ok (.aload_n 0, 1) := by decide +kernel
theorem dX7_findKinds_36 : decode prog_1_method_41_code 36 = .ok (.getfield 36, 3) := by decide +kernel
theorem dX7_findKinds_39 : decode prog_1_method_41_code 39 = .ok (.invokevirtual 189, 3) := by decide +kernel
theorem dX7_findKinds_42 : decode prog_1_method_41_code 42 = .ok (.iconst 1, 1) := by decide +kernel
theorem dX7_findKinds_43 : decode prog_1_method_41_code 43 = .ok (.istore 4, 2) := by decide +kernel
theorem dX7_findKinds_45 : decode prog_1_method_41_code 45 = .ok (.iload 4, 2) := by decide +kernel
theorem dX7_findKinds_47 : decode prog_1_method_41_code 47 = .ok (.bipush 60, 2) := by decide +kernel
theorem dX7_findKinds_49 : decode prog_1_method_41_code 49 = .ok (.if_icmp .gt 47, 3) := by decide +kernel
theorem dX7_findKinds_52 : decode prog_1_method_41_code 52 = .ok (.aload_n 0, 1) := by decide +kernel
theorem dX7_findKinds_53 : decode prog_1_method_41_code 53 = .ok (.getfield 40, 3) := by decide +kernel
theorem dX7_findKinds_56 : decode prog_1_method_41_code 56 = .ok (.aload_n 0, 1) := by decide +kernel
theorem dX7_findKinds_57 : decode prog_1_method_41_code 57 = .ok (.getfield 30, 3) := by decide +kernel
theorem dX7_findKinds_60 : decode prog_1_method_41_code 60 = .ok (.invokevirtual 208, 3) := by decide +kernel
theorem dX7_findKinds_63 : decode prog_1_method_41_code 63 = .ok (.istore 5, 2) := by decide +kernel
theorem dX7_findKinds_65 : decode prog_1_method_41_code 65 = .ok (.aload_n 0, 1) := by decide +kernel
theorem dX7_findKinds_66 : decode prog_1_method_41_code 66 = .ok (.getfield 67, 3) := by decide +kernel
theorem dX7_findKinds_69 : decode prog_1_method_41_code 69 = .ok (.iload_n 3, 1) := by decide +kernel
theorem dX7_findKinds_70 : decode prog_1_method_41_code 70 = .ok (.iload 4, 2) := by decide +kernel
theorem dX7_findKinds_72 : decode prog_1_method_41_code 72 = .ok (.invokestatic 302, 3) := by decide +kernel
theorem dX7_findKinds_75 : decode prog_1_method_41_code 75 = .ok (.iload 5, 2) := by decide +kernel
theorem dX7_findKinds_77 : decode prog_1_method_41_code 77 = .ok (.bipush (-4), 2) := by decide +kernel
theorem dX7_findKinds_79 : decode prog_1_method_41_code 79 = .ok (.if_icmp .ne 8, 3) := by decide +kernel
theorem dX7_findKinds_82 : decode prog_1_method_41_code 82 = .ok (.bipush 8, 2) := by decide +kernel
theorem dX7_findKinds_84 : decode prog_1_method_41_code 84 = .ok (.goto 5, 3) := by decide +kernel
theorem dX7_findKinds_87 : decode prog_1_method_41_code 87 = .ok (.iload 5, 2) := by decide +kernel
theorem dX7_findKinds_89 : decode prog_1_method_41_code 89 = .ok (.iastore, 1) := by decide +kernel
theorem dX7_findKinds_90 : decode prog_1_method_41_code 90 = .ok (.iinc 4 1, 3) := by decide +kernel
theorem dX7_findKinds_93 : decode prog_1_method_41_code 93 = .ok (.goto (-48), 3) := by decide +kernel
theorem dX7_findKinds_96 : decode prog_1_method_41_code 96 = .ok (.aload_n 0, 1) := by decide +kernel
theorem dX7_findKinds_97 : decode prog_1_method_41_code 97 = .ok (.iload_n 3, 1) := by decide +kernel
theorem dX7_findKinds_98 : decode prog_1_method_41_code 98 = .ok (.invokevirtual 305, 3) := by decide +kernel
theorem dX7_findKinds_101 : decode prog_1_method_41_code 101 = .ok (.ifCond .eq 9, 3) := by decide +kernel
theorem dX7_findKinds_104 : decode prog_1_method_41_code 104 = .ok (.iload_n 2, 1) := by decide +kernel
theorem dX7_findKinds_105 : decode prog_1_method_41_code 105 = .ok (.iconst 1, 1) := by decide +kernel
theorem dX7_findKinds_106 : decode prog_1_method_41_code 106 = .ok (.iload_n 3, 1) := by decide +kernel
theorem dX7_findKinds_107 : decode prog_1_method_41_code 107 = .ok (.ishl, 1) := by decide +kernel
theorem dX7_findKinds_108 : decode prog_1_method_41_code 108 = .ok (.ior, 1) := by decide +kernel
theorem dX7_findKinds_109 : decode prog_1_method_41_code 109 = .ok (.istore_n 2, 1) := by decide +kernel
theorem dX7_findKinds_110 : decode prog_1_method_41_code 110 = .ok (.iinc 3 1, 3) := by decide +kernel
theorem dX7_findKinds_113 : decode prog_1_method_41_code 113 = .ok (.goto (-98), 3) := by decide +kernel
theorem dX7_findKinds_116 : decode prog_1_method_41_code 116 = .ok (.iload_n 2, 1) := by decide +kernel
theorem dX7_findKinds_117 : decode prog_1_method_41_code 117 = .ok (.ireturn, 1) := by decide +kernel
theorem okM_X7_findKinds : okM mX7_findKinds 1 := ⟨tw597, tw1, by decide, by decide, by decide +kernel⟩
abbrev KTX7_findKinds : Type := (XW → Nat → Int32 → Int32 → Int32 → Option (Int32 × XW)) × (XW → Nat → Int32 → Int32 → Int32 → Int32 → Option (Int32 × XW))
def bX7_findKinds_110 (k : KTX7_findKinds) (w : XW) (l0 : Nat) (l1 : Int32) (l2 : Int32) (l3 : Int32) : Option (Int32 × XW) :=
  k.1 w l0 l1 l2 (l3 + (1 : Int32))
theorem BX7_findKinds_110 {K : CX} {l : Launch} {n0 k0 : Nat} {k : KTX7_findKinds} (hk0 : ∀ (w : XW) (l0 : Nat) (l1 : Int32) (l2 : Int32) (l3 : Int32) (q : Int32 × XW), k.1 w l0 l1 l2 l3 = some q → WP K l mX7_findKinds 4 93 n0 k0 (some (.int q.1)) q.2 15 [some (.ref l0), some (.int l1), some (.int l2), some (.int l3), none, none] [] w) (hk1 : ∀ (w : XW) (l0 : Nat) (l1 : Int32) (l2 : Int32) (l3 : Int32) (l4 : Int32) (q : Int32 × XW), k.2 w l0 l1 l2 l3 l4 = some q → WP K l mX7_findKinds 4 93 n0 k0 (some (.int q.1)) q.2 45 [some (.ref l0), some (.int l1), some (.int l2), some (.int l3), some (.int l4), none] [] w) {w : XW} {l0 : Nat} {l1 : Int32} {l2 : Int32} {l3 : Int32} {q : Int32 × XW} (h0 : bX7_findKinds_110 k w l0 l1 l2 l3 = some q) : WP K l mX7_findKinds 4 93 n0 k0 (some (.int q.1)) q.2 110 [some (.ref l0), some (.int l1), some (.int l2), some (.int l3), none, none] [] w := by
  unfold bX7_findKinds_110 at h0
  refine wp_iinc (v := (l3 + (1 : Int32))) (L1 := [some (.ref l0), some (.int l1), some (.int l2), some (.int (l3 + (1 : Int32))), none, none]) dX7_findKinds_110 (Nat.le_of_ble_eq_true rfl) rfl (congrArg (fun z => l3 + z) (by decide)) rfl ?_
  refine wp_goto (tgt := 15) dX7_findKinds_113 (by decide) ?_
  exact WP.wk (hk0 _ _ _ _ _ _ h0) (And.intro rfl (And.intro rfl (And.intro rfl (And.intro rfl trivial))))
def bX7_findKinds_89 (k : KTX7_findKinds) (w : XW) (l0 : Nat) (l1 : Int32) (l2 : Int32) (l3 : Int32) (l4 : Int32) (s0 : Nat) (s1 : Int32) (s2 : Int32) : Option (Int32 × XW) :=
  (sI w 0 s0 s1 s2).bind fun w1 =>
  k.2 w1 l0 l1 l2 l3 (l4 + (1 : Int32))
theorem BX7_findKinds_89 {K : CX} {l : Launch} {n0 k0 : Nat} {k : KTX7_findKinds} (hk0 : ∀ (w : XW) (l0 : Nat) (l1 : Int32) (l2 : Int32) (l3 : Int32) (q : Int32 × XW), k.1 w l0 l1 l2 l3 = some q → WP K l mX7_findKinds 4 93 n0 k0 (some (.int q.1)) q.2 15 [some (.ref l0), some (.int l1), some (.int l2), some (.int l3), none, none] [] w) (hk1 : ∀ (w : XW) (l0 : Nat) (l1 : Int32) (l2 : Int32) (l3 : Int32) (l4 : Int32) (q : Int32 × XW), k.2 w l0 l1 l2 l3 l4 = some q → WP K l mX7_findKinds 4 93 n0 k0 (some (.int q.1)) q.2 45 [some (.ref l0), some (.int l1), some (.int l2), some (.int l3), some (.int l4), none] [] w) {w : XW} {l0 : Nat} {l1 : Int32} {l2 : Int32} {l3 : Int32} {l4 : Int32} {s0 : Nat} {s1 : Int32} {s2 : Int32} {q : Int32 × XW} (h0 : bX7_findKinds_89 k w l0 l1 l2 l3 l4 s0 s1 s2 = some q) : WP K l mX7_findKinds 4 93 n0 k0 (some (.int q.1)) q.2 89 [some (.ref l0), some (.int l1), some (.int l2), some (.int l3), some (.int l4), none] [.int s2, .int s1, .ref s0] w := by
  unfold bX7_findKinds_89 at h0
  obtain ⟨w1, e3, h2⟩ := Option.bind_eq_some_iff.mp h0
  clear h0
  refine wp_iast dX7_findKinds_89 e3 ?_
  refine wp_iinc (v := (l4 + (1 : Int32))) (L1 := [some (.ref l0), some (.int l1), some (.int l2), some (.int l3), some (.int (l4 + (1 : Int32))), none]) dX7_findKinds_90 (Nat.le_of_ble_eq_true rfl) rfl (congrArg (fun z => l4 + z) (by decide)) rfl ?_
  refine wp_goto (tgt := 45) dX7_findKinds_93 (by decide) ?_
  exact WP.wk (hk1 _ _ _ _ _ _ _ h2) (And.intro rfl (And.intro rfl (And.intro rfl (And.intro rfl (And.intro rfl trivial)))))
def hX7_findKinds_45 (k : KTX7_findKinds) (w : XW) (l0 : Nat) (l1 : Int32) (l2 : Int32) (l3 : Int32) (l4 : Int32) : Option (Int32 × XW) :=
  if (60 : Int32) < l4 then
  (fX7_tellsWhatWasSeen w l0 l3).bind fun q2 =>
  if q2.1 = 0 then
  bX7_findKinds_110 k q2.2 l0 l1 l2 l3
  else
  bX7_findKinds_110 k q2.2 l0 l1 (l2 ||| ((1 : Int32) <<< (l3 &&& 31))) l3
  else
  (gR w l0 7 5).bind fun x6 =>
  (gR w l0 7 3).bind fun x9 =>
  (fX5_takeStep w x6 x9).bind fun q12 =>
  (gR q12.2 l0 7 12).bind fun x15 =>
  (fX7_useAt q12.2 l3 l4).bind fun q18 =>
  if q12.1 = (-4 : Int32) then
  bX7_findKinds_89 k q18.2 l0 l1 l2 l3 l4 x15 q18.1 (8 : Int32)
  else
  bX7_findKinds_89 k q18.2 l0 l1 l2 l3 l4 x15 q18.1 q12.1
theorem HX7_findKinds_45 {K : CX} {l : Launch} {n0 k0 : Nat} {k : KTX7_findKinds} (hk0 : ∀ (w : XW) (l0 : Nat) (l1 : Int32) (l2 : Int32) (l3 : Int32) (q : Int32 × XW), k.1 w l0 l1 l2 l3 = some q → WP K l mX7_findKinds 4 93 n0 k0 (some (.int q.1)) q.2 15 [some (.ref l0), some (.int l1), some (.int l2), some (.int l3), none, none] [] w) (hk1 : ∀ (w : XW) (l0 : Nat) (l1 : Int32) (l2 : Int32) (l3 : Int32) (l4 : Int32) (q : Int32 × XW), k.2 w l0 l1 l2 l3 l4 = some q → WP K l mX7_findKinds 4 93 n0 k0 (some (.int q.1)) q.2 45 [some (.ref l0), some (.int l1), some (.int l2), some (.int l3), some (.int l4), none] [] w) {w : XW} {l0 : Nat} {l1 : Int32} {l2 : Int32} {l3 : Int32} {l4 : Int32} {q : Int32 × XW} (h0 : hX7_findKinds_45 k w l0 l1 l2 l3 l4 = some q) : WP K l mX7_findKinds 4 93 n0 k0 (some (.int q.1)) q.2 45 [some (.ref l0), some (.int l1), some (.int l2), some (.int l3), some (.int l4), none] [] w := by
  unfold hX7_findKinds_45 at h0
  refine wp_iload dX7_findKinds_45 rfl ?_
  refine wp_bipush (v := (60 : Int32)) dX7_findKinds_47 (by decide) ?_
  refine wp_icmp_gt (tgt := 96) dX7_findKinds_49 (by decide) (fun c1 => ?_) (fun c1 => ?_)
  · rw [if_pos c1] at h0
    refine wp_aload_n dX7_findKinds_96 rfl ?_
    refine wp_iload_n dX7_findKinds_97 rfl ?_
    obtain ⟨q2, e4, h3⟩ := Option.bind_eq_some_iff.mp h0
    clear h0
    refine wp_Vi (As := [.int l3]) (S := []) okM_X7_tellsWhatWasSeen tw603 twP_X7_tellsWhatWasSeen tw601 (OX7_tellsWhatWasSeen e4) rfl rfl rfl ⟨(Nat.le_of_ble_eq_true rfl), (Nat.le_of_ble_eq_true rfl)⟩ (Nat.le_of_ble_eq_true rfl) rfl dX7_findKinds_98 (MX7_tellsWhatWasSeen e4) ?_
    refine wp_if_eq (tgt := 110) dX7_findKinds_101 (by decide) (fun c5 => ?_) (fun c5 => ?_)
    · rw [if_pos c5] at h3
      exact WP.wk (BX7_findKinds_110 hk0 hk1 h3) (And.intro rfl (And.intro rfl (And.intro rfl (And.intro rfl trivial))))
    · rw [if_neg c5] at h3
      refine wp_iload_n dX7_findKinds_104 rfl ?_
      refine wp_iconst (v := (1 : Int32)) dX7_findKinds_105 (by decide) ?_
      refine wp_iload_n dX7_findKinds_106 rfl ?_
      refine wp_ishl dX7_findKinds_107 ?_
      refine wp_ior dX7_findKinds_108 ?_
      refine wp_istore_n (L1 := [some (.ref l0), some (.int l1), some (.int (l2 ||| ((1 : Int32) <<< (l3 &&& 31)))), some (.int l3), some (.int l4), none]) dX7_findKinds_109 (Nat.le_of_ble_eq_true rfl) rfl ?_
      exact WP.wk (BX7_findKinds_110 hk0 hk1 h3) (And.intro rfl (And.intro rfl (And.intro rfl (And.intro rfl trivial))))
  · rw [if_neg c1] at h0
    refine wp_aload_n dX7_findKinds_52 rfl ?_
    obtain ⟨x6, e8, h7⟩ := Option.bind_eq_some_iff.mp h0
    clear h0
    refine wp_getR okX7 (k := 5) (by decide) tw303 dX7_findKinds_53 e8 ?_
    refine wp_aload_n dX7_findKinds_56 rfl ?_
    obtain ⟨x9, e11, h10⟩ := Option.bind_eq_some_iff.mp h7
    clear h7
    refine wp_getR okX7 (k := 3) (by decide) tw301 dX7_findKinds_57 e11 ?_
    obtain ⟨q12, e14, h13⟩ := Option.bind_eq_some_iff.mp h10
    clear h10
    refine wp_Vi (As := [.ref x9]) (S := []) okM_X5_takeStep tw431 tw432 tw520 (OX5_takeStep e14) rfl rfl rfl ⟨(Nat.le_of_ble_eq_true rfl), (Nat.le_of_ble_eq_true rfl)⟩ (Nat.le_of_ble_eq_true rfl) rfl dX7_findKinds_60 (MX5_takeStep e14) ?_
    refine wp_istore (L1 := [some (.ref l0), some (.int l1), some (.int l2), some (.int l3), some (.int l4), some (.int q12.1)]) dX7_findKinds_63 (Nat.le_of_ble_eq_true rfl) rfl ?_
    refine wp_aload_n dX7_findKinds_65 rfl ?_
    obtain ⟨x15, e17, h16⟩ := Option.bind_eq_some_iff.mp h13
    clear h13
    refine wp_getR okX7 (k := 12) (by decide) tw310 dX7_findKinds_66 e17 ?_
    refine wp_iload_n dX7_findKinds_69 rfl ?_
    refine wp_iload dX7_findKinds_70 rfl ?_
    obtain ⟨q18, e20, h19⟩ := Option.bind_eq_some_iff.mp h16
    clear h16
    refine wp_Si (As := [.int l3, .int l4]) (S := [.ref x15]) okM_X7_useAt tw599 tw598 rfl ⟨(Nat.le_of_ble_eq_true rfl), (Nat.le_of_ble_eq_true rfl)⟩ (Nat.le_of_ble_eq_true rfl) rfl dX7_findKinds_72 (MX7_useAt e20) ?_
    refine wp_iload dX7_findKinds_75 rfl ?_
    refine wp_bipush (v := (-4 : Int32)) dX7_findKinds_77 (by decide) ?_
    refine wp_icmp_ne (tgt := 87) dX7_findKinds_79 (by decide) (fun c21 => ?_) (fun c21 => ?_)
    · rw [if_neg c21] at h19
      refine wp_iload dX7_findKinds_87 rfl ?_
      exact WP.wk (BX7_findKinds_89 hk0 hk1 h19) (And.intro rfl (And.intro rfl (And.intro rfl (And.intro rfl (And.intro rfl trivial)))))
    · rw [if_pos c21] at h19
      refine wp_bipush (v := (8 : Int32)) dX7_findKinds_82 (by decide) ?_
      refine wp_goto (tgt := 89) dX7_findKinds_84 (by decide) ?_
      exact WP.wk (BX7_findKinds_89 hk0 hk1 h19) (And.intro rfl (And.intro rfl (And.intro rfl (And.intro rfl (And.intro rfl trivial)))))
def hX7_findKinds_15 (k : KTX7_findKinds) (w : XW) (l0 : Nat) (l1 : Int32) (l2 : Int32) (l3 : Int32) : Option (Int32 × XW) :=
  if (6 : Int32) ≤ l3 then
  some (l2, w)
  else
  (gR w l0 7 3).bind fun x2 =>
  (gR w x2 1 0).bind fun x5 =>
  (sI w 0 x5 l1 l3).bind fun w8 =>
  (gR w8 l0 7 5).bind fun x11 =>
  (gR w8 l0 7 4).bind fun x14 =>
  (fX5_copyFrom w8 x11 x14).bind fun q17 =>
  k.2 q17 l0 l1 l2 l3 (1 : Int32)
theorem HX7_findKinds_15 {K : CX} {l : Launch} {n0 k0 : Nat} {k : KTX7_findKinds} (hk0 : ∀ (w : XW) (l0 : Nat) (l1 : Int32) (l2 : Int32) (l3 : Int32) (q : Int32 × XW), k.1 w l0 l1 l2 l3 = some q → WP K l mX7_findKinds 4 93 n0 k0 (some (.int q.1)) q.2 15 [some (.ref l0), some (.int l1), some (.int l2), some (.int l3), none, none] [] w) (hk1 : ∀ (w : XW) (l0 : Nat) (l1 : Int32) (l2 : Int32) (l3 : Int32) (l4 : Int32) (q : Int32 × XW), k.2 w l0 l1 l2 l3 l4 = some q → WP K l mX7_findKinds 4 93 n0 k0 (some (.int q.1)) q.2 45 [some (.ref l0), some (.int l1), some (.int l2), some (.int l3), some (.int l4), none] [] w) {w : XW} {l0 : Nat} {l1 : Int32} {l2 : Int32} {l3 : Int32} {q : Int32 × XW} (h0 : hX7_findKinds_15 k w l0 l1 l2 l3 = some q) : WP K l mX7_findKinds 4 93 n0 k0 (some (.int q.1)) q.2 15 [some (.ref l0), some (.int l1), some (.int l2), some (.int l3), none, none] [] w := by
  unfold hX7_findKinds_15 at h0
  refine wp_iload_n dX7_findKinds_15 rfl ?_
  refine wp_bipush (v := (6 : Int32)) dX7_findKinds_16 (by decide) ?_
  refine wp_icmp_ge (tgt := 116) dX7_findKinds_18 (by decide) (fun c1 => ?_) (fun c1 => ?_)
  · rw [if_pos c1] at h0
    refine wp_iload_n dX7_findKinds_116 rfl ?_
    cases h0
    exact wp_iret rfl dX7_findKinds_117
  · rw [if_neg c1] at h0
    refine wp_aload_n dX7_findKinds_21 rfl ?_
    obtain ⟨x2, e4, h3⟩ := Option.bind_eq_some_iff.mp h0
    clear h0
    refine wp_getR okX7 (k := 3) (by decide) tw301 dX7_findKinds_22 e4 ?_
    obtain ⟨x5, e7, h6⟩ := Option.bind_eq_some_iff.mp h3
    clear h3
    refine wp_getR okX1 (k := 0) (by decide) tw59 dX7_findKinds_25 e7 ?_
    refine wp_iload_n dX7_findKinds_28 rfl ?_
    refine wp_iload_n dX7_findKinds_29 rfl ?_
    obtain ⟨w8, e10, h9⟩ := Option.bind_eq_some_iff.mp h6
    clear h6
    refine wp_iast dX7_findKinds_30 e10 ?_
    refine wp_aload_n dX7_findKinds_31 rfl ?_
    obtain ⟨x11, e13, h12⟩ := Option.bind_eq_some_iff.mp h9
    clear h9
    refine wp_getR okX7 (k := 5) (by decide) tw303 dX7_findKinds_32 e13 ?_
    refine wp_aload_n dX7_findKinds_35 rfl ?_
    obtain ⟨x14, e16, h15⟩ := Option.bind_eq_some_iff.mp h12
    clear h12
    refine wp_getR okX7 (k := 4) (by decide) tw302 dX7_findKinds_36 e16 ?_
    obtain ⟨q17, e19, h18⟩ := Option.bind_eq_some_iff.mp h15
    clear h15
    refine wp_Vv (As := [.ref x14]) (S := []) okM_X5_copyFrom tw419 tw420 tw474 (OX5_copyFrom e19) rfl rfl rfl ⟨(Nat.le_of_ble_eq_true rfl), (Nat.le_of_ble_eq_true rfl)⟩ (Nat.le_of_ble_eq_true rfl) rfl dX7_findKinds_39 (MX5_copyFrom e19) ?_
    refine wp_iconst (v := (1 : Int32)) dX7_findKinds_42 (by decide) ?_
    refine wp_istore (L1 := [some (.ref l0), some (.int l1), some (.int l2), some (.int l3), some (.int (1 : Int32)), none]) dX7_findKinds_43 (Nat.le_of_ble_eq_true rfl) rfl ?_
    exact WP.wk (hk1 _ _ _ _ _ _ _ h18) (And.intro rfl (And.intro rfl (And.intro rfl (And.intro rfl (And.intro rfl trivial)))))
def eX7_findKinds (k : KTX7_findKinds) (w : XW) (l0 : Nat) (l1 : Int32) : Option (Int32 × XW) :=
  (gR w l0 7 3).bind fun x1 =>
  (gR w l0 7 2).bind fun x4 =>
  (fX1_copyFrom w x1 x4).bind fun q7 =>
  k.1 q7 l0 l1 (0 : Int32) (0 : Int32)
theorem EX7_findKinds {K : CX} {l : Launch} {n0 k0 : Nat} {k : KTX7_findKinds} (hk0 : ∀ (w : XW) (l0 : Nat) (l1 : Int32) (l2 : Int32) (l3 : Int32) (q : Int32 × XW), k.1 w l0 l1 l2 l3 = some q → WP K l mX7_findKinds 4 93 n0 k0 (some (.int q.1)) q.2 15 [some (.ref l0), some (.int l1), some (.int l2), some (.int l3), none, none] [] w) (hk1 : ∀ (w : XW) (l0 : Nat) (l1 : Int32) (l2 : Int32) (l3 : Int32) (l4 : Int32) (q : Int32 × XW), k.2 w l0 l1 l2 l3 l4 = some q → WP K l mX7_findKinds 4 93 n0 k0 (some (.int q.1)) q.2 45 [some (.ref l0), some (.int l1), some (.int l2), some (.int l3), some (.int l4), none] [] w) {w : XW} {l0 : Nat} {l1 : Int32} {q : Int32 × XW} (h0 : eX7_findKinds k w l0 l1 = some q) : WP K l mX7_findKinds 4 93 n0 k0 (some (.int q.1)) q.2 0 [some (.ref l0), some (.int l1), none, none, none, none] [] w := by
  unfold eX7_findKinds at h0
  refine wp_aload_n dX7_findKinds_0 rfl ?_
  obtain ⟨x1, e3, h2⟩ := Option.bind_eq_some_iff.mp h0
  clear h0
  refine wp_getR okX7 (k := 3) (by decide) tw301 dX7_findKinds_1 e3 ?_
  refine wp_aload_n dX7_findKinds_4 rfl ?_
  obtain ⟨x4, e6, h5⟩ := Option.bind_eq_some_iff.mp h2
  clear h2
  refine wp_getR okX7 (k := 2) (by decide) tw300 dX7_findKinds_5 e6 ?_
  obtain ⟨q7, e9, h8⟩ := Option.bind_eq_some_iff.mp h5
  clear h5
  refine wp_Vv (As := [.ref x4]) (S := []) okM_X1_copyFrom tw362 tw363 tw361 (OX1_copyFrom e9) rfl rfl rfl ⟨(Nat.le_of_ble_eq_true rfl), (Nat.le_of_ble_eq_true rfl)⟩ (Nat.le_of_ble_eq_true rfl) rfl dX7_findKinds_8 (MX1_copyFrom e9) ?_
  refine wp_iconst (v := (0 : Int32)) dX7_findKinds_11 (by decide) ?_
  refine wp_istore_n (L1 := [some (.ref l0), some (.int l1), some (.int (0 : Int32)), none, none, none]) dX7_findKinds_12 (Nat.le_of_ble_eq_true rfl) rfl ?_
  refine wp_iconst (v := (0 : Int32)) dX7_findKinds_13 (by decide) ?_
  refine wp_istore_n (L1 := [some (.ref l0), some (.int l1), some (.int (0 : Int32)), some (.int (0 : Int32)), none, none]) dX7_findKinds_14 (Nat.le_of_ble_eq_true rfl) rfl ?_
  exact WP.wk (hk0 _ _ _ _ _ _ h8) (And.intro rfl (And.intro rfl (And.intro rfl (And.intro rfl trivial))))
def loX7_findKinds : Nat → KTX7_findKinds
  | 0 => (fun _ _ _ _ _ => none, fun _ _ _ _ _ _ => none)
  | n + 1 => (hX7_findKinds_15 (loX7_findKinds n), hX7_findKinds_45 (loX7_findKinds n))
theorem LOX7_findKinds {K : CX} {l : Launch} {n0 k0 : Nat} : ∀ n : Nat, (∀ (w : XW) (l0 : Nat) (l1 : Int32) (l2 : Int32) (l3 : Int32) (q : Int32 × XW), (loX7_findKinds n).1 w l0 l1 l2 l3 = some q → WP K l mX7_findKinds 4 93 n0 k0 (some (.int q.1)) q.2 15 [some (.ref l0), some (.int l1), some (.int l2), some (.int l3), none, none] [] w) ∧ (∀ (w : XW) (l0 : Nat) (l1 : Int32) (l2 : Int32) (l3 : Int32) (l4 : Int32) (q : Int32 × XW), (loX7_findKinds n).2 w l0 l1 l2 l3 l4 = some q → WP K l mX7_findKinds 4 93 n0 k0 (some (.int q.1)) q.2 45 [some (.ref l0), some (.int l1), some (.int l2), some (.int l3), some (.int l4), none] [] w) := by
  intro n
  induction n with
  | zero => exact ⟨fun _ _ _ _ _ q h => (by cases h), fun _ _ _ _ _ _ q h => (by cases h)⟩
  | succ n ih => exact ⟨fun _ _ _ _ _ q h => HX7_findKinds_15 ih.1 ih.2 h, fun _ _ _ _ _ _ q h => HX7_findKinds_45 ih.1 ih.2 h⟩
def fX7_findKinds (w : XW) (l0 : Nat) (l1 : Int32) : Option (Int32 × XW) := if isO w l0 7 = true then eX7_findKinds (loX7_findKinds FU) w l0 l1 else none
theorem OX7_findKinds {w : XW} {l0 : Nat} {l1 : Int32} {q : Int32 × XW} (h : fX7_findKinds w l0 l1 = some q) : isO w l0 7 = true := Decidable.byContradiction fun z => by unfold fX7_findKinds at h; rw [if_neg z] at h; cases h
theorem MX7_findKinds {K : CX} {l : Launch} {w : XW} {l0 : Nat} {l1 : Int32} {q : Int32 × XW} (h : fX7_findKinds w l0 l1 = some q) : MT K l mX7_findKinds 4 93 [.ref l0, .int l1] w (some (.int q.1)) q.2 := by
  have z := OX7_findKinds h
  unfold fX7_findKinds at h
  rw [if_pos z] at h
  exact MT.of (by decide) (Nat.le_of_ble_eq_true rfl) rfl (EX7_findKinds (LOX7_findKinds FU).1 (LOX7_findKinds FU).2 h)
/-! FractionRun.kinds(I)I: frames 5, words 118 -/
abbrev mX7_kinds : MR := (⟨"FractionRun", "kinds", "(I)I"⟩, prog_1_method_26_code, 2, (some .int))
theorem dX7_kinds_0 : decode prog_1_method_26_code 0 = .ok (.aload_n 0, 1) := by decide +kernel
theorem dX7_kinds_1 : decode prog_1_method_26_code 1 = .ok (.iload_n 1, 1) := by decide +kernel
theorem dX7_kinds_2 : decode prog_1_method_26_code 2 = .ok (.invokevirtual 120, 3) := by decide +kernel
theorem dX7_kinds_5 : decode prog_1_method_26_code 5 = .ok (.ifCond .eq 11, 3) := by decide +kernel
theorem dX7_kinds_8 : decode prog_1_method_26_code 8 = .ok (.aload_n 0, 1) := by decide +kernel
theorem dX7_kinds_9 : decode prog_1_method_26_code 9 = .ok (.iload_n 1, 1) := by decide +kernel
theorem dX7_kinds_10 : decode prog_1_method_26_code 10 = .ok (.invokevirtual 233, 3) := by decide +kernel
theorem dX7_kinds_13 : decode prog_1_method_26_code 13 = .ok (.goto 4, 3) := by decide +kernel
theorem dX7_kinds_16 : decode prog_1_method_26_code 16 = .ok (.iconst (-1), 1) := by decide +kernel
theorem dX7_kinds_17 : decode prog_1_method_26_code 17 = .ok (.ireturn, 1) := by decide +kernel
theorem okM_X7_kinds : okM mX7_kinds 1 := ⟨tw593, tw1, by decide, by decide, by decide +kernel⟩
def bX7_kinds_17 (w : XW) (s0 : Int32) : Option (Int32 × XW) :=
  some (s0, w)
theorem BX7_kinds_17 {K : CX} {l : Launch} {n0 k0 : Nat} {w : XW} {s0 : Int32} {q : Int32 × XW} (h0 : bX7_kinds_17 w s0 = some q) : WP K l mX7_kinds 5 118 n0 k0 (some (.int q.1)) q.2 17 [none, none] [.int s0] w := by
  unfold bX7_kinds_17 at h0
  cases h0
  exact wp_iret rfl dX7_kinds_17
def eX7_kinds (w : XW) (l0 : Nat) (l1 : Int32) : Option (Int32 × XW) :=
  (fX7_isTold w l0 l1).bind fun q1 =>
  if q1.1 = 0 then
  bX7_kinds_17 q1.2 (-1 : Int32)
  else
  (fX7_findKinds q1.2 l0 l1).bind fun q5 =>
  bX7_kinds_17 q5.2 q5.1
theorem EX7_kinds {K : CX} {l : Launch} {n0 k0 : Nat} {w : XW} {l0 : Nat} {l1 : Int32} {q : Int32 × XW} (h0 : eX7_kinds w l0 l1 = some q) : WP K l mX7_kinds 5 118 n0 k0 (some (.int q.1)) q.2 0 [some (.ref l0), some (.int l1)] [] w := by
  unfold eX7_kinds at h0
  refine wp_aload_n dX7_kinds_0 rfl ?_
  refine wp_iload_n dX7_kinds_1 rfl ?_
  obtain ⟨q1, e3, h2⟩ := Option.bind_eq_some_iff.mp h0
  clear h0
  refine wp_Vi (As := [.int l1]) (S := []) okM_X7_isTold tw380 twP_X7_isTold tw378 (OX7_isTold e3) rfl rfl rfl ⟨(Nat.le_of_ble_eq_true rfl), (Nat.le_of_ble_eq_true rfl)⟩ (Nat.le_of_ble_eq_true rfl) rfl dX7_kinds_2 (MX7_isTold e3) ?_
  refine wp_if_eq (tgt := 16) dX7_kinds_5 (by decide) (fun c4 => ?_) (fun c4 => ?_)
  · rw [if_pos c4] at h2
    refine wp_iconst (v := (-1 : Int32)) dX7_kinds_16 (by decide) ?_
    exact WP.wk (BX7_kinds_17 h2) trivial
  · rw [if_neg c4] at h2
    refine wp_aload_n dX7_kinds_8 rfl ?_
    refine wp_iload_n dX7_kinds_9 rfl ?_
    obtain ⟨q5, e7, h6⟩ := Option.bind_eq_some_iff.mp h2
    clear h2
    refine wp_Vi (As := [.int l1]) (S := []) okM_X7_findKinds tw596 twP_X7_findKinds tw594 (OX7_findKinds e7) rfl rfl rfl ⟨(Nat.le_of_ble_eq_true rfl), (Nat.le_of_ble_eq_true rfl)⟩ (Nat.le_of_ble_eq_true rfl) rfl dX7_kinds_10 (MX7_findKinds e7) ?_
    refine wp_goto (tgt := 17) dX7_kinds_13 (by decide) ?_
    exact WP.wk (BX7_kinds_17 h6) trivial
def fX7_kinds (w : XW) (l0 : Nat) (l1 : Int32) : Option (Int32 × XW) := if isO w l0 7 = true then eX7_kinds w l0 l1 else none
theorem OX7_kinds {w : XW} {l0 : Nat} {l1 : Int32} {q : Int32 × XW} (h : fX7_kinds w l0 l1 = some q) : isO w l0 7 = true := Decidable.byContradiction fun z => by unfold fX7_kinds at h; rw [if_neg z] at h; cases h
theorem MX7_kinds {K : CX} {l : Launch} {w : XW} {l0 : Nat} {l1 : Int32} {q : Int32 × XW} (h : fX7_kinds w l0 l1 = some q) : MT K l mX7_kinds 5 118 [.ref l0, .int l1] w (some (.int q.1)) q.2 := by
  have z := OX7_kinds h
  unfold fX7_kinds at h
  rw [if_pos z] at h
  exact MT.of (by decide) (Nat.le_of_ble_eq_true rfl) rfl (EX7_kinds h)
/-! FractionRunModel.isSo()Z: frames 6, words 140 -/
abbrev mX8_isSo : MR := (⟨"FractionRunModel", "isSo", "()Z"⟩, prog_10_method_59_code, 5, (some .boolean))
theorem dX8_isSo_0 : decode prog_10_method_59_code 0 = .ok (.aload_n 0, 1) := by decide +kernel
theorem dX8_isSo_1 : decode prog_10_method_59_code 1 = .ok (.iconst 0, 1) := by decide +kernel
theorem dX8_isSo_2 : decode prog_10_method_59_code 2 = .ok (.sipush 198, 3) := by decide +kernel
theorem dX8_isSo_5 : decode prog_10_method_59_code 5 = .ok (.invokevirtual 155, 3) := by decide +kernel
theorem dX8_isSo_8 : decode prog_10_method_59_code 8 = .ok (.iconst 1, 1) := by decide +kernel
theorem dX8_isSo_9 : decode prog_10_method_59_code 9 = .ok (.istore_n 1, 1) := by decide +kernel
theorem dX8_isSo_10 : decode prog_10_method_59_code 10 = .ok (.iconst 1, 1) := by decide +kernel
theorem dX8_isSo_11 : decode prog_10_method_59_code 11 = .ok (.istore_n 2, 1) := by decide +kernel
theorem dX8_isSo_12 : decode prog_10_method_59_code 12 = .ok (.iload_n 2, 1) := by decide +kernel
theorem dX8_isSo_13 : decode prog_10_method_59_code 13 = .ok (.bipush 60, 2) := by decide +kernel
theorem dX8_isSo_15 : decode prog_10_method_59_code 15 = .ok (.if_icmp .gt 76, 3) := by decide +kernel
theorem dX8_isSo_18 : decode prog_10_method_59_code 18 = .ok (.aload_n 0, 1) := by decide +kernel
theorem dX8_isSo_19 : decode prog_10_method_59_code 19 = .ok (.sipush 198, 3) := by decide +kernel
theorem dX8_isSo_22 : decode prog_10_method_59_code 22 = .ok (.invokevirtual 175, 3) := by decide +kernel
theorem dX8_isSo_25 : decode prog_10_method_59_code 25 = .ok (.istore_n 3, 1) := by decide +kernel
theorem dX8_isSo_26 : decode prog_10_method_59_code 26 = .ok (.iconst 0, 1) := by decide +kernel
theorem dX8_isSo_27 : decode prog_10_method_59_code 27 = .ok (.istore 4, 2) := by decide +kernel
theorem dX8_isSo_29 : decode prog_10_method_59_code 29 = .ok (.iload 4, 2) := by decide +kernel
theorem dX8_isSo_31 : decode prog_10_method_59_code 31 = .ok (.aload_n 0, 1) := by decide +kernel
theorem dX8_isSo_32 : decode prog_10_method_59_code 32 = .ok (.getfield 81, 3) := by decide +kernel
theorem dX8_isSo_35 : decode prog_10_method_59_code 35 = .ok (.if_icmp .ge 50, 3) := by decide +kernel
theorem dX8_isSo_38 : decode prog_10_method_59_code 38 = .ok (.iload_n 1, 1) := by decide +kernel
theorem dX8_isSo_39 : decode prog_10_method_59_code 39 = .ok (.ifCond .eq 38, 3) := by decide +kernel
theorem dX8_isSo_42 : decode prog_10_method_59_code 42 = .ok (.aload_n 0, 1) := by decide +kernel
theorem dX8_isSo_43 : decode prog_10_method_59_code 43 = .ok (.getfield 32, 3) := by decide +kernel
theorem dX8_isSo_46 : decode prog_10_method_59_code 46 = .ok (.iload 4, 2) := by decide +kernel
theorem dX8_isSo_48 : decode prog_10_method_59_code 48 = .ok (.iaload, 1) := by decide +kernel
theorem dX8_isSo_49 : decode prog_10_method_59_code 49 = .ok (.iload_n 2, 1) := by decide +kernel
theorem dX8_isSo_50 : decode prog_10_method_59_code 50 = .ok (.if_icmp .ne 23, 3) := by decide +kernel
theorem dX8_isSo_53 : decode prog_10_method_59_code 53 = .ok (.aload_n 0, 1) := by decide +kernel
theorem dX8_isSo_54 : decode prog_10_method_59_code 54 = .ok (.getfield 35, 3) := by decide +kernel
theorem dX8_isSo_57 : decode prog_10_method_59_code 57 = .ok (.iload 4, 2) := by decide +kernel
theorem dX8_isSo_59 : decode prog_10_method_59_code 59 = .ok (.iaload, 1) := by decide +kernel
theorem dX8_isSo_60 : decode prog_10_method_59_code 60 = .ok (.iload_n 3, 1) := by decide +kernel
theorem dX8_isSo_61 : decode prog_10_method_59_code 61 = .ok (.ifCond .ge 8, 3) := by decide +kernel
theorem dX8_isSo_64 : decode prog_10_method_59_code 64 = .ok (.bipush 8, 2) := by decide +kernel
theorem dX8_isSo_66 : decode prog_10_method_59_code 66 = .ok (.goto 4, 3) := by decide +kernel
theorem dX8_isSo_69 : decode prog_10_method_59_code 69 = .ok (.iload_n 3, 1) := by decide +kernel
theorem dX8_isSo_70 : decode prog_10_method_59_code 70 = .ok (.if_icmp .ne 7, 3) := by decide +kernel
theorem dX8_isSo_73 : decode prog_10_method_59_code 73 = .ok (.iconst 1, 1) := by decide +kernel
theorem dX8_isSo_74 : decode prog_10_method_59_code 74 = .ok (.goto 4, 3) := by decide +kernel
theorem dX8_isSo_77 : decode prog_10_method_59_code 77 = .ok (.iconst 0, 1) := by decide +kernel
theorem dX8_isSo_78 : decode prog_10_method_59_code 78 = .ok (.istore_n 1, 1) := by decide +kernel
theorem dX8_isSo_79 : decode prog_10_method_59_code 79 = .ok (.iinc 4 1, 3) := by decide +kernel
theorem dX8_isSo_82 : decode prog_10_method_59_code 82 = .ok (.goto (-53), 3) := by decide +kernel
theorem dX8_isSo_85 : decode prog_10_method_59_code 85 = .ok (.iinc 2 1, 3) := by decide +kernel
theorem dX8_isSo_88 : decode prog_10_method_59_code 88 = .ok (.goto (-76), 3) := by decide +kernel
theorem dX8_isSo_91 : decode prog_10_method_59_code 91 = .ok (.iload_n 1, 1) := by decide +kernel
theorem dX8_isSo_92 : decode prog_10_method_59_code 92 = .ok (.ireturn, 1) := by decide +kernel
theorem okM_X8_isSo : okM mX8_isSo 0 := ⟨tw1013, tw15, by decide, by decide, by decide +kernel⟩
abbrev KTX8_isSo : Type := (XW → Nat → Int32 → Int32 → Option (Int32 × XW)) × (XW → Nat → Int32 → Int32 → Int32 → Int32 → Option (Int32 × XW))
def bX8_isSo_78 (k : KTX8_isSo) (w : XW) (l0 : Nat) (l2 : Int32) (l3 : Int32) (l4 : Int32) (s0 : Int32) : Option (Int32 × XW) :=
  k.2 w l0 s0 l2 l3 (l4 + (1 : Int32))
theorem BX8_isSo_78 {K : CX} {l : Launch} {n0 k0 : Nat} {k : KTX8_isSo} (hk0 : ∀ (w : XW) (l0 : Nat) (l1 : Int32) (l2 : Int32) (q : Int32 × XW), k.1 w l0 l1 l2 = some q → WP K l mX8_isSo 6 140 n0 k0 (some (.int q.1)) q.2 12 [some (.ref l0), some (.int l1), some (.int l2), none, none] [] w) (hk1 : ∀ (w : XW) (l0 : Nat) (l1 : Int32) (l2 : Int32) (l3 : Int32) (l4 : Int32) (q : Int32 × XW), k.2 w l0 l1 l2 l3 l4 = some q → WP K l mX8_isSo 6 140 n0 k0 (some (.int q.1)) q.2 29 [some (.ref l0), some (.int l1), some (.int l2), some (.int l3), some (.int l4)] [] w) {w : XW} {l0 : Nat} {l2 : Int32} {l3 : Int32} {l4 : Int32} {s0 : Int32} {q : Int32 × XW} (h0 : bX8_isSo_78 k w l0 l2 l3 l4 s0 = some q) : WP K l mX8_isSo 6 140 n0 k0 (some (.int q.1)) q.2 78 [some (.ref l0), none, some (.int l2), some (.int l3), some (.int l4)] [.int s0] w := by
  unfold bX8_isSo_78 at h0
  refine wp_istore_n (L1 := [some (.ref l0), some (.int s0), some (.int l2), some (.int l3), some (.int l4)]) dX8_isSo_78 (Nat.le_of_ble_eq_true rfl) rfl ?_
  refine wp_iinc (v := (l4 + (1 : Int32))) (L1 := [some (.ref l0), some (.int s0), some (.int l2), some (.int l3), some (.int (l4 + (1 : Int32)))]) dX8_isSo_79 (Nat.le_of_ble_eq_true rfl) rfl (congrArg (fun z => l4 + z) (by decide)) rfl ?_
  refine wp_goto (tgt := 29) dX8_isSo_82 (by decide) ?_
  exact WP.wk (hk1 _ _ _ _ _ _ _ h0) (And.intro rfl (And.intro rfl (And.intro rfl (And.intro rfl (And.intro rfl trivial)))))
def bX8_isSo_77 (k : KTX8_isSo) (w : XW) (l0 : Nat) (l2 : Int32) (l3 : Int32) (l4 : Int32) : Option (Int32 × XW) :=
  bX8_isSo_78 k w l0 l2 l3 l4 (0 : Int32)
theorem BX8_isSo_77 {K : CX} {l : Launch} {n0 k0 : Nat} {k : KTX8_isSo} (hk0 : ∀ (w : XW) (l0 : Nat) (l1 : Int32) (l2 : Int32) (q : Int32 × XW), k.1 w l0 l1 l2 = some q → WP K l mX8_isSo 6 140 n0 k0 (some (.int q.1)) q.2 12 [some (.ref l0), some (.int l1), some (.int l2), none, none] [] w) (hk1 : ∀ (w : XW) (l0 : Nat) (l1 : Int32) (l2 : Int32) (l3 : Int32) (l4 : Int32) (q : Int32 × XW), k.2 w l0 l1 l2 l3 l4 = some q → WP K l mX8_isSo 6 140 n0 k0 (some (.int q.1)) q.2 29 [some (.ref l0), some (.int l1), some (.int l2), some (.int l3), some (.int l4)] [] w) {w : XW} {l0 : Nat} {l2 : Int32} {l3 : Int32} {l4 : Int32} {q : Int32 × XW} (h0 : bX8_isSo_77 k w l0 l2 l3 l4 = some q) : WP K l mX8_isSo 6 140 n0 k0 (some (.int q.1)) q.2 77 [some (.ref l0), none, some (.int l2), some (.int l3), some (.int l4)] [] w := by
  unfold bX8_isSo_77 at h0
  refine wp_iconst (v := (0 : Int32)) dX8_isSo_77 (by decide) ?_
  exact WP.wk (BX8_isSo_78 hk0 hk1 h0) (And.intro rfl (And.intro rfl (And.intro rfl (And.intro rfl trivial))))
def bX8_isSo_73 (k : KTX8_isSo) (w : XW) (l0 : Nat) (l2 : Int32) (l3 : Int32) (l4 : Int32) : Option (Int32 × XW) :=
  bX8_isSo_78 k w l0 l2 l3 l4 (1 : Int32)
theorem BX8_isSo_73 {K : CX} {l : Launch} {n0 k0 : Nat} {k : KTX8_isSo} (hk0 : ∀ (w : XW) (l0 : Nat) (l1 : Int32) (l2 : Int32) (q : Int32 × XW), k.1 w l0 l1 l2 = some q → WP K l mX8_isSo 6 140 n0 k0 (some (.int q.1)) q.2 12 [some (.ref l0), some (.int l1), some (.int l2), none, none] [] w) (hk1 : ∀ (w : XW) (l0 : Nat) (l1 : Int32) (l2 : Int32) (l3 : Int32) (l4 : Int32) (q : Int32 × XW), k.2 w l0 l1 l2 l3 l4 = some q → WP K l mX8_isSo 6 140 n0 k0 (some (.int q.1)) q.2 29 [some (.ref l0), some (.int l1), some (.int l2), some (.int l3), some (.int l4)] [] w) {w : XW} {l0 : Nat} {l2 : Int32} {l3 : Int32} {l4 : Int32} {q : Int32 × XW} (h0 : bX8_isSo_73 k w l0 l2 l3 l4 = some q) : WP K l mX8_isSo 6 140 n0 k0 (some (.int q.1)) q.2 73 [some (.ref l0), none, some (.int l2), some (.int l3), some (.int l4)] [] w := by
  unfold bX8_isSo_73 at h0
  refine wp_iconst (v := (1 : Int32)) dX8_isSo_73 (by decide) ?_
  refine wp_goto (tgt := 78) dX8_isSo_74 (by decide) ?_
  exact WP.wk (BX8_isSo_78 hk0 hk1 h0) (And.intro rfl (And.intro rfl (And.intro rfl (And.intro rfl trivial))))
def bX8_isSo_70 (k : KTX8_isSo) (w : XW) (l0 : Nat) (l2 : Int32) (l3 : Int32) (l4 : Int32) (s0 : Int32) (s1 : Int32) : Option (Int32 × XW) :=
  if s0 = s1 then
  bX8_isSo_73 k w l0 l2 l3 l4
  else
  bX8_isSo_77 k w l0 l2 l3 l4
theorem BX8_isSo_70 {K : CX} {l : Launch} {n0 k0 : Nat} {k : KTX8_isSo} (hk0 : ∀ (w : XW) (l0 : Nat) (l1 : Int32) (l2 : Int32) (q : Int32 × XW), k.1 w l0 l1 l2 = some q → WP K l mX8_isSo 6 140 n0 k0 (some (.int q.1)) q.2 12 [some (.ref l0), some (.int l1), some (.int l2), none, none] [] w) (hk1 : ∀ (w : XW) (l0 : Nat) (l1 : Int32) (l2 : Int32) (l3 : Int32) (l4 : Int32) (q : Int32 × XW), k.2 w l0 l1 l2 l3 l4 = some q → WP K l mX8_isSo 6 140 n0 k0 (some (.int q.1)) q.2 29 [some (.ref l0), some (.int l1), some (.int l2), some (.int l3), some (.int l4)] [] w) {w : XW} {l0 : Nat} {l2 : Int32} {l3 : Int32} {l4 : Int32} {s0 : Int32} {s1 : Int32} {q : Int32 × XW} (h0 : bX8_isSo_70 k w l0 l2 l3 l4 s0 s1 = some q) : WP K l mX8_isSo 6 140 n0 k0 (some (.int q.1)) q.2 70 [some (.ref l0), none, some (.int l2), some (.int l3), some (.int l4)] [.int s1, .int s0] w := by
  unfold bX8_isSo_70 at h0
  refine wp_icmp_ne (tgt := 77) dX8_isSo_70 (by decide) (fun c1 => ?_) (fun c1 => ?_)
  · rw [if_neg c1] at h0
    exact WP.wk (BX8_isSo_77 hk0 hk1 h0) (And.intro rfl (And.intro rfl (And.intro rfl (And.intro rfl trivial))))
  · rw [if_pos c1] at h0
    exact WP.wk (BX8_isSo_73 hk0 hk1 h0) (And.intro rfl (And.intro rfl (And.intro rfl (And.intro rfl trivial))))
def hX8_isSo_29 (k : KTX8_isSo) (w : XW) (l0 : Nat) (l1 : Int32) (l2 : Int32) (l3 : Int32) (l4 : Int32) : Option (Int32 × XW) :=
  (gI w l0 8 15).bind fun x1 =>
  if x1 ≤ l4 then
  k.1 w l0 l1 (l2 + (1 : Int32))
  else
  if l1 = 0 then
  bX8_isSo_77 k w l0 l2 l3 l4
  else
  (gR w l0 8 16).bind fun x6 =>
  (aI w 0 x6 l4).bind fun x9 =>
  if x9 = l2 then
  (gR w l0 8 17).bind fun x13 =>
  (aI w 0 x13 l4).bind fun x16 =>
  if 0 ≤ l3 then
  bX8_isSo_70 k w l0 l2 l3 l4 x16 l3
  else
  bX8_isSo_70 k w l0 l2 l3 l4 x16 (8 : Int32)
  else
  bX8_isSo_73 k w l0 l2 l3 l4
theorem HX8_isSo_29 {K : CX} {l : Launch} {n0 k0 : Nat} {k : KTX8_isSo} (hk0 : ∀ (w : XW) (l0 : Nat) (l1 : Int32) (l2 : Int32) (q : Int32 × XW), k.1 w l0 l1 l2 = some q → WP K l mX8_isSo 6 140 n0 k0 (some (.int q.1)) q.2 12 [some (.ref l0), some (.int l1), some (.int l2), none, none] [] w) (hk1 : ∀ (w : XW) (l0 : Nat) (l1 : Int32) (l2 : Int32) (l3 : Int32) (l4 : Int32) (q : Int32 × XW), k.2 w l0 l1 l2 l3 l4 = some q → WP K l mX8_isSo 6 140 n0 k0 (some (.int q.1)) q.2 29 [some (.ref l0), some (.int l1), some (.int l2), some (.int l3), some (.int l4)] [] w) {w : XW} {l0 : Nat} {l1 : Int32} {l2 : Int32} {l3 : Int32} {l4 : Int32} {q : Int32 × XW} (h0 : hX8_isSo_29 k w l0 l1 l2 l3 l4 = some q) : WP K l mX8_isSo 6 140 n0 k0 (some (.int q.1)) q.2 29 [some (.ref l0), some (.int l1), some (.int l2), some (.int l3), some (.int l4)] [] w := by
  unfold hX8_isSo_29 at h0
  refine wp_iload dX8_isSo_29 rfl ?_
  refine wp_aload_n dX8_isSo_31 rfl ?_
  obtain ⟨x1, e3, h2⟩ := Option.bind_eq_some_iff.mp h0
  clear h0
  refine wp_getI okX8 (k := 15) (by decide) tw720 dX8_isSo_32 e3 ?_
  refine wp_icmp_ge (tgt := 85) dX8_isSo_35 (by decide) (fun c4 => ?_) (fun c4 => ?_)
  · rw [if_pos c4] at h2
    refine wp_iinc (v := (l2 + (1 : Int32))) (L1 := [some (.ref l0), some (.int l1), some (.int (l2 + (1 : Int32))), some (.int l3), some (.int l4)]) dX8_isSo_85 (Nat.le_of_ble_eq_true rfl) rfl (congrArg (fun z => l2 + z) (by decide)) rfl ?_
    refine wp_goto (tgt := 12) dX8_isSo_88 (by decide) ?_
    exact WP.wk (hk0 _ _ _ _ _ h2) (And.intro rfl (And.intro rfl (And.intro rfl trivial)))
  · rw [if_neg c4] at h2
    refine wp_iload_n dX8_isSo_38 rfl ?_
    refine wp_if_eq (tgt := 77) dX8_isSo_39 (by decide) (fun c5 => ?_) (fun c5 => ?_)
    · rw [if_pos c5] at h2
      exact WP.wk (BX8_isSo_77 hk0 hk1 h2) (And.intro rfl (And.intro rfl (And.intro rfl (And.intro rfl trivial))))
    · rw [if_neg c5] at h2
      refine wp_aload_n dX8_isSo_42 rfl ?_
      obtain ⟨x6, e8, h7⟩ := Option.bind_eq_some_iff.mp h2
      clear h2
      refine wp_getR okX8 (k := 16) (by decide) tw721 dX8_isSo_43 e8 ?_
      refine wp_iload dX8_isSo_46 rfl ?_
      obtain ⟨x9, e11, h10⟩ := Option.bind_eq_some_iff.mp h7
      clear h7
      refine wp_iald dX8_isSo_48 e11 ?_
      refine wp_iload_n dX8_isSo_49 rfl ?_
      refine wp_icmp_ne (tgt := 73) dX8_isSo_50 (by decide) (fun c12 => ?_) (fun c12 => ?_)
      · rw [if_neg c12] at h10
        exact WP.wk (BX8_isSo_73 hk0 hk1 h10) (And.intro rfl (And.intro rfl (And.intro rfl (And.intro rfl trivial))))
      · rw [if_pos c12] at h10
        refine wp_aload_n dX8_isSo_53 rfl ?_
        obtain ⟨x13, e15, h14⟩ := Option.bind_eq_some_iff.mp h10
        clear h10
        refine wp_getR okX8 (k := 17) (by decide) tw722 dX8_isSo_54 e15 ?_
        refine wp_iload dX8_isSo_57 rfl ?_
        obtain ⟨x16, e18, h17⟩ := Option.bind_eq_some_iff.mp h14
        clear h14
        refine wp_iald dX8_isSo_59 e18 ?_
        refine wp_iload_n dX8_isSo_60 rfl ?_
        refine wp_if_ge (tgt := 69) dX8_isSo_61 (by decide) (fun c19 => ?_) (fun c19 => ?_)
        · rw [if_pos c19] at h17
          refine wp_iload_n dX8_isSo_69 rfl ?_
          exact WP.wk (BX8_isSo_70 hk0 hk1 h17) (And.intro rfl (And.intro rfl (And.intro rfl (And.intro rfl trivial))))
        · rw [if_neg c19] at h17
          refine wp_bipush (v := (8 : Int32)) dX8_isSo_64 (by decide) ?_
          refine wp_goto (tgt := 70) dX8_isSo_66 (by decide) ?_
          exact WP.wk (BX8_isSo_70 hk0 hk1 h17) (And.intro rfl (And.intro rfl (And.intro rfl (And.intro rfl trivial))))
def hX8_isSo_12 (k : KTX8_isSo) (w : XW) (l0 : Nat) (l1 : Int32) (l2 : Int32) : Option (Int32 × XW) :=
  if (60 : Int32) < l2 then
  if l1 &&& 1 = l1 then some (l1, w) else none
  else
  (fX8_step w l0 (198 : Int32)).bind fun q3 =>
  k.2 q3.2 l0 l1 l2 q3.1 (0 : Int32)
theorem HX8_isSo_12 {K : CX} {l : Launch} {n0 k0 : Nat} {k : KTX8_isSo} (hk0 : ∀ (w : XW) (l0 : Nat) (l1 : Int32) (l2 : Int32) (q : Int32 × XW), k.1 w l0 l1 l2 = some q → WP K l mX8_isSo 6 140 n0 k0 (some (.int q.1)) q.2 12 [some (.ref l0), some (.int l1), some (.int l2), none, none] [] w) (hk1 : ∀ (w : XW) (l0 : Nat) (l1 : Int32) (l2 : Int32) (l3 : Int32) (l4 : Int32) (q : Int32 × XW), k.2 w l0 l1 l2 l3 l4 = some q → WP K l mX8_isSo 6 140 n0 k0 (some (.int q.1)) q.2 29 [some (.ref l0), some (.int l1), some (.int l2), some (.int l3), some (.int l4)] [] w) {w : XW} {l0 : Nat} {l1 : Int32} {l2 : Int32} {q : Int32 × XW} (h0 : hX8_isSo_12 k w l0 l1 l2 = some q) : WP K l mX8_isSo 6 140 n0 k0 (some (.int q.1)) q.2 12 [some (.ref l0), some (.int l1), some (.int l2), none, none] [] w := by
  unfold hX8_isSo_12 at h0
  refine wp_iload_n dX8_isSo_12 rfl ?_
  refine wp_bipush (v := (60 : Int32)) dX8_isSo_13 (by decide) ?_
  refine wp_icmp_gt (tgt := 91) dX8_isSo_15 (by decide) (fun c1 => ?_) (fun c1 => ?_)
  · rw [if_pos c1] at h0
    refine wp_iload_n dX8_isSo_91 rfl ?_
    have c2 : l1 &&& 1 = l1 := Decidable.byContradiction fun z => by rw [if_neg z] at h0; cases h0
    rw [if_pos c2] at h0
    cases h0
    exact wp_zret rfl (zb_n c2) dX8_isSo_92
  · rw [if_neg c1] at h0
    refine wp_aload_n dX8_isSo_18 rfl ?_
    refine wp_sipush (v := (198 : Int32)) dX8_isSo_19 (by decide) ?_
    obtain ⟨q3, e5, h4⟩ := Option.bind_eq_some_iff.mp h0
    clear h0
    refine wp_Vi (As := [.int (198 : Int32)]) (S := []) okM_X8_step tw881 twP_X8_step tw879 (OX8_step e5) rfl rfl rfl ⟨(Nat.le_of_ble_eq_true rfl), (Nat.le_of_ble_eq_true rfl)⟩ (Nat.le_of_ble_eq_true rfl) rfl dX8_isSo_22 (MX8_step e5) ?_
    refine wp_istore_n (L1 := [some (.ref l0), some (.int l1), some (.int l2), some (.int q3.1), none]) dX8_isSo_25 (Nat.le_of_ble_eq_true rfl) rfl ?_
    refine wp_iconst (v := (0 : Int32)) dX8_isSo_26 (by decide) ?_
    refine wp_istore (L1 := [some (.ref l0), some (.int l1), some (.int l2), some (.int q3.1), some (.int (0 : Int32))]) dX8_isSo_27 (Nat.le_of_ble_eq_true rfl) rfl ?_
    exact WP.wk (hk1 _ _ _ _ _ _ _ h4) (And.intro rfl (And.intro rfl (And.intro rfl (And.intro rfl (And.intro rfl trivial)))))
def eX8_isSo (k : KTX8_isSo) (w : XW) (l0 : Nat) : Option (Int32 × XW) :=
  (fX8_copies w l0 (0 : Int32) (198 : Int32)).bind fun q1 =>
  k.1 q1 l0 (1 : Int32) (1 : Int32)
theorem EX8_isSo {K : CX} {l : Launch} {n0 k0 : Nat} {k : KTX8_isSo} (hk0 : ∀ (w : XW) (l0 : Nat) (l1 : Int32) (l2 : Int32) (q : Int32 × XW), k.1 w l0 l1 l2 = some q → WP K l mX8_isSo 6 140 n0 k0 (some (.int q.1)) q.2 12 [some (.ref l0), some (.int l1), some (.int l2), none, none] [] w) (hk1 : ∀ (w : XW) (l0 : Nat) (l1 : Int32) (l2 : Int32) (l3 : Int32) (l4 : Int32) (q : Int32 × XW), k.2 w l0 l1 l2 l3 l4 = some q → WP K l mX8_isSo 6 140 n0 k0 (some (.int q.1)) q.2 29 [some (.ref l0), some (.int l1), some (.int l2), some (.int l3), some (.int l4)] [] w) {w : XW} {l0 : Nat} {q : Int32 × XW} (h0 : eX8_isSo k w l0 = some q) : WP K l mX8_isSo 6 140 n0 k0 (some (.int q.1)) q.2 0 [some (.ref l0), none, none, none, none] [] w := by
  unfold eX8_isSo at h0
  refine wp_aload_n dX8_isSo_0 rfl ?_
  refine wp_iconst (v := (0 : Int32)) dX8_isSo_1 (by decide) ?_
  refine wp_sipush (v := (198 : Int32)) dX8_isSo_2 (by decide) ?_
  obtain ⟨q1, e3, h2⟩ := Option.bind_eq_some_iff.mp h0
  clear h0
  refine wp_Vv (As := [.int (0 : Int32), .int (198 : Int32)]) (S := []) okM_X8_copies tw877 twP_X8_copies tw875 (OX8_copies e3) rfl rfl rfl ⟨(Nat.le_of_ble_eq_true rfl), (Nat.le_of_ble_eq_true rfl)⟩ (Nat.le_of_ble_eq_true rfl) rfl dX8_isSo_5 (MX8_copies e3) ?_
  refine wp_iconst (v := (1 : Int32)) dX8_isSo_8 (by decide) ?_
  refine wp_istore_n (L1 := [some (.ref l0), some (.int (1 : Int32)), none, none, none]) dX8_isSo_9 (Nat.le_of_ble_eq_true rfl) rfl ?_
  refine wp_iconst (v := (1 : Int32)) dX8_isSo_10 (by decide) ?_
  refine wp_istore_n (L1 := [some (.ref l0), some (.int (1 : Int32)), some (.int (1 : Int32)), none, none]) dX8_isSo_11 (Nat.le_of_ble_eq_true rfl) rfl ?_
  exact WP.wk (hk0 _ _ _ _ _ h2) (And.intro rfl (And.intro rfl (And.intro rfl trivial)))
def loX8_isSo : Nat → KTX8_isSo
  | 0 => (fun _ _ _ _ => none, fun _ _ _ _ _ _ => none)
  | n + 1 => (hX8_isSo_12 (loX8_isSo n), hX8_isSo_29 (loX8_isSo n))
theorem LOX8_isSo {K : CX} {l : Launch} {n0 k0 : Nat} : ∀ n : Nat, (∀ (w : XW) (l0 : Nat) (l1 : Int32) (l2 : Int32) (q : Int32 × XW), (loX8_isSo n).1 w l0 l1 l2 = some q → WP K l mX8_isSo 6 140 n0 k0 (some (.int q.1)) q.2 12 [some (.ref l0), some (.int l1), some (.int l2), none, none] [] w) ∧ (∀ (w : XW) (l0 : Nat) (l1 : Int32) (l2 : Int32) (l3 : Int32) (l4 : Int32) (q : Int32 × XW), (loX8_isSo n).2 w l0 l1 l2 l3 l4 = some q → WP K l mX8_isSo 6 140 n0 k0 (some (.int q.1)) q.2 29 [some (.ref l0), some (.int l1), some (.int l2), some (.int l3), some (.int l4)] [] w) := by
  intro n
  induction n with
  | zero => exact ⟨fun _ _ _ _ q h => (by cases h), fun _ _ _ _ _ _ q h => (by cases h)⟩
  | succ n ih => exact ⟨fun _ _ _ _ q h => HX8_isSo_12 ih.1 ih.2 h, fun _ _ _ _ _ _ q h => HX8_isSo_29 ih.1 ih.2 h⟩
def fX8_isSo (w : XW) (l0 : Nat) : Option (Int32 × XW) := if isO w l0 8 = true then eX8_isSo (loX8_isSo FU) w l0 else none
theorem OX8_isSo {w : XW} {l0 : Nat} {q : Int32 × XW} (h : fX8_isSo w l0 = some q) : isO w l0 8 = true := Decidable.byContradiction fun z => by unfold fX8_isSo at h; rw [if_neg z] at h; cases h
theorem MX8_isSo {K : CX} {l : Launch} {w : XW} {l0 : Nat} {q : Int32 × XW} (h : fX8_isSo w l0 = some q) : MT K l mX8_isSo 6 140 [.ref l0] w (some (.int q.1)) q.2 := by
  have z := OX8_isSo h
  unfold fX8_isSo at h
  rw [if_pos z] at h
  exact MT.of (by decide) (Nat.le_of_ble_eq_true rfl) rfl (EX8_isSo (LOX8_isSo FU).1 (LOX8_isSo FU).2 h)
/-! FractionRunModel.kindsOf(I)I: frames 7, words 164 -/
abbrev mX8_kindsOf : MR := (⟨"FractionRunModel", "kindsOf", "(I)I"⟩, prog_10_method_60_code, 5, (some .int))
theorem dX8_kindsOf_0 : decode prog_10_method_60_code 0 = .ok (.aload_n 0, 1) := by decide +kernel
theorem dX8_kindsOf_1 : decode prog_10_method_60_code 1 = .ok (.getfield 7, 3) := by decide +kernel
theorem dX8_kindsOf_4 : decode prog_10_method_60_code 4 = .ok (.iload_n 1, 1) := by decide +kernel
theorem dX8_kindsOf_5 : decode prog_10_method_60_code 5 = .ok (.iaload, 1) := by decide +kernel
theorem dX8_kindsOf_6 : decode prog_10_method_60_code 6 = .ok (.istore_n 2, 1) := by decide +kernel
theorem dX8_kindsOf_7 : decode prog_10_method_60_code 7 = .ok (.iconst 0, 1) := by decide +kernel
theorem dX8_kindsOf_8 : decode prog_10_method_60_code 8 = .ok (.istore_n 3, 1) := by decide +kernel
theorem dX8_kindsOf_9 : decode prog_10_method_60_code 9 = .ok (.iconst 0, 1) := by decide +kernel
theorem dX8_kindsOf_10 : decode prog_10_method_60_code 10 = .ok (.istore 4, 2) := by decide +kernel
theorem dX8_kindsOf_12 : decode prog_10_method_60_code 12 = .ok (.iload 4, 2) := by decide +kernel
theorem dX8_kindsOf_14 : decode prog_10_method_60_code 14 = .ok (.bipush 6, 2) := by decide +kernel
theorem dX8_kindsOf_16 : decode prog_10_method_60_code 16 = .ok (.if_icmp .ge 35, 3) := by decide +kernel
theorem dX8_kindsOf_19 : decode prog_10_method_60_code 19 = .ok (.aload_n 0, 1) := by decide +kernel
theorem dX8_kindsOf_20 : decode prog_10_method_60_code 20 = .ok (.getfield 7, 3) := by decide +kernel
theorem dX8_kindsOf_23 : decode prog_10_method_60_code 23 = .ok (.iload_n 1, 1) := by decide +kernel
theorem dX8_kindsOf_24 : decode prog_10_method_60_code 24 = .ok (.iload 4, 2) := by decide +kernel
theorem dX8_kindsOf_26 : decode prog_10_method_60_code 26 = .ok (.iastore, 1) := by decide +kernel
theorem dX8_kindsOf_27 : decode prog_10_method_60_code 27 = .ok (.iload_n 3, 1) := by decide +kernel
theorem dX8_kindsOf_28 : decode prog_10_method_60_code 28 = .ok (.aload_n 0, 1) := by decide +kernel
theorem dX8_kindsOf_29 : decode prog_10_method_60_code 29 = .ok (.invokevirtual 226, 3) := by decide +kernel
theorem dX8_kindsOf_32 : decode prog_10_method_60_code 32 = .ok (.ifCond .eq 10, 3) := by decide +kernel
theorem dX8_kindsOf_35 : decode prog_10_method_60_code 35 = .ok (.iconst 1, 1) := by decide +kernel
theorem dX8_kindsOf_36 : decode prog_10_method_60_code 36 = .ok (.iload 4, 2) := by decide +kernel
theorem dX8_kindsOf_38 : decode prog_10_method_60_code 38 = .ok (.ishl, 1) := by decide +kernel
theorem dX8_kindsOf_39 : decode prog_10_method_60_code 39 = .ok (.goto 4, 3) := by decide +kernel
theorem dX8_kindsOf_42 : decode prog_10_method_60_code 42 = .ok (.iconst 0, 1) := by decide +kernel
theorem dX8_kindsOf_43 : decode prog_10_method_60_code 43 = .ok (.ior, 1) := by decide +kernel
theorem dX8_kindsOf_44 : decode prog_10_method_60_code 44 = .ok (.istore_n 3, 1) := by decide +kernel
theorem dX8_kindsOf_45 : decode prog_10_method_60_code 45 = .ok (.iinc 4 1, 3) := by decide +kernel
theorem dX8_kindsOf_48 : decode prog_10_method_60_code 48 = .ok (.goto (-36), 3) := by decide +kernel
theorem dX8_kindsOf_51 : decode prog_10_method_60_code 51 = .ok (.aload_n 0, 1) := by decide +kernel
theorem dX8_kindsOf_52 : decode prog_10_method_60_code 52 = .ok (.getfield 7, 3) := by decide +kernel
theorem dX8_kindsOf_55 : decode prog_10_method_60_code 55 = .ok (.iload_n 1, 1) := by decide +kernel
theorem dX8_kindsOf_56 : decode prog_10_method_60_code 56 = .ok (.iload_n 2, 1) := by decide +kernel
theorem dX8_kindsOf_57 : decode prog_10_method_60_code 57 = .ok (.iastore, 1) := by decide +kernel
theorem dX8_kindsOf_58 : decode prog_10_method_60_code 58 = .ok (.iload_n 3, 1) := by decide +kernel
theorem dX8_kindsOf_59 : decode prog_10_method_60_code 59 = .ok (.ireturn, 1) := by decide +kernel
theorem okM_X8_kindsOf : okM mX8_kindsOf 1 := ⟨tw1009, tw15, by decide, by decide, by decide +kernel⟩
abbrev KTX8_kindsOf : Type := (XW → Nat → Int32 → Int32 → Int32 → Int32 → Option (Int32 × XW))
def bX8_kindsOf_43 (k : KTX8_kindsOf) (w : XW) (l0 : Nat) (l1 : Int32) (l2 : Int32) (l4 : Int32) (s0 : Int32) (s1 : Int32) : Option (Int32 × XW) :=
  k w l0 l1 l2 (s0 ||| s1) (l4 + (1 : Int32))
theorem BX8_kindsOf_43 {K : CX} {l : Launch} {n0 k0 : Nat} {k : KTX8_kindsOf} (hk0 : ∀ (w : XW) (l0 : Nat) (l1 : Int32) (l2 : Int32) (l3 : Int32) (l4 : Int32) (q : Int32 × XW), k w l0 l1 l2 l3 l4 = some q → WP K l mX8_kindsOf 7 164 n0 k0 (some (.int q.1)) q.2 12 [some (.ref l0), some (.int l1), some (.int l2), some (.int l3), some (.int l4)] [] w) {w : XW} {l0 : Nat} {l1 : Int32} {l2 : Int32} {l4 : Int32} {s0 : Int32} {s1 : Int32} {q : Int32 × XW} (h0 : bX8_kindsOf_43 k w l0 l1 l2 l4 s0 s1 = some q) : WP K l mX8_kindsOf 7 164 n0 k0 (some (.int q.1)) q.2 43 [some (.ref l0), some (.int l1), some (.int l2), none, some (.int l4)] [.int s1, .int s0] w := by
  unfold bX8_kindsOf_43 at h0
  refine wp_ior dX8_kindsOf_43 ?_
  refine wp_istore_n (L1 := [some (.ref l0), some (.int l1), some (.int l2), some (.int (s0 ||| s1)), some (.int l4)]) dX8_kindsOf_44 (Nat.le_of_ble_eq_true rfl) rfl ?_
  refine wp_iinc (v := (l4 + (1 : Int32))) (L1 := [some (.ref l0), some (.int l1), some (.int l2), some (.int (s0 ||| s1)), some (.int (l4 + (1 : Int32)))]) dX8_kindsOf_45 (Nat.le_of_ble_eq_true rfl) rfl (congrArg (fun z => l4 + z) (by decide)) rfl ?_
  refine wp_goto (tgt := 12) dX8_kindsOf_48 (by decide) ?_
  exact WP.wk (hk0 _ _ _ _ _ _ _ h0) (And.intro rfl (And.intro rfl (And.intro rfl (And.intro rfl (And.intro rfl trivial)))))
def hX8_kindsOf_12 (k : KTX8_kindsOf) (w : XW) (l0 : Nat) (l1 : Int32) (l2 : Int32) (l3 : Int32) (l4 : Int32) : Option (Int32 × XW) :=
  if (6 : Int32) ≤ l4 then
  (gR w l0 8 1).bind fun x2 =>
  (sI w 0 x2 l1 l2).bind fun w5 =>
  some (l3, w5)
  else
  (gR w l0 8 1).bind fun x8 =>
  (sI w 0 x8 l1 l4).bind fun w11 =>
  (fX8_isSo w11 l0).bind fun q14 =>
  if q14.1 = 0 then
  bX8_kindsOf_43 k q14.2 l0 l1 l2 l4 l3 (0 : Int32)
  else
  bX8_kindsOf_43 k q14.2 l0 l1 l2 l4 l3 ((1 : Int32) <<< (l4 &&& 31))
theorem HX8_kindsOf_12 {K : CX} {l : Launch} {n0 k0 : Nat} {k : KTX8_kindsOf} (hk0 : ∀ (w : XW) (l0 : Nat) (l1 : Int32) (l2 : Int32) (l3 : Int32) (l4 : Int32) (q : Int32 × XW), k w l0 l1 l2 l3 l4 = some q → WP K l mX8_kindsOf 7 164 n0 k0 (some (.int q.1)) q.2 12 [some (.ref l0), some (.int l1), some (.int l2), some (.int l3), some (.int l4)] [] w) {w : XW} {l0 : Nat} {l1 : Int32} {l2 : Int32} {l3 : Int32} {l4 : Int32} {q : Int32 × XW} (h0 : hX8_kindsOf_12 k w l0 l1 l2 l3 l4 = some q) : WP K l mX8_kindsOf 7 164 n0 k0 (some (.int q.1)) q.2 12 [some (.ref l0), some (.int l1), some (.int l2), some (.int l3), some (.int l4)] [] w := by
  unfold hX8_kindsOf_12 at h0
  refine wp_iload dX8_kindsOf_12 rfl ?_
  refine wp_bipush (v := (6 : Int32)) dX8_kindsOf_14 (by decide) ?_
  refine wp_icmp_ge (tgt := 51) dX8_kindsOf_16 (by decide) (fun c1 => ?_) (fun c1 => ?_)
  · rw [if_pos c1] at h0
    refine wp_aload_n dX8_kindsOf_51 rfl ?_
    obtain ⟨x2, e4, h3⟩ := Option.bind_eq_some_iff.mp h0
    clear h0
    refine wp_getR okX8 (k := 1) (by decide) tw706 dX8_kindsOf_52 e4 ?_
    refine wp_iload_n dX8_kindsOf_55 rfl ?_
    refine wp_iload_n dX8_kindsOf_56 rfl ?_
    obtain ⟨w5, e7, h6⟩ := Option.bind_eq_some_iff.mp h3
    clear h3
    refine wp_iast dX8_kindsOf_57 e7 ?_
    refine wp_iload_n dX8_kindsOf_58 rfl ?_
    cases h6
    exact wp_iret rfl dX8_kindsOf_59
  · rw [if_neg c1] at h0
    refine wp_aload_n dX8_kindsOf_19 rfl ?_
    obtain ⟨x8, e10, h9⟩ := Option.bind_eq_some_iff.mp h0
    clear h0
    refine wp_getR okX8 (k := 1) (by decide) tw706 dX8_kindsOf_20 e10 ?_
    refine wp_iload_n dX8_kindsOf_23 rfl ?_
    refine wp_iload dX8_kindsOf_24 rfl ?_
    obtain ⟨w11, e13, h12⟩ := Option.bind_eq_some_iff.mp h9
    clear h9
    refine wp_iast dX8_kindsOf_26 e13 ?_
    refine wp_iload_n dX8_kindsOf_27 rfl ?_
    refine wp_aload_n dX8_kindsOf_28 rfl ?_
    obtain ⟨q14, e16, h15⟩ := Option.bind_eq_some_iff.mp h12
    clear h12
    refine wp_Vi (As := []) (S := [.int l3]) okM_X8_isSo tw1012 twP_X8_isSo tw1010 (OX8_isSo e16) rfl rfl rfl ⟨(Nat.le_of_ble_eq_true rfl), (Nat.le_of_ble_eq_true rfl)⟩ (Nat.le_of_ble_eq_true rfl) rfl dX8_kindsOf_29 (MX8_isSo e16) ?_
    refine wp_if_eq (tgt := 42) dX8_kindsOf_32 (by decide) (fun c17 => ?_) (fun c17 => ?_)
    · rw [if_pos c17] at h15
      refine wp_iconst (v := (0 : Int32)) dX8_kindsOf_42 (by decide) ?_
      exact WP.wk (BX8_kindsOf_43 hk0 h15) (And.intro rfl (And.intro rfl (And.intro rfl (And.intro rfl trivial))))
    · rw [if_neg c17] at h15
      refine wp_iconst (v := (1 : Int32)) dX8_kindsOf_35 (by decide) ?_
      refine wp_iload dX8_kindsOf_36 rfl ?_
      refine wp_ishl dX8_kindsOf_38 ?_
      refine wp_goto (tgt := 43) dX8_kindsOf_39 (by decide) ?_
      exact WP.wk (BX8_kindsOf_43 hk0 h15) (And.intro rfl (And.intro rfl (And.intro rfl (And.intro rfl trivial))))
def eX8_kindsOf (k : KTX8_kindsOf) (w : XW) (l0 : Nat) (l1 : Int32) : Option (Int32 × XW) :=
  (gR w l0 8 1).bind fun x1 =>
  (aI w 0 x1 l1).bind fun x4 =>
  k w l0 l1 x4 (0 : Int32) (0 : Int32)
theorem EX8_kindsOf {K : CX} {l : Launch} {n0 k0 : Nat} {k : KTX8_kindsOf} (hk0 : ∀ (w : XW) (l0 : Nat) (l1 : Int32) (l2 : Int32) (l3 : Int32) (l4 : Int32) (q : Int32 × XW), k w l0 l1 l2 l3 l4 = some q → WP K l mX8_kindsOf 7 164 n0 k0 (some (.int q.1)) q.2 12 [some (.ref l0), some (.int l1), some (.int l2), some (.int l3), some (.int l4)] [] w) {w : XW} {l0 : Nat} {l1 : Int32} {q : Int32 × XW} (h0 : eX8_kindsOf k w l0 l1 = some q) : WP K l mX8_kindsOf 7 164 n0 k0 (some (.int q.1)) q.2 0 [some (.ref l0), some (.int l1), none, none, none] [] w := by
  unfold eX8_kindsOf at h0
  refine wp_aload_n dX8_kindsOf_0 rfl ?_
  obtain ⟨x1, e3, h2⟩ := Option.bind_eq_some_iff.mp h0
  clear h0
  refine wp_getR okX8 (k := 1) (by decide) tw706 dX8_kindsOf_1 e3 ?_
  refine wp_iload_n dX8_kindsOf_4 rfl ?_
  obtain ⟨x4, e6, h5⟩ := Option.bind_eq_some_iff.mp h2
  clear h2
  refine wp_iald dX8_kindsOf_5 e6 ?_
  refine wp_istore_n (L1 := [some (.ref l0), some (.int l1), some (.int x4), none, none]) dX8_kindsOf_6 (Nat.le_of_ble_eq_true rfl) rfl ?_
  refine wp_iconst (v := (0 : Int32)) dX8_kindsOf_7 (by decide) ?_
  refine wp_istore_n (L1 := [some (.ref l0), some (.int l1), some (.int x4), some (.int (0 : Int32)), none]) dX8_kindsOf_8 (Nat.le_of_ble_eq_true rfl) rfl ?_
  refine wp_iconst (v := (0 : Int32)) dX8_kindsOf_9 (by decide) ?_
  refine wp_istore (L1 := [some (.ref l0), some (.int l1), some (.int x4), some (.int (0 : Int32)), some (.int (0 : Int32))]) dX8_kindsOf_10 (Nat.le_of_ble_eq_true rfl) rfl ?_
  exact WP.wk (hk0 _ _ _ _ _ _ _ h5) (And.intro rfl (And.intro rfl (And.intro rfl (And.intro rfl (And.intro rfl trivial)))))
def loX8_kindsOf : Nat → KTX8_kindsOf
  | 0 => fun _ _ _ _ _ _ => none
  | n + 1 => hX8_kindsOf_12 (loX8_kindsOf n)
theorem LOX8_kindsOf {K : CX} {l : Launch} {n0 k0 : Nat} : ∀ n : Nat, (∀ (w : XW) (l0 : Nat) (l1 : Int32) (l2 : Int32) (l3 : Int32) (l4 : Int32) (q : Int32 × XW), (loX8_kindsOf n) w l0 l1 l2 l3 l4 = some q → WP K l mX8_kindsOf 7 164 n0 k0 (some (.int q.1)) q.2 12 [some (.ref l0), some (.int l1), some (.int l2), some (.int l3), some (.int l4)] [] w) := by
  intro n
  induction n with
  | zero => exact fun _ _ _ _ _ _ q h => (by cases h)
  | succ n ih => exact fun _ _ _ _ _ _ q h => HX8_kindsOf_12 ih h
def fX8_kindsOf (w : XW) (l0 : Nat) (l1 : Int32) : Option (Int32 × XW) := if isO w l0 8 = true then eX8_kindsOf (loX8_kindsOf FU) w l0 l1 else none
theorem OX8_kindsOf {w : XW} {l0 : Nat} {l1 : Int32} {q : Int32 × XW} (h : fX8_kindsOf w l0 l1 = some q) : isO w l0 8 = true := Decidable.byContradiction fun z => by unfold fX8_kindsOf at h; rw [if_neg z] at h; cases h
theorem MX8_kindsOf {K : CX} {l : Launch} {w : XW} {l0 : Nat} {l1 : Int32} {q : Int32 × XW} (h : fX8_kindsOf w l0 l1 = some q) : MT K l mX8_kindsOf 7 164 [.ref l0, .int l1] w (some (.int q.1)) q.2 := by
  have z := OX8_kindsOf h
  unfold fX8_kindsOf at h
  rw [if_pos z] at h
  exact MT.of (by decide) (Nat.le_of_ble_eq_true rfl) rfl (EX8_kindsOf (LOX8_kindsOf FU) h)
/-! FractionRunModel.kinds(I)I: frames 8, words 188 -/
abbrev mX8_kinds : MR := (⟨"FractionRunModel", "kinds", "(I)I"⟩, prog_10_method_61_code, 2, (some .int))
theorem dX8_kinds_0 : decode prog_10_method_61_code 0 = .ok (.aload_n 0, 1) := by decide +kernel
theorem dX8_kinds_1 : decode prog_10_method_61_code 1 = .ok (.iload_n 1, 1) := by decide +kernel
theorem dX8_kinds_2 : decode prog_10_method_61_code 2 = .ok (.invokevirtual 158, 3) := by decide +kernel
theorem dX8_kinds_5 : decode prog_10_method_61_code 5 = .ok (.ifCond .eq 11, 3) := by decide +kernel
theorem dX8_kinds_8 : decode prog_10_method_61_code 8 = .ok (.aload_n 0, 1) := by decide +kernel
theorem dX8_kinds_9 : decode prog_10_method_61_code 9 = .ok (.iload_n 1, 1) := by decide +kernel
theorem dX8_kinds_10 : decode prog_10_method_61_code 10 = .ok (.invokevirtual 230, 3) := by decide +kernel
theorem dX8_kinds_13 : decode prog_10_method_61_code 13 = .ok (.goto 4, 3) := by decide +kernel
theorem dX8_kinds_16 : decode prog_10_method_61_code 16 = .ok (.iconst (-1), 1) := by decide +kernel
theorem dX8_kinds_17 : decode prog_10_method_61_code 17 = .ok (.ireturn, 1) := by decide +kernel
theorem okM_X8_kinds : okM mX8_kinds 1 := ⟨tw1005, tw15, by decide, by decide, by decide +kernel⟩
def bX8_kinds_17 (w : XW) (s0 : Int32) : Option (Int32 × XW) :=
  some (s0, w)
theorem BX8_kinds_17 {K : CX} {l : Launch} {n0 k0 : Nat} {w : XW} {s0 : Int32} {q : Int32 × XW} (h0 : bX8_kinds_17 w s0 = some q) : WP K l mX8_kinds 8 188 n0 k0 (some (.int q.1)) q.2 17 [none, none] [.int s0] w := by
  unfold bX8_kinds_17 at h0
  cases h0
  exact wp_iret rfl dX8_kinds_17
def eX8_kinds (w : XW) (l0 : Nat) (l1 : Int32) : Option (Int32 × XW) :=
  (fX8_isFraction w l0 l1).bind fun q1 =>
  if q1.1 = 0 then
  bX8_kinds_17 q1.2 (-1 : Int32)
  else
  (fX8_kindsOf q1.2 l0 l1).bind fun q5 =>
  bX8_kinds_17 q5.2 q5.1
theorem EX8_kinds {K : CX} {l : Launch} {n0 k0 : Nat} {w : XW} {l0 : Nat} {l1 : Int32} {q : Int32 × XW} (h0 : eX8_kinds w l0 l1 = some q) : WP K l mX8_kinds 8 188 n0 k0 (some (.int q.1)) q.2 0 [some (.ref l0), some (.int l1)] [] w := by
  unfold eX8_kinds at h0
  refine wp_aload_n dX8_kinds_0 rfl ?_
  refine wp_iload_n dX8_kinds_1 rfl ?_
  obtain ⟨q1, e3, h2⟩ := Option.bind_eq_some_iff.mp h0
  clear h0
  refine wp_Vi (As := [.int l1]) (S := []) okM_X8_isFraction tw835 twP_X8_isFraction tw833 (OX8_isFraction e3) rfl rfl rfl ⟨(Nat.le_of_ble_eq_true rfl), (Nat.le_of_ble_eq_true rfl)⟩ (Nat.le_of_ble_eq_true rfl) rfl dX8_kinds_2 (MX8_isFraction e3) ?_
  refine wp_if_eq (tgt := 16) dX8_kinds_5 (by decide) (fun c4 => ?_) (fun c4 => ?_)
  · rw [if_pos c4] at h2
    refine wp_iconst (v := (-1 : Int32)) dX8_kinds_16 (by decide) ?_
    exact WP.wk (BX8_kinds_17 h2) trivial
  · rw [if_neg c4] at h2
    refine wp_aload_n dX8_kinds_8 rfl ?_
    refine wp_iload_n dX8_kinds_9 rfl ?_
    obtain ⟨q5, e7, h6⟩ := Option.bind_eq_some_iff.mp h2
    clear h2
    refine wp_Vi (As := [.int l1]) (S := []) okM_X8_kindsOf tw1008 twP_X8_kindsOf tw1006 (OX8_kindsOf e7) rfl rfl rfl ⟨(Nat.le_of_ble_eq_true rfl), (Nat.le_of_ble_eq_true rfl)⟩ (Nat.le_of_ble_eq_true rfl) rfl dX8_kinds_10 (MX8_kindsOf e7) ?_
    refine wp_goto (tgt := 17) dX8_kinds_13 (by decide) ?_
    exact WP.wk (BX8_kinds_17 h6) trivial
def fX8_kinds (w : XW) (l0 : Nat) (l1 : Int32) : Option (Int32 × XW) := if isO w l0 8 = true then eX8_kinds w l0 l1 else none
theorem OX8_kinds {w : XW} {l0 : Nat} {l1 : Int32} {q : Int32 × XW} (h : fX8_kinds w l0 l1 = some q) : isO w l0 8 = true := Decidable.byContradiction fun z => by unfold fX8_kinds at h; rw [if_neg z] at h; cases h
theorem MX8_kinds {K : CX} {l : Launch} {w : XW} {l0 : Nat} {l1 : Int32} {q : Int32 × XW} (h : fX8_kinds w l0 l1 = some q) : MT K l mX8_kinds 8 188 [.ref l0, .int l1] w (some (.int q.1)) q.2 := by
  have z := OX8_kinds h
  unfold fX8_kinds at h
  rw [if_pos z] at h
  exact MT.of (by decide) (Nat.le_of_ble_eq_true rfl) rfl (EX8_kinds h)
/-! java/lang/Integer.bitCount(I)I: frames 1, words 20 -/
abbrev mJ6_bitCount_0f7a4 : MR := (⟨"java/lang/Integer", "bitCount", "(I)I"⟩, prog_11_method_49_code, 1, (some .int))
theorem dJ6_bitCount_0f7a4_0 : decode prog_11_method_49_code 0 = .ok (.iload_n 0, 1) := by decide +kernel
theorem dJ6_bitCount_0f7a4_1 : decode prog_11_method_49_code 1 = .ok (.iload_n 0, 1) := by decide +kernel
theorem dJ6_bitCount_0f7a4_2 : decode prog_11_method_49_code 2 = .ok (.iconst 1, 1) := by decide +kernel
theorem dJ6_bitCount_0f7a4_3 : decode prog_11_method_49_code 3 = .ok (.iushr, 1) := by decide +kernel
theorem dJ6_bitCount_0f7a4_4 : decode prog_11_method_49_code 4 = .ok (.ldc_w 265, 3) := by decide +kernel
theorem dJ6_bitCount_0f7a4_7 : decode prog_11_method_49_code 7 = .ok (.iand, 1) := by decide +kernel
theorem dJ6_bitCount_0f7a4_8 : decode prog_11_method_49_code 8 = .ok (.isub, 1) := by decide +kernel
theorem dJ6_bitCount_0f7a4_9 : decode prog_11_method_49_code 9 = .ok (.istore_n 0, 1) := by decide +kernel
theorem dJ6_bitCount_0f7a4_10 : decode prog_11_method_49_code 10 = .ok (.iload_n 0, 1) := by decide +kernel
theorem dJ6_bitCount_0f7a4_11 : decode prog_11_method_49_code 11 = .ok (.ldc_w 266, 3) := by decide +kernel
theorem dJ6_bitCount_0f7a4_14 : decode prog_11_method_49_code 14 = .ok (.iand, 1) := by decide +kernel
theorem dJ6_bitCount_0f7a4_15 : decode prog_11_method_49_code 15 = .ok (.iload_n 0, 1) := by decide +kernel
theorem dJ6_bitCount_0f7a4_16 : decode prog_11_method_49_code 16 = .ok (.iconst 2, 1) := by decide +kernel
theorem dJ6_bitCount_0f7a4_17 : decode prog_11_method_49_code 17 = .ok (.iushr, 1) := by decide +kernel
theorem dJ6_bitCount_0f7a4_18 : decode prog_11_method_49_code 18 = .ok (.ldc_w 266, 3) := by decide +kernel
theorem dJ6_bitCount_0f7a4_21 : decode prog_11_method_49_code 21 = .ok (.iand, 1) := by decide +kernel
theorem dJ6_bitCount_0f7a4_22 : decode prog_11_method_49_code 22 = .ok (.iadd, 1) := by decide +kernel
theorem dJ6_bitCount_0f7a4_23 : decode prog_11_method_49_code 23 = .ok (.istore_n 0, 1) := by decide +kernel
theorem dJ6_bitCount_0f7a4_24 : decode prog_11_method_49_code 24 = .ok (.iload_n 0, 1) := by decide +kernel
theorem dJ6_bitCount_0f7a4_25 : decode prog_11_method_49_code 25 = .ok (.iload_n 0, 1) := by decide +kernel
theorem dJ6_bitCount_0f7a4_26 : decode prog_11_method_49_code 26 = .ok (.iconst 4, 1) := by decide +kernel
theorem dJ6_bitCount_0f7a4_27 : decode prog_11_method_49_code 27 = .ok (.iushr, 1) := by decide +kernel
theorem dJ6_bitCount_0f7a4_28 : decode prog_11_method_49_code 28 = .ok (.iadd, 1) := by decide +kernel
theorem dJ6_bitCount_0f7a4_29 : decode prog_11_method_49_code 29 = .ok (.ldc_w 267, 3) := by decide +kernel
theorem dJ6_bitCount_0f7a4_32 : decode prog_11_method_49_code 32 = .ok (.iand, 1) := by decide +kernel
theorem dJ6_bitCount_0f7a4_33 : decode prog_11_method_49_code 33 = .ok (.istore_n 0, 1) := by decide +kernel
theorem dJ6_bitCount_0f7a4_34 : decode prog_11_method_49_code 34 = .ok (.iload_n 0, 1) := by decide +kernel
theorem dJ6_bitCount_0f7a4_35 : decode prog_11_method_49_code 35 = .ok (.iload_n 0, 1) := by decide +kernel
theorem dJ6_bitCount_0f7a4_36 : decode prog_11_method_49_code 36 = .ok (.bipush 8, 2) := by decide +kernel
theorem dJ6_bitCount_0f7a4_38 : decode prog_11_method_49_code 38 = .ok (.iushr, 1) := by decide +kernel
theorem dJ6_bitCount_0f7a4_39 : decode prog_11_method_49_code 39 = .ok (.iadd, 1) := by decide +kernel
theorem dJ6_bitCount_0f7a4_40 : decode prog_11_method_49_code 40 = .ok (.istore_n 0, 1) := by decide +kernel
theorem dJ6_bitCount_0f7a4_41 : decode prog_11_method_49_code 41 = .ok (.iload_n 0, 1) := by decide +kernel
theorem dJ6_bitCount_0f7a4_42 : decode prog_11_method_49_code 42 = .ok (.iload_n 0, 1) := by decide +kernel
theorem dJ6_bitCount_0f7a4_43 : decode prog_11_method_49_code 43 = .ok (.bipush 16, 2) := by decide +kernel
theorem dJ6_bitCount_0f7a4_45 : decode prog_11_method_49_code 45 = .ok (.iushr, 1) := by decide +kernel
theorem dJ6_bitCount_0f7a4_46 : decode prog_11_method_49_code 46 = .ok (.iadd, 1) := by decide +kernel
theorem dJ6_bitCount_0f7a4_47 : decode prog_11_method_49_code 47 = .ok (.istore_n 0, 1) := by decide +kernel
theorem dJ6_bitCount_0f7a4_48 : decode prog_11_method_49_code 48 = .ok (.iload_n 0, 1) := by decide +kernel
theorem dJ6_bitCount_0f7a4_49 : decode prog_11_method_49_code 49 = .ok (.bipush 63, 2) := by decide +kernel
theorem dJ6_bitCount_0f7a4_51 : decode prog_11_method_49_code 51 = .ok (.iand, 1) := by decide +kernel
theorem dJ6_bitCount_0f7a4_52 : decode prog_11_method_49_code 52 = .ok (.ireturn, 1) := by decide +kernel
theorem okM_J6_bitCount_0f7a4 : okM mJ6_bitCount_0f7a4 1 := ⟨tw611, tw16, by decide, by decide, by decide +kernel⟩
def eJ6_bitCount_0f7a4 (w : XW) (l0 : Int32) : Option (Int32 × XW) :=
  some (((((((((l0 - (((l0.toUInt32 >>> ((1 : Int32).toUInt32 &&& Int32.toUInt32 31)).toInt32) &&& (1431655765 : Int32))) &&& (858993459 : Int32)) + ((((l0 - (((l0.toUInt32 >>> ((1 : Int32).toUInt32 &&& Int32.toUInt32 31)).toInt32) &&& (1431655765 : Int32))).toUInt32 >>> ((2 : Int32).toUInt32 &&& Int32.toUInt32 31)).toInt32) &&& (858993459 : Int32))) + (((((l0 - (((l0.toUInt32 >>> ((1 : Int32).toUInt32 &&& Int32.toUInt32 31)).toInt32) &&& (1431655765 : Int32))) &&& (858993459 : Int32)) + ((((l0 - (((l0.toUInt32 >>> ((1 : Int32).toUInt32 &&& Int32.toUInt32 31)).toInt32) &&& (1431655765 : Int32))).toUInt32 >>> ((2 : Int32).toUInt32 &&& Int32.toUInt32 31)).toInt32) &&& (858993459 : Int32))).toUInt32 >>> ((4 : Int32).toUInt32 &&& Int32.toUInt32 31)).toInt32)) &&& (252645135 : Int32)) + (((((((l0 - (((l0.toUInt32 >>> ((1 : Int32).toUInt32 &&& Int32.toUInt32 31)).toInt32) &&& (1431655765 : Int32))) &&& (858993459 : Int32)) + ((((l0 - (((l0.toUInt32 >>> ((1 : Int32).toUInt32 &&& Int32.toUInt32 31)).toInt32) &&& (1431655765 : Int32))).toUInt32 >>> ((2 : Int32).toUInt32 &&& Int32.toUInt32 31)).toInt32) &&& (858993459 : Int32))) + (((((l0 - (((l0.toUInt32 >>> ((1 : Int32).toUInt32 &&& Int32.toUInt32 31)).toInt32) &&& (1431655765 : Int32))) &&& (858993459 : Int32)) + ((((l0 - (((l0.toUInt32 >>> ((1 : Int32).toUInt32 &&& Int32.toUInt32 31)).toInt32) &&& (1431655765 : Int32))).toUInt32 >>> ((2 : Int32).toUInt32 &&& Int32.toUInt32 31)).toInt32) &&& (858993459 : Int32))).toUInt32 >>> ((4 : Int32).toUInt32 &&& Int32.toUInt32 31)).toInt32)) &&& (252645135 : Int32)).toUInt32 >>> ((8 : Int32).toUInt32 &&& Int32.toUInt32 31)).toInt32)) + ((((((((l0 - (((l0.toUInt32 >>> ((1 : Int32).toUInt32 &&& Int32.toUInt32 31)).toInt32) &&& (1431655765 : Int32))) &&& (858993459 : Int32)) + ((((l0 - (((l0.toUInt32 >>> ((1 : Int32).toUInt32 &&& Int32.toUInt32 31)).toInt32) &&& (1431655765 : Int32))).toUInt32 >>> ((2 : Int32).toUInt32 &&& Int32.toUInt32 31)).toInt32) &&& (858993459 : Int32))) + (((((l0 - (((l0.toUInt32 >>> ((1 : Int32).toUInt32 &&& Int32.toUInt32 31)).toInt32) &&& (1431655765 : Int32))) &&& (858993459 : Int32)) + ((((l0 - (((l0.toUInt32 >>> ((1 : Int32).toUInt32 &&& Int32.toUInt32 31)).toInt32) &&& (1431655765 : Int32))).toUInt32 >>> ((2 : Int32).toUInt32 &&& Int32.toUInt32 31)).toInt32) &&& (858993459 : Int32))).toUInt32 >>> ((4 : Int32).toUInt32 &&& Int32.toUInt32 31)).toInt32)) &&& (252645135 : Int32)) + (((((((l0 - (((l0.toUInt32 >>> ((1 : Int32).toUInt32 &&& Int32.toUInt32 31)).toInt32) &&& (1431655765 : Int32))) &&& (858993459 : Int32)) + ((((l0 - (((l0.toUInt32 >>> ((1 : Int32).toUInt32 &&& Int32.toUInt32 31)).toInt32) &&& (1431655765 : Int32))).toUInt32 >>> ((2 : Int32).toUInt32 &&& Int32.toUInt32 31)).toInt32) &&& (858993459 : Int32))) + (((((l0 - (((l0.toUInt32 >>> ((1 : Int32).toUInt32 &&& Int32.toUInt32 31)).toInt32) &&& (1431655765 : Int32))) &&& (858993459 : Int32)) + ((((l0 - (((l0.toUInt32 >>> ((1 : Int32).toUInt32 &&& Int32.toUInt32 31)).toInt32) &&& (1431655765 : Int32))).toUInt32 >>> ((2 : Int32).toUInt32 &&& Int32.toUInt32 31)).toInt32) &&& (858993459 : Int32))).toUInt32 >>> ((4 : Int32).toUInt32 &&& Int32.toUInt32 31)).toInt32)) &&& (252645135 : Int32)).toUInt32 >>> ((8 : Int32).toUInt32 &&& Int32.toUInt32 31)).toInt32)).toUInt32 >>> ((16 : Int32).toUInt32 &&& Int32.toUInt32 31)).toInt32)) &&& (63 : Int32)), w)
theorem EJ6_bitCount_0f7a4 {K : CX} {l : Launch} {n0 k0 : Nat} {w : XW} {l0 : Int32} {q : Int32 × XW} (h0 : eJ6_bitCount_0f7a4 w l0 = some q) : WP K l mJ6_bitCount_0f7a4 1 20 n0 k0 (some (.int q.1)) q.2 0 [some (.int l0)] [] w := by
  unfold eJ6_bitCount_0f7a4 at h0
  refine wp_iload_n dJ6_bitCount_0f7a4_0 rfl ?_
  refine wp_iload_n dJ6_bitCount_0f7a4_1 rfl ?_
  refine wp_iconst (v := (1 : Int32)) dJ6_bitCount_0f7a4_2 (by decide) ?_
  refine wp_iushr dJ6_bitCount_0f7a4_3 ?_
  refine wp_ldcw tw612 dJ6_bitCount_0f7a4_4 ?_
  refine wp_iand dJ6_bitCount_0f7a4_7 ?_
  refine wp_isub dJ6_bitCount_0f7a4_8 ?_
  refine wp_istore_n (L1 := [some (.int (l0 - (((l0.toUInt32 >>> ((1 : Int32).toUInt32 &&& Int32.toUInt32 31)).toInt32) &&& (1431655765 : Int32))))]) dJ6_bitCount_0f7a4_9 (Nat.le_of_ble_eq_true rfl) rfl ?_
  refine wp_iload_n dJ6_bitCount_0f7a4_10 rfl ?_
  refine wp_ldcw tw613 dJ6_bitCount_0f7a4_11 ?_
  refine wp_iand dJ6_bitCount_0f7a4_14 ?_
  refine wp_iload_n dJ6_bitCount_0f7a4_15 rfl ?_
  refine wp_iconst (v := (2 : Int32)) dJ6_bitCount_0f7a4_16 (by decide) ?_
  refine wp_iushr dJ6_bitCount_0f7a4_17 ?_
  refine wp_ldcw tw613 dJ6_bitCount_0f7a4_18 ?_
  refine wp_iand dJ6_bitCount_0f7a4_21 ?_
  refine wp_iadd dJ6_bitCount_0f7a4_22 ?_
  refine wp_istore_n (L1 := [some (.int (((l0 - (((l0.toUInt32 >>> ((1 : Int32).toUInt32 &&& Int32.toUInt32 31)).toInt32) &&& (1431655765 : Int32))) &&& (858993459 : Int32)) + ((((l0 - (((l0.toUInt32 >>> ((1 : Int32).toUInt32 &&& Int32.toUInt32 31)).toInt32) &&& (1431655765 : Int32))).toUInt32 >>> ((2 : Int32).toUInt32 &&& Int32.toUInt32 31)).toInt32) &&& (858993459 : Int32))))]) dJ6_bitCount_0f7a4_23 (Nat.le_of_ble_eq_true rfl) rfl ?_
  refine wp_iload_n dJ6_bitCount_0f7a4_24 rfl ?_
  refine wp_iload_n dJ6_bitCount_0f7a4_25 rfl ?_
  refine wp_iconst (v := (4 : Int32)) dJ6_bitCount_0f7a4_26 (by decide) ?_
  refine wp_iushr dJ6_bitCount_0f7a4_27 ?_
  refine wp_iadd dJ6_bitCount_0f7a4_28 ?_
  refine wp_ldcw tw614 dJ6_bitCount_0f7a4_29 ?_
  refine wp_iand dJ6_bitCount_0f7a4_32 ?_
  refine wp_istore_n (L1 := [some (.int (((((l0 - (((l0.toUInt32 >>> ((1 : Int32).toUInt32 &&& Int32.toUInt32 31)).toInt32) &&& (1431655765 : Int32))) &&& (858993459 : Int32)) + ((((l0 - (((l0.toUInt32 >>> ((1 : Int32).toUInt32 &&& Int32.toUInt32 31)).toInt32) &&& (1431655765 : Int32))).toUInt32 >>> ((2 : Int32).toUInt32 &&& Int32.toUInt32 31)).toInt32) &&& (858993459 : Int32))) + (((((l0 - (((l0.toUInt32 >>> ((1 : Int32).toUInt32 &&& Int32.toUInt32 31)).toInt32) &&& (1431655765 : Int32))) &&& (858993459 : Int32)) + ((((l0 - (((l0.toUInt32 >>> ((1 : Int32).toUInt32 &&& Int32.toUInt32 31)).toInt32) &&& (1431655765 : Int32))).toUInt32 >>> ((2 : Int32).toUInt32 &&& Int32.toUInt32 31)).toInt32) &&& (858993459 : Int32))).toUInt32 >>> ((4 : Int32).toUInt32 &&& Int32.toUInt32 31)).toInt32)) &&& (252645135 : Int32)))]) dJ6_bitCount_0f7a4_33 (Nat.le_of_ble_eq_true rfl) rfl ?_
  refine wp_iload_n dJ6_bitCount_0f7a4_34 rfl ?_
  refine wp_iload_n dJ6_bitCount_0f7a4_35 rfl ?_
  refine wp_bipush (v := (8 : Int32)) dJ6_bitCount_0f7a4_36 (by decide) ?_
  refine wp_iushr dJ6_bitCount_0f7a4_38 ?_
  refine wp_iadd dJ6_bitCount_0f7a4_39 ?_
  refine wp_istore_n (L1 := [some (.int ((((((l0 - (((l0.toUInt32 >>> ((1 : Int32).toUInt32 &&& Int32.toUInt32 31)).toInt32) &&& (1431655765 : Int32))) &&& (858993459 : Int32)) + ((((l0 - (((l0.toUInt32 >>> ((1 : Int32).toUInt32 &&& Int32.toUInt32 31)).toInt32) &&& (1431655765 : Int32))).toUInt32 >>> ((2 : Int32).toUInt32 &&& Int32.toUInt32 31)).toInt32) &&& (858993459 : Int32))) + (((((l0 - (((l0.toUInt32 >>> ((1 : Int32).toUInt32 &&& Int32.toUInt32 31)).toInt32) &&& (1431655765 : Int32))) &&& (858993459 : Int32)) + ((((l0 - (((l0.toUInt32 >>> ((1 : Int32).toUInt32 &&& Int32.toUInt32 31)).toInt32) &&& (1431655765 : Int32))).toUInt32 >>> ((2 : Int32).toUInt32 &&& Int32.toUInt32 31)).toInt32) &&& (858993459 : Int32))).toUInt32 >>> ((4 : Int32).toUInt32 &&& Int32.toUInt32 31)).toInt32)) &&& (252645135 : Int32)) + (((((((l0 - (((l0.toUInt32 >>> ((1 : Int32).toUInt32 &&& Int32.toUInt32 31)).toInt32) &&& (1431655765 : Int32))) &&& (858993459 : Int32)) + ((((l0 - (((l0.toUInt32 >>> ((1 : Int32).toUInt32 &&& Int32.toUInt32 31)).toInt32) &&& (1431655765 : Int32))).toUInt32 >>> ((2 : Int32).toUInt32 &&& Int32.toUInt32 31)).toInt32) &&& (858993459 : Int32))) + (((((l0 - (((l0.toUInt32 >>> ((1 : Int32).toUInt32 &&& Int32.toUInt32 31)).toInt32) &&& (1431655765 : Int32))) &&& (858993459 : Int32)) + ((((l0 - (((l0.toUInt32 >>> ((1 : Int32).toUInt32 &&& Int32.toUInt32 31)).toInt32) &&& (1431655765 : Int32))).toUInt32 >>> ((2 : Int32).toUInt32 &&& Int32.toUInt32 31)).toInt32) &&& (858993459 : Int32))).toUInt32 >>> ((4 : Int32).toUInt32 &&& Int32.toUInt32 31)).toInt32)) &&& (252645135 : Int32)).toUInt32 >>> ((8 : Int32).toUInt32 &&& Int32.toUInt32 31)).toInt32)))]) dJ6_bitCount_0f7a4_40 (Nat.le_of_ble_eq_true rfl) rfl ?_
  refine wp_iload_n dJ6_bitCount_0f7a4_41 rfl ?_
  refine wp_iload_n dJ6_bitCount_0f7a4_42 rfl ?_
  refine wp_bipush (v := (16 : Int32)) dJ6_bitCount_0f7a4_43 (by decide) ?_
  refine wp_iushr dJ6_bitCount_0f7a4_45 ?_
  refine wp_iadd dJ6_bitCount_0f7a4_46 ?_
  refine wp_istore_n (L1 := [some (.int (((((((l0 - (((l0.toUInt32 >>> ((1 : Int32).toUInt32 &&& Int32.toUInt32 31)).toInt32) &&& (1431655765 : Int32))) &&& (858993459 : Int32)) + ((((l0 - (((l0.toUInt32 >>> ((1 : Int32).toUInt32 &&& Int32.toUInt32 31)).toInt32) &&& (1431655765 : Int32))).toUInt32 >>> ((2 : Int32).toUInt32 &&& Int32.toUInt32 31)).toInt32) &&& (858993459 : Int32))) + (((((l0 - (((l0.toUInt32 >>> ((1 : Int32).toUInt32 &&& Int32.toUInt32 31)).toInt32) &&& (1431655765 : Int32))) &&& (858993459 : Int32)) + ((((l0 - (((l0.toUInt32 >>> ((1 : Int32).toUInt32 &&& Int32.toUInt32 31)).toInt32) &&& (1431655765 : Int32))).toUInt32 >>> ((2 : Int32).toUInt32 &&& Int32.toUInt32 31)).toInt32) &&& (858993459 : Int32))).toUInt32 >>> ((4 : Int32).toUInt32 &&& Int32.toUInt32 31)).toInt32)) &&& (252645135 : Int32)) + (((((((l0 - (((l0.toUInt32 >>> ((1 : Int32).toUInt32 &&& Int32.toUInt32 31)).toInt32) &&& (1431655765 : Int32))) &&& (858993459 : Int32)) + ((((l0 - (((l0.toUInt32 >>> ((1 : Int32).toUInt32 &&& Int32.toUInt32 31)).toInt32) &&& (1431655765 : Int32))).toUInt32 >>> ((2 : Int32).toUInt32 &&& Int32.toUInt32 31)).toInt32) &&& (858993459 : Int32))) + (((((l0 - (((l0.toUInt32 >>> ((1 : Int32).toUInt32 &&& Int32.toUInt32 31)).toInt32) &&& (1431655765 : Int32))) &&& (858993459 : Int32)) + ((((l0 - (((l0.toUInt32 >>> ((1 : Int32).toUInt32 &&& Int32.toUInt32 31)).toInt32) &&& (1431655765 : Int32))).toUInt32 >>> ((2 : Int32).toUInt32 &&& Int32.toUInt32 31)).toInt32) &&& (858993459 : Int32))).toUInt32 >>> ((4 : Int32).toUInt32 &&& Int32.toUInt32 31)).toInt32)) &&& (252645135 : Int32)).toUInt32 >>> ((8 : Int32).toUInt32 &&& Int32.toUInt32 31)).toInt32)) + ((((((((l0 - (((l0.toUInt32 >>> ((1 : Int32).toUInt32 &&& Int32.toUInt32 31)).toInt32) &&& (1431655765 : Int32))) &&& (858993459 : Int32)) + ((((l0 - (((l0.toUInt32 >>> ((1 : Int32).toUInt32 &&& Int32.toUInt32 31)).toInt32) &&& (1431655765 : Int32))).toUInt32 >>> ((2 : Int32).toUInt32 &&& Int32.toUInt32 31)).toInt32) &&& (858993459 : Int32))) + (((((l0 - (((l0.toUInt32 >>> ((1 : Int32).toUInt32 &&& Int32.toUInt32 31)).toInt32) &&& (1431655765 : Int32))) &&& (858993459 : Int32)) + ((((l0 - (((l0.toUInt32 >>> ((1 : Int32).toUInt32 &&& Int32.toUInt32 31)).toInt32) &&& (1431655765 : Int32))).toUInt32 >>> ((2 : Int32).toUInt32 &&& Int32.toUInt32 31)).toInt32) &&& (858993459 : Int32))).toUInt32 >>> ((4 : Int32).toUInt32 &&& Int32.toUInt32 31)).toInt32)) &&& (252645135 : Int32)) + (((((((l0 - (((l0.toUInt32 >>> ((1 : Int32).toUInt32 &&& Int32.toUInt32 31)).toInt32) &&& (1431655765 : Int32))) &&& (858993459 : Int32)) + ((((l0 - (((l0.toUInt32 >>> ((1 : Int32).toUInt32 &&& Int32.toUInt32 31)).toInt32) &&& (1431655765 : Int32))).toUInt32 >>> ((2 : Int32).toUInt32 &&& Int32.toUInt32 31)).toInt32) &&& (858993459 : Int32))) + (((((l0 - (((l0.toUInt32 >>> ((1 : Int32).toUInt32 &&& Int32.toUInt32 31)).toInt32) &&& (1431655765 : Int32))) &&& (858993459 : Int32)) + ((((l0 - (((l0.toUInt32 >>> ((1 : Int32).toUInt32 &&& Int32.toUInt32 31)).toInt32) &&& (1431655765 : Int32))).toUInt32 >>> ((2 : Int32).toUInt32 &&& Int32.toUInt32 31)).toInt32) &&& (858993459 : Int32))).toUInt32 >>> ((4 : Int32).toUInt32 &&& Int32.toUInt32 31)).toInt32)) &&& (252645135 : Int32)).toUInt32 >>> ((8 : Int32).toUInt32 &&& Int32.toUInt32 31)).toInt32)).toUInt32 >>> ((16 : Int32).toUInt32 &&& Int32.toUInt32 31)).toInt32)))]) dJ6_bitCount_0f7a4_47 (Nat.le_of_ble_eq_true rfl) rfl ?_
  refine wp_iload_n dJ6_bitCount_0f7a4_48 rfl ?_
  refine wp_bipush (v := (63 : Int32)) dJ6_bitCount_0f7a4_49 (by decide) ?_
  refine wp_iand dJ6_bitCount_0f7a4_51 ?_
  cases h0
  exact wp_iret rfl dJ6_bitCount_0f7a4_52
def fJ6_bitCount_0f7a4 (w : XW) (l0 : Int32) : Option (Int32 × XW) := eJ6_bitCount_0f7a4 w l0
theorem MJ6_bitCount_0f7a4 {K : CX} {l : Launch} {w : XW} {l0 : Int32} {q : Int32 × XW} (h : fJ6_bitCount_0f7a4 w l0 = some q) : MT K l mJ6_bitCount_0f7a4 1 20 [.int l0] w (some (.int q.1)) q.2 := by
  unfold fJ6_bitCount_0f7a4 at h
  exact MT.of (by decide) (Nat.le_of_ble_eq_true rfl) rfl (EJ6_bitCount_0f7a4 h)
/-! FractionRun.greatestPart(II)I: frames 2, words 41 -/
abbrev mX7_greatestPart : MR := (⟨"FractionRun", "greatestPart", "(II)I"⟩, prog_1_method_44_code, 7, (some .int))
theorem dX7_greatestPart_0 : decode prog_1_method_44_code 0 = .ok (.iconst 0, 1) := by decide +kernel
theorem dX7_greatestPart_1 : decode prog_1_method_44_code 1 = .ok (.istore_n 3, 1) := by decide +kernel
theorem dX7_greatestPart_2 : decode prog_1_method_44_code 2 = .ok (.iconst 0, 1) := by decide +kernel
theorem dX7_greatestPart_3 : decode prog_1_method_44_code 3 = .ok (.istore 4, 2) := by decide +kernel
theorem dX7_greatestPart_5 : decode prog_1_method_44_code 5 = .ok (.iload 4, 2) := by decide +kernel
theorem dX7_greatestPart_7 : decode prog_1_method_44_code 7 = .ok (.bipush 6, 2) := by decide +kernel
theorem dX7_greatestPart_9 : decode prog_1_method_44_code 9 = .ok (.if_icmp .ge 73, 3) := by decide +kernel
theorem dX7_greatestPart_12 : decode prog_1_method_44_code 12 = .ok (.iconst 0, 1) := by decide +kernel
theorem dX7_greatestPart_13 : decode prog_1_method_44_code 13 = .ok (.istore 5, 2) := by decide +kernel
theorem dX7_greatestPart_15 : decode prog_1_method_44_code 15 = .ok (.iconst 0, 1) := by decide +kernel
theorem dX7_greatestPart_16 : decode prog_1_method_44_code 16 = .ok (.istore 6, 2) := by decide +kernel
theorem dX7_greatestPart_18 : decode prog_1_method_44_code 18 = .ok (.iload 6, 2) := by decide +kernel
theorem dX7_greatestPart_20 : decode prog_1_method_44_code 20 = .ok (.bipush 6, 2) := by decide +kernel
theorem dX7_greatestPart_22 : decode prog_1_method_44_code 22 = .ok (.if_icmp .ge 47, 3) := by decide +kernel
theorem dX7_greatestPart_25 : decode prog_1_method_44_code 25 = .ok (.iload_n 1, 1) := by decide +kernel
theorem dX7_greatestPart_26 : decode prog_1_method_44_code 26 = .ok (.iload 6, 2) := by decide +kernel
theorem dX7_greatestPart_28 : decode prog_1_method_44_code 28 = .ok (.ishr, 1) := by decide +kernel
theorem dX7_greatestPart_29 : decode prog_1_method_44_code 29 = .ok (.iconst 1, 1) := by decide +kernel
theorem dX7_greatestPart_30 : decode prog_1_method_44_code 30 = .ok (.iand, 1) := by decide +kernel
theorem dX7_greatestPart_31 : decode prog_1_method_44_code 31 = .ok (.iconst 1, 1) := by decide +kernel
theorem dX7_greatestPart_32 : decode prog_1_method_44_code 32 = .ok (.if_icmp .ne 31, 3) := by decide +kernel
theorem dX7_greatestPart_35 : decode prog_1_method_44_code 35 = .ok (.aload_n 0, 1) := by decide +kernel
theorem dX7_greatestPart_36 : decode prog_1_method_44_code 36 = .ok (.getfield 67, 3) := by decide +kernel
theorem dX7_greatestPart_39 : decode prog_1_method_44_code 39 = .ok (.iload 6, 2) := by decide +kernel
theorem dX7_greatestPart_41 : decode prog_1_method_44_code 41 = .ok (.iload_n 2, 1) := by decide +kernel
theorem dX7_greatestPart_42 : decode prog_1_method_44_code 42 = .ok (.invokestatic 302, 3) := by decide +kernel
theorem dX7_greatestPart_45 : decode prog_1_method_44_code 45 = .ok (.iaload, 1) := by decide +kernel
theorem dX7_greatestPart_46 : decode prog_1_method_44_code 46 = .ok (.aload_n 0, 1) := by decide +kernel
theorem dX7_greatestPart_47 : decode prog_1_method_44_code 47 = .ok (.getfield 67, 3) := by decide +kernel
theorem dX7_greatestPart_50 : decode prog_1_method_44_code 50 = .ok (.iload 4, 2) := by decide +kernel
theorem dX7_greatestPart_52 : decode prog_1_method_44_code 52 = .ok (.iload_n 2, 1) := by decide +kernel
theorem dX7_greatestPart_53 : decode prog_1_method_44_code 53 = .ok (.invokestatic 302, 3) := by decide +kernel
theorem dX7_greatestPart_56 : decode prog_1_method_44_code 56 = .ok (.iaload, 1) := by decide +kernel
theorem dX7_greatestPart_57 : decode prog_1_method_44_code 57 = .ok (.if_icmp .ne 6, 3) := by decide +kernel
theorem dX7_greatestPart_60 : decode prog_1_method_44_code 60 = .ok (.iinc 5 1, 3) := by decide +kernel
theorem dX7_greatestPart_63 : decode prog_1_method_44_code 63 = .ok (.iinc 6 1, 3) := by decide +kernel
theorem dX7_greatestPart_66 : decode prog_1_method_44_code 66 = .ok (.goto (-48), 3) := by decide +kernel
theorem dX7_greatestPart_69 : decode prog_1_method_44_code 69 = .ok (.iload_n 3, 1) := by decide +kernel
theorem dX7_greatestPart_70 : decode prog_1_method_44_code 70 = .ok (.iload 5, 2) := by decide +kernel
theorem dX7_greatestPart_72 : decode prog_1_method_44_code 72 = .ok (.invokestatic 211, 3) := by decide +kernel
theorem dX7_greatestPart_75 : decode prog_1_method_44_code 75 = .ok (.istore_n 3, 1) := by decide +kernel
theorem dX7_greatestPart_76 : decode prog_1_method_44_code 76 = .ok (.iinc 4 1, 3) := by decide +kernel
theorem dX7_greatestPart_79 : decode prog_1_method_44_code 79 = .ok (.goto (-74), 3) := by decide +kernel
theorem dX7_greatestPart_82 : decode prog_1_method_44_code 82 = .ok (.iload_n 3, 1) := by decide +kernel
theorem dX7_greatestPart_83 : decode prog_1_method_44_code 83 = .ok (.ireturn, 1) := by decide +kernel
theorem okM_X7_greatestPart : okM mX7_greatestPart 2 := ⟨tw618, tw1, by decide, by decide, by decide +kernel⟩
abbrev KTX7_greatestPart : Type := (XW → Nat → Int32 → Int32 → Int32 → Int32 → Option (Int32 × XW)) × (XW → Nat → Int32 → Int32 → Int32 → Int32 → Int32 → Int32 → Option (Int32 × XW))
def bX7_greatestPart_63 (k : KTX7_greatestPart) (w : XW) (l0 : Nat) (l1 : Int32) (l2 : Int32) (l3 : Int32) (l4 : Int32) (l5 : Int32) (l6 : Int32) : Option (Int32 × XW) :=
  k.2 w l0 l1 l2 l3 l4 l5 (l6 + (1 : Int32))
theorem BX7_greatestPart_63 {K : CX} {l : Launch} {n0 k0 : Nat} {k : KTX7_greatestPart} (hk0 : ∀ (w : XW) (l0 : Nat) (l1 : Int32) (l2 : Int32) (l3 : Int32) (l4 : Int32) (q : Int32 × XW), k.1 w l0 l1 l2 l3 l4 = some q → WP K l mX7_greatestPart 2 41 n0 k0 (some (.int q.1)) q.2 5 [some (.ref l0), some (.int l1), some (.int l2), some (.int l3), some (.int l4), none, none] [] w) (hk1 : ∀ (w : XW) (l0 : Nat) (l1 : Int32) (l2 : Int32) (l3 : Int32) (l4 : Int32) (l5 : Int32) (l6 : Int32) (q : Int32 × XW), k.2 w l0 l1 l2 l3 l4 l5 l6 = some q → WP K l mX7_greatestPart 2 41 n0 k0 (some (.int q.1)) q.2 18 [some (.ref l0), some (.int l1), some (.int l2), some (.int l3), some (.int l4), some (.int l5), some (.int l6)] [] w) {w : XW} {l0 : Nat} {l1 : Int32} {l2 : Int32} {l3 : Int32} {l4 : Int32} {l5 : Int32} {l6 : Int32} {q : Int32 × XW} (h0 : bX7_greatestPart_63 k w l0 l1 l2 l3 l4 l5 l6 = some q) : WP K l mX7_greatestPart 2 41 n0 k0 (some (.int q.1)) q.2 63 [some (.ref l0), some (.int l1), some (.int l2), some (.int l3), some (.int l4), some (.int l5), some (.int l6)] [] w := by
  unfold bX7_greatestPart_63 at h0
  refine wp_iinc (v := (l6 + (1 : Int32))) (L1 := [some (.ref l0), some (.int l1), some (.int l2), some (.int l3), some (.int l4), some (.int l5), some (.int (l6 + (1 : Int32)))]) dX7_greatestPart_63 (Nat.le_of_ble_eq_true rfl) rfl (congrArg (fun z => l6 + z) (by decide)) rfl ?_
  refine wp_goto (tgt := 18) dX7_greatestPart_66 (by decide) ?_
  exact WP.wk (hk1 _ _ _ _ _ _ _ _ _ h0) (And.intro rfl (And.intro rfl (And.intro rfl (And.intro rfl (And.intro rfl (And.intro rfl (And.intro rfl trivial)))))))
def hX7_greatestPart_18 (k : KTX7_greatestPart) (w : XW) (l0 : Nat) (l1 : Int32) (l2 : Int32) (l3 : Int32) (l4 : Int32) (l5 : Int32) (l6 : Int32) : Option (Int32 × XW) :=
  if (6 : Int32) ≤ l6 then
  k.1 w l0 l1 l2 (imx l3 l5) (l4 + (1 : Int32))
  else
  if ((l1 >>> (l6 &&& 31)) &&& (1 : Int32)) = (1 : Int32) then
  (gR w l0 7 12).bind fun x3 =>
  (fX7_useAt w l6 l2).bind fun q6 =>
  (aI q6.2 0 x3 q6.1).bind fun x9 =>
  (gR q6.2 l0 7 12).bind fun x12 =>
  (fX7_useAt q6.2 l4 l2).bind fun q15 =>
  (aI q15.2 0 x12 q15.1).bind fun x18 =>
  if x9 = x18 then
  bX7_greatestPart_63 k q15.2 l0 l1 l2 l3 l4 (l5 + (1 : Int32)) l6
  else
  bX7_greatestPart_63 k q15.2 l0 l1 l2 l3 l4 l5 l6
  else
  bX7_greatestPart_63 k w l0 l1 l2 l3 l4 l5 l6
theorem HX7_greatestPart_18 {K : CX} {l : Launch} {n0 k0 : Nat} {k : KTX7_greatestPart} (hk0 : ∀ (w : XW) (l0 : Nat) (l1 : Int32) (l2 : Int32) (l3 : Int32) (l4 : Int32) (q : Int32 × XW), k.1 w l0 l1 l2 l3 l4 = some q → WP K l mX7_greatestPart 2 41 n0 k0 (some (.int q.1)) q.2 5 [some (.ref l0), some (.int l1), some (.int l2), some (.int l3), some (.int l4), none, none] [] w) (hk1 : ∀ (w : XW) (l0 : Nat) (l1 : Int32) (l2 : Int32) (l3 : Int32) (l4 : Int32) (l5 : Int32) (l6 : Int32) (q : Int32 × XW), k.2 w l0 l1 l2 l3 l4 l5 l6 = some q → WP K l mX7_greatestPart 2 41 n0 k0 (some (.int q.1)) q.2 18 [some (.ref l0), some (.int l1), some (.int l2), some (.int l3), some (.int l4), some (.int l5), some (.int l6)] [] w) {w : XW} {l0 : Nat} {l1 : Int32} {l2 : Int32} {l3 : Int32} {l4 : Int32} {l5 : Int32} {l6 : Int32} {q : Int32 × XW} (h0 : hX7_greatestPart_18 k w l0 l1 l2 l3 l4 l5 l6 = some q) : WP K l mX7_greatestPart 2 41 n0 k0 (some (.int q.1)) q.2 18 [some (.ref l0), some (.int l1), some (.int l2), some (.int l3), some (.int l4), some (.int l5), some (.int l6)] [] w := by
  unfold hX7_greatestPart_18 at h0
  refine wp_iload dX7_greatestPart_18 rfl ?_
  refine wp_bipush (v := (6 : Int32)) dX7_greatestPart_20 (by decide) ?_
  refine wp_icmp_ge (tgt := 69) dX7_greatestPart_22 (by decide) (fun c1 => ?_) (fun c1 => ?_)
  · rw [if_pos c1] at h0
    refine wp_iload_n dX7_greatestPart_69 rfl ?_
    refine wp_iload dX7_greatestPart_70 rfl ?_
    refine wp_imx tw279 tw280 tw13 twMath_max ⟨(Nat.le_of_ble_eq_true rfl), (Nat.le_of_ble_eq_true rfl)⟩ rfl dX7_greatestPart_72 ?_
    refine wp_istore_n (L1 := [some (.ref l0), some (.int l1), some (.int l2), some (.int (imx l3 l5)), some (.int l4), some (.int l5), some (.int l6)]) dX7_greatestPart_75 (Nat.le_of_ble_eq_true rfl) rfl ?_
    refine wp_iinc (v := (l4 + (1 : Int32))) (L1 := [some (.ref l0), some (.int l1), some (.int l2), some (.int (imx l3 l5)), some (.int (l4 + (1 : Int32))), some (.int l5), some (.int l6)]) dX7_greatestPart_76 (Nat.le_of_ble_eq_true rfl) rfl (congrArg (fun z => l4 + z) (by decide)) rfl ?_
    refine wp_goto (tgt := 5) dX7_greatestPart_79 (by decide) ?_
    exact WP.wk (hk0 _ _ _ _ _ _ _ h0) (And.intro rfl (And.intro rfl (And.intro rfl (And.intro rfl (And.intro rfl trivial)))))
  · rw [if_neg c1] at h0
    refine wp_iload_n dX7_greatestPart_25 rfl ?_
    refine wp_iload dX7_greatestPart_26 rfl ?_
    refine wp_ishr dX7_greatestPart_28 ?_
    refine wp_iconst (v := (1 : Int32)) dX7_greatestPart_29 (by decide) ?_
    refine wp_iand dX7_greatestPart_30 ?_
    refine wp_iconst (v := (1 : Int32)) dX7_greatestPart_31 (by decide) ?_
    refine wp_icmp_ne (tgt := 63) dX7_greatestPart_32 (by decide) (fun c2 => ?_) (fun c2 => ?_)
    · rw [if_neg c2] at h0
      exact WP.wk (BX7_greatestPart_63 hk0 hk1 h0) (And.intro rfl (And.intro rfl (And.intro rfl (And.intro rfl (And.intro rfl (And.intro rfl (And.intro rfl trivial)))))))
    · rw [if_pos c2] at h0
      refine wp_aload_n dX7_greatestPart_35 rfl ?_
      obtain ⟨x3, e5, h4⟩ := Option.bind_eq_some_iff.mp h0
      clear h0
      refine wp_getR okX7 (k := 12) (by decide) tw310 dX7_greatestPart_36 e5 ?_
      refine wp_iload dX7_greatestPart_39 rfl ?_
      refine wp_iload_n dX7_greatestPart_41 rfl ?_
      obtain ⟨q6, e8, h7⟩ := Option.bind_eq_some_iff.mp h4
      clear h4
      refine wp_Si (As := [.int l6, .int l2]) (S := [.ref x3]) okM_X7_useAt tw599 tw598 rfl ⟨(Nat.le_of_ble_eq_true rfl), (Nat.le_of_ble_eq_true rfl)⟩ (Nat.le_of_ble_eq_true rfl) rfl dX7_greatestPart_42 (MX7_useAt e8) ?_
      obtain ⟨x9, e11, h10⟩ := Option.bind_eq_some_iff.mp h7
      clear h7
      refine wp_iald dX7_greatestPart_45 e11 ?_
      refine wp_aload_n dX7_greatestPart_46 rfl ?_
      obtain ⟨x12, e14, h13⟩ := Option.bind_eq_some_iff.mp h10
      clear h10
      refine wp_getR okX7 (k := 12) (by decide) tw310 dX7_greatestPart_47 e14 ?_
      refine wp_iload dX7_greatestPart_50 rfl ?_
      refine wp_iload_n dX7_greatestPart_52 rfl ?_
      obtain ⟨q15, e17, h16⟩ := Option.bind_eq_some_iff.mp h13
      clear h13
      refine wp_Si (As := [.int l4, .int l2]) (S := [.ref x12, .int x9]) okM_X7_useAt tw599 tw598 rfl ⟨(Nat.le_of_ble_eq_true rfl), (Nat.le_of_ble_eq_true rfl)⟩ (Nat.le_of_ble_eq_true rfl) rfl dX7_greatestPart_53 (MX7_useAt e17) ?_
      obtain ⟨x18, e20, h19⟩ := Option.bind_eq_some_iff.mp h16
      clear h16
      refine wp_iald dX7_greatestPart_56 e20 ?_
      refine wp_icmp_ne (tgt := 63) dX7_greatestPart_57 (by decide) (fun c21 => ?_) (fun c21 => ?_)
      · rw [if_neg c21] at h19
        exact WP.wk (BX7_greatestPart_63 hk0 hk1 h19) (And.intro rfl (And.intro rfl (And.intro rfl (And.intro rfl (And.intro rfl (And.intro rfl (And.intro rfl trivial)))))))
      · rw [if_pos c21] at h19
        refine wp_iinc (v := (l5 + (1 : Int32))) (L1 := [some (.ref l0), some (.int l1), some (.int l2), some (.int l3), some (.int l4), some (.int (l5 + (1 : Int32))), some (.int l6)]) dX7_greatestPart_60 (Nat.le_of_ble_eq_true rfl) rfl (congrArg (fun z => l5 + z) (by decide)) rfl ?_
        exact WP.wk (BX7_greatestPart_63 hk0 hk1 h19) (And.intro rfl (And.intro rfl (And.intro rfl (And.intro rfl (And.intro rfl (And.intro rfl (And.intro rfl trivial)))))))
def hX7_greatestPart_5 (k : KTX7_greatestPart) (w : XW) (l0 : Nat) (l1 : Int32) (l2 : Int32) (l3 : Int32) (l4 : Int32) : Option (Int32 × XW) :=
  if (6 : Int32) ≤ l4 then
  some (l3, w)
  else
  k.2 w l0 l1 l2 l3 l4 (0 : Int32) (0 : Int32)
theorem HX7_greatestPart_5 {K : CX} {l : Launch} {n0 k0 : Nat} {k : KTX7_greatestPart} (hk0 : ∀ (w : XW) (l0 : Nat) (l1 : Int32) (l2 : Int32) (l3 : Int32) (l4 : Int32) (q : Int32 × XW), k.1 w l0 l1 l2 l3 l4 = some q → WP K l mX7_greatestPart 2 41 n0 k0 (some (.int q.1)) q.2 5 [some (.ref l0), some (.int l1), some (.int l2), some (.int l3), some (.int l4), none, none] [] w) (hk1 : ∀ (w : XW) (l0 : Nat) (l1 : Int32) (l2 : Int32) (l3 : Int32) (l4 : Int32) (l5 : Int32) (l6 : Int32) (q : Int32 × XW), k.2 w l0 l1 l2 l3 l4 l5 l6 = some q → WP K l mX7_greatestPart 2 41 n0 k0 (some (.int q.1)) q.2 18 [some (.ref l0), some (.int l1), some (.int l2), some (.int l3), some (.int l4), some (.int l5), some (.int l6)] [] w) {w : XW} {l0 : Nat} {l1 : Int32} {l2 : Int32} {l3 : Int32} {l4 : Int32} {q : Int32 × XW} (h0 : hX7_greatestPart_5 k w l0 l1 l2 l3 l4 = some q) : WP K l mX7_greatestPart 2 41 n0 k0 (some (.int q.1)) q.2 5 [some (.ref l0), some (.int l1), some (.int l2), some (.int l3), some (.int l4), none, none] [] w := by
  unfold hX7_greatestPart_5 at h0
  refine wp_iload dX7_greatestPart_5 rfl ?_
  refine wp_bipush (v := (6 : Int32)) dX7_greatestPart_7 (by decide) ?_
  refine wp_icmp_ge (tgt := 82) dX7_greatestPart_9 (by decide) (fun c1 => ?_) (fun c1 => ?_)
  · rw [if_pos c1] at h0
    refine wp_iload_n dX7_greatestPart_82 rfl ?_
    cases h0
    exact wp_iret rfl dX7_greatestPart_83
  · rw [if_neg c1] at h0
    refine wp_iconst (v := (0 : Int32)) dX7_greatestPart_12 (by decide) ?_
    refine wp_istore (L1 := [some (.ref l0), some (.int l1), some (.int l2), some (.int l3), some (.int l4), some (.int (0 : Int32)), none]) dX7_greatestPart_13 (Nat.le_of_ble_eq_true rfl) rfl ?_
    refine wp_iconst (v := (0 : Int32)) dX7_greatestPart_15 (by decide) ?_
    refine wp_istore (L1 := [some (.ref l0), some (.int l1), some (.int l2), some (.int l3), some (.int l4), some (.int (0 : Int32)), some (.int (0 : Int32))]) dX7_greatestPart_16 (Nat.le_of_ble_eq_true rfl) rfl ?_
    exact WP.wk (hk1 _ _ _ _ _ _ _ _ _ h0) (And.intro rfl (And.intro rfl (And.intro rfl (And.intro rfl (And.intro rfl (And.intro rfl (And.intro rfl trivial)))))))
def eX7_greatestPart (k : KTX7_greatestPart) (w : XW) (l0 : Nat) (l1 : Int32) (l2 : Int32) : Option (Int32 × XW) :=
  k.1 w l0 l1 l2 (0 : Int32) (0 : Int32)
theorem EX7_greatestPart {K : CX} {l : Launch} {n0 k0 : Nat} {k : KTX7_greatestPart} (hk0 : ∀ (w : XW) (l0 : Nat) (l1 : Int32) (l2 : Int32) (l3 : Int32) (l4 : Int32) (q : Int32 × XW), k.1 w l0 l1 l2 l3 l4 = some q → WP K l mX7_greatestPart 2 41 n0 k0 (some (.int q.1)) q.2 5 [some (.ref l0), some (.int l1), some (.int l2), some (.int l3), some (.int l4), none, none] [] w) (hk1 : ∀ (w : XW) (l0 : Nat) (l1 : Int32) (l2 : Int32) (l3 : Int32) (l4 : Int32) (l5 : Int32) (l6 : Int32) (q : Int32 × XW), k.2 w l0 l1 l2 l3 l4 l5 l6 = some q → WP K l mX7_greatestPart 2 41 n0 k0 (some (.int q.1)) q.2 18 [some (.ref l0), some (.int l1), some (.int l2), some (.int l3), some (.int l4), some (.int l5), some (.int l6)] [] w) {w : XW} {l0 : Nat} {l1 : Int32} {l2 : Int32} {q : Int32 × XW} (h0 : eX7_greatestPart k w l0 l1 l2 = some q) : WP K l mX7_greatestPart 2 41 n0 k0 (some (.int q.1)) q.2 0 [some (.ref l0), some (.int l1), some (.int l2), none, none, none, none] [] w := by
  unfold eX7_greatestPart at h0
  refine wp_iconst (v := (0 : Int32)) dX7_greatestPart_0 (by decide) ?_
  refine wp_istore_n (L1 := [some (.ref l0), some (.int l1), some (.int l2), some (.int (0 : Int32)), none, none, none]) dX7_greatestPart_1 (Nat.le_of_ble_eq_true rfl) rfl ?_
  refine wp_iconst (v := (0 : Int32)) dX7_greatestPart_2 (by decide) ?_
  refine wp_istore (L1 := [some (.ref l0), some (.int l1), some (.int l2), some (.int (0 : Int32)), some (.int (0 : Int32)), none, none]) dX7_greatestPart_3 (Nat.le_of_ble_eq_true rfl) rfl ?_
  exact WP.wk (hk0 _ _ _ _ _ _ _ h0) (And.intro rfl (And.intro rfl (And.intro rfl (And.intro rfl (And.intro rfl trivial)))))
def loX7_greatestPart : Nat → KTX7_greatestPart
  | 0 => (fun _ _ _ _ _ _ => none, fun _ _ _ _ _ _ _ _ => none)
  | n + 1 => (hX7_greatestPart_5 (loX7_greatestPart n), hX7_greatestPart_18 (loX7_greatestPart n))
theorem LOX7_greatestPart {K : CX} {l : Launch} {n0 k0 : Nat} : ∀ n : Nat, (∀ (w : XW) (l0 : Nat) (l1 : Int32) (l2 : Int32) (l3 : Int32) (l4 : Int32) (q : Int32 × XW), (loX7_greatestPart n).1 w l0 l1 l2 l3 l4 = some q → WP K l mX7_greatestPart 2 41 n0 k0 (some (.int q.1)) q.2 5 [some (.ref l0), some (.int l1), some (.int l2), some (.int l3), some (.int l4), none, none] [] w) ∧ (∀ (w : XW) (l0 : Nat) (l1 : Int32) (l2 : Int32) (l3 : Int32) (l4 : Int32) (l5 : Int32) (l6 : Int32) (q : Int32 × XW), (loX7_greatestPart n).2 w l0 l1 l2 l3 l4 l5 l6 = some q → WP K l mX7_greatestPart 2 41 n0 k0 (some (.int q.1)) q.2 18 [some (.ref l0), some (.int l1), some (.int l2), some (.int l3), some (.int l4), some (.int l5), some (.int l6)] [] w) := by
  intro n
  induction n with
  | zero => exact ⟨fun _ _ _ _ _ _ q h => (by cases h), fun _ _ _ _ _ _ _ _ q h => (by cases h)⟩
  | succ n ih => exact ⟨fun _ _ _ _ _ _ q h => HX7_greatestPart_5 ih.1 ih.2 h, fun _ _ _ _ _ _ _ _ q h => HX7_greatestPart_18 ih.1 ih.2 h⟩
def fX7_greatestPart (w : XW) (l0 : Nat) (l1 : Int32) (l2 : Int32) : Option (Int32 × XW) := if isO w l0 7 = true then eX7_greatestPart (loX7_greatestPart FU) w l0 l1 l2 else none
theorem OX7_greatestPart {w : XW} {l0 : Nat} {l1 : Int32} {l2 : Int32} {q : Int32 × XW} (h : fX7_greatestPart w l0 l1 l2 = some q) : isO w l0 7 = true := Decidable.byContradiction fun z => by unfold fX7_greatestPart at h; rw [if_neg z] at h; cases h
theorem MX7_greatestPart {K : CX} {l : Launch} {w : XW} {l0 : Nat} {l1 : Int32} {l2 : Int32} {q : Int32 × XW} (h : fX7_greatestPart w l0 l1 l2 = some q) : MT K l mX7_greatestPart 2 41 [.ref l0, .int l1, .int l2] w (some (.int q.1)) q.2 := by
  have z := OX7_greatestPart h
  unfold fX7_greatestPart at h
  rw [if_pos z] at h
  exact MT.of (by decide) (Nat.le_of_ble_eq_true rfl) rfl (EX7_greatestPart (LOX7_greatestPart FU).1 (LOX7_greatestPart FU).2 h)
