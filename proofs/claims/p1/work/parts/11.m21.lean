/-! FractionRun$State.allPowers()I: frames 1, words 20 -/
abbrev mX5_allPowers : MR := (⟨"FractionRun$State", "allPowers", "()I"⟩, prog_7_method_7_code, 3, (some .int))
theorem dX5_allPowers_0 : decode prog_7_method_7_code 0 = .ok (.iconst 0, 1) := by decide +kernel
theorem dX5_allPowers_1 : decode prog_7_method_7_code 1 = .ok (.istore_n 1, 1) := by decide +kernel
theorem dX5_allPowers_2 : decode prog_7_method_7_code 2 = .ok (.iconst 0, 1) := by decide +kernel
theorem dX5_allPowers_3 : decode prog_7_method_7_code 3 = .ok (.istore_n 2, 1) := by decide +kernel
theorem dX5_allPowers_4 : decode prog_7_method_7_code 4 = .ok (.iload_n 2, 1) := by decide +kernel
theorem dX5_allPowers_5 : decode prog_7_method_7_code 5 = .ok (.bipush 6, 2) := by decide +kernel
theorem dX5_allPowers_7 : decode prog_7_method_7_code 7 = .ok (.if_icmp .ge 18, 3) := by decide +kernel
theorem dX5_allPowers_10 : decode prog_7_method_7_code 10 = .ok (.iload_n 1, 1) := by decide +kernel
theorem dX5_allPowers_11 : decode prog_7_method_7_code 11 = .ok (.aload_n 0, 1) := by decide +kernel
theorem dX5_allPowers_12 : decode prog_7_method_7_code 12 = .ok (.getfield 9, 3) := by decide +kernel
theorem dX5_allPowers_15 : decode prog_7_method_7_code 15 = .ok (.iload_n 2, 1) := by decide +kernel
theorem dX5_allPowers_16 : decode prog_7_method_7_code 16 = .ok (.iaload, 1) := by decide +kernel
theorem dX5_allPowers_17 : decode prog_7_method_7_code 17 = .ok (.iadd, 1) := by decide +kernel
theorem dX5_allPowers_18 : decode prog_7_method_7_code 18 = .ok (.istore_n 1, 1) := by decide +kernel
theorem dX5_allPowers_19 : decode prog_7_method_7_code 19 = .ok (.iinc 2 1, 3) := by decide +kernel
theorem dX5_allPowers_22 : decode prog_7_method_7_code 22 = .ok (.goto (-18), 3) := by decide +kernel
theorem dX5_allPowers_25 : decode prog_7_method_7_code 25 = .ok (.iload_n 1, 1) := by decide +kernel
theorem dX5_allPowers_26 : decode prog_7_method_7_code 26 = .ok (.ireturn, 1) := by decide +kernel
theorem okM_X5_allPowers : okM mX5_allPowers 0 := ⟨tw658, tw5, by decide, by decide, by decide +kernel⟩
abbrev KTX5_allPowers : Type := (XW → Nat → Int32 → Int32 → Option (Int32 × XW))
def hX5_allPowers_4 (k : KTX5_allPowers) (w : XW) (l0 : Nat) (l1 : Int32) (l2 : Int32) : Option (Int32 × XW) :=
  if (6 : Int32) ≤ l2 then
  some (l1, w)
  else
  (gR w l0 5 0).bind fun x2 =>
  (aI w 0 x2 l2).bind fun x5 =>
  k w l0 (l1 + x5) (l2 + (1 : Int32))
theorem HX5_allPowers_4 {K : CX} {l : Launch} {n0 k0 : Nat} {k : KTX5_allPowers} (hk0 : ∀ (w : XW) (l0 : Nat) (l1 : Int32) (l2 : Int32) (q : Int32 × XW), k w l0 l1 l2 = some q → WP K l mX5_allPowers 1 20 n0 k0 (some (.int q.1)) q.2 4 [some (.ref l0), some (.int l1), some (.int l2)] [] w) {w : XW} {l0 : Nat} {l1 : Int32} {l2 : Int32} {q : Int32 × XW} (h0 : hX5_allPowers_4 k w l0 l1 l2 = some q) : WP K l mX5_allPowers 1 20 n0 k0 (some (.int q.1)) q.2 4 [some (.ref l0), some (.int l1), some (.int l2)] [] w := by
  unfold hX5_allPowers_4 at h0
  refine wp_iload_n dX5_allPowers_4 rfl ?_
  refine wp_bipush (v := (6 : Int32)) dX5_allPowers_5 (by decide) ?_
  refine wp_icmp_ge (tgt := 25) dX5_allPowers_7 (by decide) (fun c1 => ?_) (fun c1 => ?_)
  · rw [if_pos c1] at h0
    refine wp_iload_n dX5_allPowers_25 rfl ?_
    cases h0
    exact wp_iret rfl dX5_allPowers_26
  · rw [if_neg c1] at h0
    refine wp_iload_n dX5_allPowers_10 rfl ?_
    refine wp_aload_n dX5_allPowers_11 rfl ?_
    obtain ⟨x2, e4, h3⟩ := Option.bind_eq_some_iff.mp h0
    clear h0
    refine wp_getR okX5 (k := 0) (by decide) tw92 dX5_allPowers_12 e4 ?_
    refine wp_iload_n dX5_allPowers_15 rfl ?_
    obtain ⟨x5, e7, h6⟩ := Option.bind_eq_some_iff.mp h3
    clear h3
    refine wp_iald dX5_allPowers_16 e7 ?_
    refine wp_iadd dX5_allPowers_17 ?_
    refine wp_istore_n (L1 := [some (.ref l0), some (.int (l1 + x5)), some (.int l2)]) dX5_allPowers_18 (Nat.le_of_ble_eq_true rfl) rfl ?_
    refine wp_iinc (v := (l2 + (1 : Int32))) (L1 := [some (.ref l0), some (.int (l1 + x5)), some (.int (l2 + (1 : Int32)))]) dX5_allPowers_19 (Nat.le_of_ble_eq_true rfl) rfl (congrArg (fun z => l2 + z) (by decide)) rfl ?_
    refine wp_goto (tgt := 4) dX5_allPowers_22 (by decide) ?_
    exact WP.wk (hk0 _ _ _ _ _ h6) (And.intro rfl (And.intro rfl (And.intro rfl trivial)))
def eX5_allPowers (k : KTX5_allPowers) (w : XW) (l0 : Nat) : Option (Int32 × XW) :=
  k w l0 (0 : Int32) (0 : Int32)
theorem EX5_allPowers {K : CX} {l : Launch} {n0 k0 : Nat} {k : KTX5_allPowers} (hk0 : ∀ (w : XW) (l0 : Nat) (l1 : Int32) (l2 : Int32) (q : Int32 × XW), k w l0 l1 l2 = some q → WP K l mX5_allPowers 1 20 n0 k0 (some (.int q.1)) q.2 4 [some (.ref l0), some (.int l1), some (.int l2)] [] w) {w : XW} {l0 : Nat} {q : Int32 × XW} (h0 : eX5_allPowers k w l0 = some q) : WP K l mX5_allPowers 1 20 n0 k0 (some (.int q.1)) q.2 0 [some (.ref l0), none, none] [] w := by
  unfold eX5_allPowers at h0
  refine wp_iconst (v := (0 : Int32)) dX5_allPowers_0 (by decide) ?_
  refine wp_istore_n (L1 := [some (.ref l0), some (.int (0 : Int32)), none]) dX5_allPowers_1 (Nat.le_of_ble_eq_true rfl) rfl ?_
  refine wp_iconst (v := (0 : Int32)) dX5_allPowers_2 (by decide) ?_
  refine wp_istore_n (L1 := [some (.ref l0), some (.int (0 : Int32)), some (.int (0 : Int32))]) dX5_allPowers_3 (Nat.le_of_ble_eq_true rfl) rfl ?_
  exact WP.wk (hk0 _ _ _ _ _ h0) (And.intro rfl (And.intro rfl (And.intro rfl trivial)))
def loX5_allPowers : Nat → KTX5_allPowers
  | 0 => fun _ _ _ _ => none
  | n + 1 => hX5_allPowers_4 (loX5_allPowers n)
theorem LOX5_allPowers {K : CX} {l : Launch} {n0 k0 : Nat} : ∀ n : Nat, (∀ (w : XW) (l0 : Nat) (l1 : Int32) (l2 : Int32) (q : Int32 × XW), (loX5_allPowers n) w l0 l1 l2 = some q → WP K l mX5_allPowers 1 20 n0 k0 (some (.int q.1)) q.2 4 [some (.ref l0), some (.int l1), some (.int l2)] [] w) := by
  intro n
  induction n with
  | zero => exact fun _ _ _ _ q h => (by cases h)
  | succ n ih => exact fun _ _ _ _ q h => HX5_allPowers_4 ih h
def fX5_allPowers (w : XW) (l0 : Nat) : Option (Int32 × XW) := if isO w l0 5 = true then eX5_allPowers (loX5_allPowers FU) w l0 else none
theorem OX5_allPowers {w : XW} {l0 : Nat} {q : Int32 × XW} (h : fX5_allPowers w l0 = some q) : isO w l0 5 = true := Decidable.byContradiction fun z => by unfold fX5_allPowers at h; rw [if_neg z] at h; cases h
theorem MX5_allPowers {K : CX} {l : Launch} {w : XW} {l0 : Nat} {q : Int32 × XW} (h : fX5_allPowers w l0 = some q) : MT K l mX5_allPowers 1 20 [.ref l0] w (some (.int q.1)) q.2 := by
  have z := OX5_allPowers h
  unfold fX5_allPowers at h
  rw [if_pos z] at h
  exact MT.of (by decide) (Nat.le_of_ble_eq_true rfl) rfl (EX5_allPowers (LOX5_allPowers FU) h)
/-! FractionRun.drawn(I)I: frames 4, words 93 -/
abbrev mX7_drawn : MR := (⟨"FractionRun", "drawn", "(I)I"⟩, prog_1_method_48_code, 3, (some .int))
theorem dX7_drawn_0 : decode prog_1_method_48_code 0 = .ok (.iload_n 1, 1) := by decide +kernel
theorem dX7_drawn_1 : decode prog_1_method_48_code 1 = .ok (.iconst 4, 1) := by decide +kernel
theorem dX7_drawn_2 : decode prog_1_method_48_code 2 = .ok (.irem, 1) := by decide +kernel
theorem dX7_drawn_3 : decode prog_1_method_48_code 3 = .ok (.lookupswitch 89 #[(2, 25), (3, 59)], 25) := by decide +kernel
theorem dX7_drawn_28 : decode prog_1_method_48_code 28 = .ok (.iload_n 1, 1) := by decide +kernel
theorem dX7_drawn_29 : decode prog_1_method_48_code 29 = .ok (.bipush 8, 2) := by decide +kernel
theorem dX7_drawn_31 : decode prog_1_method_48_code 31 = .ok (.idiv, 1) := by decide +kernel
theorem dX7_drawn_32 : decode prog_1_method_48_code 32 = .ok (.bipush 6, 2) := by decide +kernel
theorem dX7_drawn_34 : decode prog_1_method_48_code 34 = .ok (.irem, 1) := by decide +kernel
theorem dX7_drawn_35 : decode prog_1_method_48_code 35 = .ok (.istore_n 2, 1) := by decide +kernel
theorem dX7_drawn_36 : decode prog_1_method_48_code 36 = .ok (.aload_n 0, 1) := by decide +kernel
theorem dX7_drawn_37 : decode prog_1_method_48_code 37 = .ok (.getfield 40, 3) := by decide +kernel
theorem dX7_drawn_40 : decode prog_1_method_48_code 40 = .ok (.getfield 147, 3) := by decide +kernel
theorem dX7_drawn_43 : decode prog_1_method_48_code 43 = .ok (.iload_n 2, 1) := by decide +kernel
theorem dX7_drawn_44 : decode prog_1_method_48_code 44 = .ok (.iaload, 1) := by decide +kernel
theorem dX7_drawn_45 : decode prog_1_method_48_code 45 = .ok (.sipush 999, 3) := by decide +kernel
theorem dX7_drawn_48 : decode prog_1_method_48_code 48 = .ok (.if_icmp .ge 12, 3) := by decide +kernel
theorem dX7_drawn_51 : decode prog_1_method_48_code 51 = .ok (.aload_n 0, 1) := by decide +kernel
theorem dX7_drawn_52 : decode prog_1_method_48_code 52 = .ok (.getfield 40, 3) := by decide +kernel
theorem dX7_drawn_55 : decode prog_1_method_48_code 55 = .ok (.iload_n 2, 1) := by decide +kernel
theorem dX7_drawn_56 : decode prog_1_method_48_code 56 = .ok (.iconst 1, 1) := by decide +kernel
theorem dX7_drawn_57 : decode prog_1_method_48_code 57 = .ok (.invokevirtual 171, 3) := by decide +kernel
theorem dX7_drawn_60 : decode prog_1_method_48_code 60 = .ok (.iconst 0, 1) := by decide +kernel
theorem dX7_drawn_61 : decode prog_1_method_48_code 61 = .ok (.ireturn, 1) := by decide +kernel
theorem dX7_drawn_62 : decode prog_1_method_48_code 62 = .ok (.aload_n 0, 1) := by decide +kernel
theorem dX7_drawn_63 : decode prog_1_method_48_code 63 = .ok (.getfield 40, 3) := by decide +kernel
theorem dX7_drawn_66 : decode prog_1_method_48_code 66 = .ok (.getfield 175, 3) := by decide +kernel
theorem dX7_drawn_69 : decode prog_1_method_48_code 69 = .ok (.iconst 1, 1) := by decide +kernel
theorem dX7_drawn_70 : decode prog_1_method_48_code 70 = .ok (.if_icmp .le 20, 3) := by decide +kernel
theorem dX7_drawn_73 : decode prog_1_method_48_code 73 = .ok (.aload_n 0, 1) := by decide +kernel
theorem dX7_drawn_74 : decode prog_1_method_48_code 74 = .ok (.getfield 40, 3) := by decide +kernel
theorem dX7_drawn_77 : decode prog_1_method_48_code 77 = .ok (.iconst 0, 1) := by decide +kernel
theorem dX7_drawn_78 : decode prog_1_method_48_code 78 = .ok (.aload_n 0, 1) := by decide +kernel
theorem dX7_drawn_79 : decode prog_1_method_48_code 79 = .ok (.getfield 40, 3) := by decide +kernel
theorem dX7_drawn_82 : decode prog_1_method_48_code 82 = .ok (.getfield 175, 3) := by decide +kernel
theorem dX7_drawn_85 : decode prog_1_method_48_code 85 = .ok (.iconst 1, 1) := by decide +kernel
theorem dX7_drawn_86 : decode prog_1_method_48_code 86 = .ok (.isub, 1) := by decide +kernel
theorem dX7_drawn_87 : decode prog_1_method_48_code 87 = .ok (.invokevirtual 178, 3) := by decide +kernel
theorem dX7_drawn_90 : decode prog_1_method_48_code 90 = .ok (.iconst 0, 1) := by decide +kernel
theorem dX7_drawn_91 : decode prog_1_method_48_code 91 = .ok (.ireturn, 1) := by decide +kernel
theorem dX7_drawn_92 : decode prog_1_method_48_code 92 = .ok (.aload_n 0, 1) := by decide +kernel
theorem dX7_drawn_93 : decode prog_1_method_48_code 93 = .ok (.getfield 40, 3) := by decide +kernel
theorem dX7_drawn_96 : decode prog_1_method_48_code 96 = .ok (.aload_n 0, 1) := by decide +kernel
theorem dX7_drawn_97 : decode prog_1_method_48_code 97 = .ok (.getfield 26, 3) := by decide +kernel
theorem dX7_drawn_100 : decode prog_1_method_48_code 100 = .ok (.invokevirtual 208, 3) := by decide +kernel
theorem dX7_drawn_103 : decode prog_1_method_48_code 103 = .ok (.bipush (-4), 2) := by decide +kernel
theorem dX7_drawn_105 : decode prog_1_method_48_code 105 = .ok (.if_icmp .ne 7, 3) := by decide +kernel
theorem dX7_drawn_108 : decode prog_1_method_48_code 108 = .ok (.iconst 0, 1) := by decide +kernel
theorem dX7_drawn_109 : decode prog_1_method_48_code 109 = .ok (.goto 4, 3) := by decide +kernel
theorem dX7_drawn_112 : decode prog_1_method_48_code 112 = .ok (.iconst 1, 1) := by decide +kernel
theorem dX7_drawn_113 : decode prog_1_method_48_code 113 = .ok (.ireturn, 1) := by decide +kernel
theorem okM_X7_drawn : okM mX7_drawn 1 := ⟨tw654, tw1, by decide, by decide, by decide +kernel⟩
def bX7_drawn_113 (w : XW) (s0 : Int32) : Option (Int32 × XW) :=
  some (s0, w)
theorem BX7_drawn_113 {K : CX} {l : Launch} {n0 k0 : Nat} {w : XW} {s0 : Int32} {q : Int32 × XW} (h0 : bX7_drawn_113 w s0 = some q) : WP K l mX7_drawn 4 93 n0 k0 (some (.int q.1)) q.2 113 [none, none, none] [.int s0] w := by
  unfold bX7_drawn_113 at h0
  cases h0
  exact wp_iret rfl dX7_drawn_113
def bX7_drawn_90 (w : XW) : Option (Int32 × XW) :=
  some ((0 : Int32), w)
theorem BX7_drawn_90 {K : CX} {l : Launch} {n0 k0 : Nat} {w : XW} {q : Int32 × XW} (h0 : bX7_drawn_90 w = some q) : WP K l mX7_drawn 4 93 n0 k0 (some (.int q.1)) q.2 90 [none, none, none] [] w := by
  unfold bX7_drawn_90 at h0
  refine wp_iconst (v := (0 : Int32)) dX7_drawn_90 (by decide) ?_
  cases h0
  exact wp_iret rfl dX7_drawn_91
def bX7_drawn_60 (w : XW) : Option (Int32 × XW) :=
  some ((0 : Int32), w)
theorem BX7_drawn_60 {K : CX} {l : Launch} {n0 k0 : Nat} {w : XW} {q : Int32 × XW} (h0 : bX7_drawn_60 w = some q) : WP K l mX7_drawn 4 93 n0 k0 (some (.int q.1)) q.2 60 [none, none, none] [] w := by
  unfold bX7_drawn_60 at h0
  refine wp_iconst (v := (0 : Int32)) dX7_drawn_60 (by decide) ?_
  cases h0
  exact wp_iret rfl dX7_drawn_61
def eX7_drawn (w : XW) (l0 : Nat) (l1 : Int32) : Option (Int32 × XW) :=
  if (irm l1 (4 : Int32)) = (2 : Int32) then
  (gR w l0 7 5).bind fun x2 =>
  (gR w x2 5 0).bind fun x5 =>
  (aI w 0 x5 (irm (l1 / (8 : Int32)) (6 : Int32))).bind fun x8 =>
  if (999 : Int32) ≤ x8 then
  bX7_drawn_60 w
  else
  (gR w l0 7 5).bind fun x12 =>
  (fX5_multiplyBy w x12 (irm (l1 / (8 : Int32)) (6 : Int32)) (1 : Int32)).bind fun q15 =>
  bX7_drawn_60 q15
  else if (irm l1 (4 : Int32)) = (3 : Int32) then
  (gR w l0 7 5).bind fun x19 =>
  (gI w x19 5 2).bind fun x22 =>
  if x22 ≤ (1 : Int32) then
  bX7_drawn_90 w
  else
  (gR w l0 7 5).bind fun x26 =>
  (gR w l0 7 5).bind fun x29 =>
  (gI w x29 5 2).bind fun x32 =>
  (fX5_shift w x26 (0 : Int32) (x32 - (1 : Int32))).bind fun q35 =>
  bX7_drawn_90 q35
  else (gR w l0 7 5).bind fun x38 =>
  (gR w l0 7 2).bind fun x41 =>
  (fX5_takeStep w x38 x41).bind fun q44 =>
  if q44.1 = (-4 : Int32) then
  bX7_drawn_113 q44.2 (0 : Int32)
  else
  bX7_drawn_113 q44.2 (1 : Int32)
theorem EX7_drawn {K : CX} {l : Launch} {n0 k0 : Nat} {w : XW} {l0 : Nat} {l1 : Int32} {q : Int32 × XW} (h0 : eX7_drawn w l0 l1 = some q) : WP K l mX7_drawn 4 93 n0 k0 (some (.int q.1)) q.2 0 [some (.ref l0), some (.int l1), none] [] w := by
  unfold eX7_drawn at h0
  refine wp_iload_n dX7_drawn_0 rfl ?_
  refine wp_iconst (v := (4 : Int32)) dX7_drawn_1 (by decide) ?_
  refine wp_irm dX7_drawn_2 (by decide) ?_
  by_cases c1 : (irm l1 (4 : Int32)) = (2 : Int32)
  · rw [if_pos c1] at h0
    refine wp_look (off := 25) (tgt := 28) dX7_drawn_3 (by decide) (by rw [c1]; decide) (by decide) ?_
    refine wp_iload_n dX7_drawn_28 rfl ?_
    refine wp_bipush (v := (8 : Int32)) dX7_drawn_29 (by decide) ?_
    refine wp_idiv dX7_drawn_31 (by decide) ?_
    refine wp_bipush (v := (6 : Int32)) dX7_drawn_32 (by decide) ?_
    refine wp_irm dX7_drawn_34 (by decide) ?_
    refine wp_istore_n (L1 := [some (.ref l0), some (.int l1), some (.int (irm (l1 / (8 : Int32)) (6 : Int32)))]) dX7_drawn_35 (Nat.le_of_ble_eq_true rfl) rfl ?_
    refine wp_aload_n dX7_drawn_36 rfl ?_
    obtain ⟨x2, e4, h3⟩ := Option.bind_eq_some_iff.mp h0
    clear h0
    refine wp_getR okX7 (k := 5) (by decide) tw303 dX7_drawn_37 e4 ?_
    obtain ⟨x5, e7, h6⟩ := Option.bind_eq_some_iff.mp h3
    clear h3
    refine wp_getR okX5 (k := 0) (by decide) tw94 dX7_drawn_40 e7 ?_
    refine wp_iload_n dX7_drawn_43 rfl ?_
    obtain ⟨x8, e10, h9⟩ := Option.bind_eq_some_iff.mp h6
    clear h6
    refine wp_iald dX7_drawn_44 e10 ?_
    refine wp_sipush (v := (999 : Int32)) dX7_drawn_45 (by decide) ?_
    refine wp_icmp_ge (tgt := 60) dX7_drawn_48 (by decide) (fun c11 => ?_) (fun c11 => ?_)
    · rw [if_pos c11] at h9
      exact WP.wk (BX7_drawn_60 h9) trivial
    · rw [if_neg c11] at h9
      refine wp_aload_n dX7_drawn_51 rfl ?_
      obtain ⟨x12, e14, h13⟩ := Option.bind_eq_some_iff.mp h9
      clear h9
      refine wp_getR okX7 (k := 5) (by decide) tw303 dX7_drawn_52 e14 ?_
      refine wp_iload_n dX7_drawn_55 rfl ?_
      refine wp_iconst (v := (1 : Int32)) dX7_drawn_56 (by decide) ?_
      obtain ⟨q15, e17, h16⟩ := Option.bind_eq_some_iff.mp h13
      clear h13
      refine wp_Vv (As := [.int (irm (l1 / (8 : Int32)) (6 : Int32)), .int (1 : Int32)]) (S := []) okM_X5_multiplyBy tw443 tw444 tw442 (OX5_multiplyBy e17) rfl rfl rfl ⟨(Nat.le_of_ble_eq_true rfl), (Nat.le_of_ble_eq_true rfl)⟩ (Nat.le_of_ble_eq_true rfl) rfl dX7_drawn_57 (MX5_multiplyBy e17) ?_
      exact WP.wk (BX7_drawn_60 h16) trivial
  rw [if_neg c1] at h0
  by_cases c18 : (irm l1 (4 : Int32)) = (3 : Int32)
  · rw [if_pos c18] at h0
    refine wp_look (off := 59) (tgt := 62) dX7_drawn_3 (by decide) (by rw [c18]; decide) (by decide) ?_
    refine wp_aload_n dX7_drawn_62 rfl ?_
    obtain ⟨x19, e21, h20⟩ := Option.bind_eq_some_iff.mp h0
    clear h0
    refine wp_getR okX7 (k := 5) (by decide) tw303 dX7_drawn_63 e21 ?_
    obtain ⟨x22, e24, h23⟩ := Option.bind_eq_some_iff.mp h20
    clear h20
    refine wp_getI okX5 (k := 2) (by decide) tw98 dX7_drawn_66 e24 ?_
    refine wp_iconst (v := (1 : Int32)) dX7_drawn_69 (by decide) ?_
    refine wp_icmp_le (tgt := 90) dX7_drawn_70 (by decide) (fun c25 => ?_) (fun c25 => ?_)
    · rw [if_pos c25] at h23
      exact WP.wk (BX7_drawn_90 h23) trivial
    · rw [if_neg c25] at h23
      refine wp_aload_n dX7_drawn_73 rfl ?_
      obtain ⟨x26, e28, h27⟩ := Option.bind_eq_some_iff.mp h23
      clear h23
      refine wp_getR okX7 (k := 5) (by decide) tw303 dX7_drawn_74 e28 ?_
      refine wp_iconst (v := (0 : Int32)) dX7_drawn_77 (by decide) ?_
      refine wp_aload_n dX7_drawn_78 rfl ?_
      obtain ⟨x29, e31, h30⟩ := Option.bind_eq_some_iff.mp h27
      clear h27
      refine wp_getR okX7 (k := 5) (by decide) tw303 dX7_drawn_79 e31 ?_
      obtain ⟨x32, e34, h33⟩ := Option.bind_eq_some_iff.mp h30
      clear h30
      refine wp_getI okX5 (k := 2) (by decide) tw98 dX7_drawn_82 e34 ?_
      refine wp_iconst (v := (1 : Int32)) dX7_drawn_85 (by decide) ?_
      refine wp_isub dX7_drawn_86 ?_
      obtain ⟨q35, e37, h36⟩ := Option.bind_eq_some_iff.mp h33
      clear h33
      refine wp_Vv (As := [.int (0 : Int32), .int (x32 - (1 : Int32))]) (S := []) okM_X5_shift tw451 tw452 tw450 (OX5_shift e37) rfl rfl rfl ⟨(Nat.le_of_ble_eq_true rfl), (Nat.le_of_ble_eq_true rfl)⟩ (Nat.le_of_ble_eq_true rfl) rfl dX7_drawn_87 (MX5_shift e37) ?_
      exact WP.wk (BX7_drawn_90 h36) trivial
  rw [if_neg c18] at h0
  refine wp_look (off := 89) (tgt := 92) dX7_drawn_3 (by decide) (by rw [lv_osw c1 (by decide)]; rw [lv_osw c18 (by decide)]; rfl) (by decide) ?_
  refine wp_aload_n dX7_drawn_92 rfl ?_
  obtain ⟨x38, e40, h39⟩ := Option.bind_eq_some_iff.mp h0
  clear h0
  refine wp_getR okX7 (k := 5) (by decide) tw303 dX7_drawn_93 e40 ?_
  refine wp_aload_n dX7_drawn_96 rfl ?_
  obtain ⟨x41, e43, h42⟩ := Option.bind_eq_some_iff.mp h39
  clear h39
  refine wp_getR okX7 (k := 2) (by decide) tw300 dX7_drawn_97 e43 ?_
  obtain ⟨q44, e46, h45⟩ := Option.bind_eq_some_iff.mp h42
  clear h42
  refine wp_Vi (As := [.ref x41]) (S := []) okM_X5_takeStep tw431 tw432 tw520 (OX5_takeStep e46) rfl rfl rfl ⟨(Nat.le_of_ble_eq_true rfl), (Nat.le_of_ble_eq_true rfl)⟩ (Nat.le_of_ble_eq_true rfl) rfl dX7_drawn_100 (MX5_takeStep e46) ?_
  refine wp_bipush (v := (-4 : Int32)) dX7_drawn_103 (by decide) ?_
  refine wp_icmp_ne (tgt := 112) dX7_drawn_105 (by decide) (fun c47 => ?_) (fun c47 => ?_)
  · rw [if_neg c47] at h45
    refine wp_iconst (v := (1 : Int32)) dX7_drawn_112 (by decide) ?_
    exact WP.wk (BX7_drawn_113 h45) trivial
  · rw [if_pos c47] at h45
    refine wp_iconst (v := (0 : Int32)) dX7_drawn_108 (by decide) ?_
    refine wp_goto (tgt := 113) dX7_drawn_109 (by decide) ?_
    exact WP.wk (BX7_drawn_113 h45) trivial
def fX7_drawn (w : XW) (l0 : Nat) (l1 : Int32) : Option (Int32 × XW) := if isO w l0 7 = true then eX7_drawn w l0 l1 else none
theorem OX7_drawn {w : XW} {l0 : Nat} {l1 : Int32} {q : Int32 × XW} (h : fX7_drawn w l0 l1 = some q) : isO w l0 7 = true := Decidable.byContradiction fun z => by unfold fX7_drawn at h; rw [if_neg z] at h; cases h
theorem MX7_drawn {K : CX} {l : Launch} {w : XW} {l0 : Nat} {l1 : Int32} {q : Int32 × XW} (h : fX7_drawn w l0 l1 = some q) : MT K l mX7_drawn 4 93 [.ref l0, .int l1] w (some (.int q.1)) q.2 := by
  have z := OX7_drawn h
  unfold fX7_drawn at h
  rw [if_pos z] at h
  exact MT.of (by decide) (Nat.le_of_ble_eq_true rfl) rfl (EX7_drawn h)
/-! FractionRun.day(III)I: frames 5, words 115 -/
abbrev mX7_day : MR := (⟨"FractionRun", "day", "(III)I"⟩, prog_1_method_30_code, 8, (some .int))
theorem dX7_day_0 : decode prog_1_method_30_code 0 = .ok (.iload_n 1, 1) := by decide +kernel
theorem dX7_day_1 : decode prog_1_method_30_code 1 = .ok (.ifCond .lt 30, 3) := by decide +kernel
theorem dX7_day_4 : decode prog_1_method_30_code 4 = .ok (.iload_n 1, 1) := by decide +kernel
theorem dX7_day_5 : decode prog_1_method_30_code 5 = .ok (.sipush 9999, 3) := by decide +kernel
theorem dX7_day_8 : decode prog_1_method_30_code 8 = .ok (.if_icmp .gt 23, 3) := by decide +kernel
theorem dX7_day_11 : decode prog_1_method_30_code 11 = .ok (.iload_n 2, 1) := by decide +kernel
theorem dX7_day_12 : decode prog_1_method_30_code 12 = .ok (.iconst 1, 1) := by decide +kernel
theorem dX7_day_13 : decode prog_1_method_30_code 13 = .ok (.if_icmp .lt 18, 3) := by decide +kernel
theorem dX7_day_16 : decode prog_1_method_30_code 16 = .ok (.iload_n 2, 1) := by decide +kernel
theorem dX7_day_17 : decode prog_1_method_30_code 17 = .ok (.bipush 60, 2) := by decide +kernel
theorem dX7_day_19 : decode prog_1_method_30_code 19 = .ok (.if_icmp .gt 12, 3) := by decide +kernel
theorem dX7_day_22 : decode prog_1_method_30_code 22 = .ok (.iload_n 3, 1) := by decide +kernel
theorem dX7_day_23 : decode prog_1_method_30_code 23 = .ok (.ifCond .lt 8, 3) := by decide +kernel
theorem dX7_day_26 : decode prog_1_method_30_code 26 = .ok (.iload_n 3, 1) := by decide +kernel
theorem dX7_day_27 : decode prog_1_method_30_code 27 = .ok (.iconst 2, 1) := by decide +kernel
theorem dX7_day_28 : decode prog_1_method_30_code 28 = .ok (.if_icmp .le 5, 3) := by decide +kernel
theorem dX7_day_31 : decode prog_1_method_30_code 31 = .ok (.iconst (-1), 1) := by decide +kernel
theorem dX7_day_32 : decode prog_1_method_30_code 32 = .ok (.ireturn, 1) := by decide +kernel
theorem dX7_day_33 : decode prog_1_method_30_code 33 = .ok (.aload_n 0, 1) := by decide +kernel
theorem dX7_day_34 : decode prog_1_method_30_code 34 = .ok (.getfield 40, 3) := by decide +kernel
theorem dX7_day_37 : decode prog_1_method_30_code 37 = .ok (.aload_n 0, 1) := by decide +kernel
theorem dX7_day_38 : decode prog_1_method_30_code 38 = .ok (.getfield 36, 3) := by decide +kernel
theorem dX7_day_41 : decode prog_1_method_30_code 41 = .ok (.invokevirtual 189, 3) := by decide +kernel
theorem dX7_day_44 : decode prog_1_method_30_code 44 = .ok (.iconst 0, 1) := by decide +kernel
theorem dX7_day_45 : decode prog_1_method_30_code 45 = .ok (.istore 4, 2) := by decide +kernel
theorem dX7_day_47 : decode prog_1_method_30_code 47 = .ok (.iconst 0, 1) := by decide +kernel
theorem dX7_day_48 : decode prog_1_method_30_code 48 = .ok (.istore 5, 2) := by decide +kernel
theorem dX7_day_50 : decode prog_1_method_30_code 50 = .ok (.iload 5, 2) := by decide +kernel
theorem dX7_day_52 : decode prog_1_method_30_code 52 = .ok (.iload_n 2, 1) := by decide +kernel
theorem dX7_day_53 : decode prog_1_method_30_code 53 = .ok (.if_icmp .ge 46, 3) := by decide +kernel
theorem dX7_day_56 : decode prog_1_method_30_code 56 = .ok (.ldc2_w 254, 3) := by decide +kernel
theorem dX7_day_59 : decode prog_1_method_30_code 59 = .ok (.iload_n 1, 1) := by decide +kernel
theorem dX7_day_60 : decode prog_1_method_30_code 60 = .ok (.i2l, 1) := by decide +kernel
theorem dX7_day_61 : decode prog_1_method_30_code 61 = .ok (.lmul, 1) := by decide +kernel
theorem dX7_day_62 : decode prog_1_method_30_code 62 = .ok (.ldc2_w 256, 3) := by decide +kernel
theorem dX7_day_65 : decode prog_1_method_30_code 65 = .ok (.iload 5, 2) := by decide +kernel
theorem dX7_day_67 : decode prog_1_method_30_code 67 = .ok (.i2l, 1) := by decide +kernel
theorem dX7_day_68 : decode prog_1_method_30_code 68 = .ok (.lmul, 1) := by decide +kernel
theorem dX7_day_69 : decode prog_1_method_30_code 69 = .ok (.ladd, 1) := by decide +kernel
theorem dX7_day_70 : decode prog_1_method_30_code 70 = .ok (.lconst 1, 1) := by decide +kernel
theorem dX7_day_71 : decode prog_1_method_30_code 71 = .ok (.ladd, 1) := by decide +kernel
theorem dX7_day_72 : decode prog_1_method_30_code 72 = .ok (.lstore 6, 2) := by decide +kernel
theorem dX7_day_74 : decode prog_1_method_30_code 74 = .ok (.iload 4, 2) := by decide +kernel
theorem dX7_day_76 : decode prog_1_method_30_code 76 = .ok (.aload_n 0, 1) := by decide +kernel
theorem dX7_day_77 : decode prog_1_method_30_code 77 = .ok (.lload 6, 2) := by decide +kernel
theorem dX7_day_79 : decode prog_1_method_30_code 79 = .ok (.lload 6, 2) := by decide +kernel
theorem dX7_day_81 : decode prog_1_method_30_code 81 = .ok (.lmul, 1) := by decide +kernel
theorem dX7_day_82 : decode prog_1_method_30_code 82 = .ok (.ldc2_w 258, 3) := by decide +kernel
theorem dX7_day_85 : decode prog_1_method_30_code 85 = .ok (.lrem, 1) := by decide +kernel
theorem dX7_day_86 : decode prog_1_method_30_code 86 = .ok (.l2i, 1) := by decide +kernel
theorem dX7_day_87 : decode prog_1_method_30_code 87 = .ok (.invokevirtual 260, 3) := by decide +kernel
theorem dX7_day_90 : decode prog_1_method_30_code 90 = .ok (.iadd, 1) := by decide +kernel
theorem dX7_day_91 : decode prog_1_method_30_code 91 = .ok (.istore 4, 2) := by decide +kernel
theorem dX7_day_93 : decode prog_1_method_30_code 93 = .ok (.iinc 5 1, 3) := by decide +kernel
theorem dX7_day_96 : decode prog_1_method_30_code 96 = .ok (.goto (-46), 3) := by decide +kernel
theorem dX7_day_99 : decode prog_1_method_30_code 99 = .ok (.iload_n 3, 1) := by decide +kernel
theorem dX7_day_100 : decode prog_1_method_30_code 100 = .ok (.ifCond .ne 6, 3) := by decide +kernel
theorem dX7_day_103 : decode prog_1_method_30_code 103 = .ok (.iload 4, 2) := by decide +kernel
theorem dX7_day_105 : decode prog_1_method_30_code 105 = .ok (.ireturn, 1) := by decide +kernel
theorem dX7_day_106 : decode prog_1_method_30_code 106 = .ok (.iload_n 3, 1) := by decide +kernel
theorem dX7_day_107 : decode prog_1_method_30_code 107 = .ok (.iconst 1, 1) := by decide +kernel
theorem dX7_day_108 : decode prog_1_method_30_code 108 = .ok (.if_icmp .ne 13, 3) := by decide +kernel
theorem dX7_day_111 : decode prog_1_method_30_code 111 = .ok (.aload_n 0, 1) := by decide +kernel
theorem dX7_day_112 : decode prog_1_method_30_code 112 = .ok (.getfield 40, 3) := by decide +kernel
theorem dX7_day_115 : decode prog_1_method_30_code 115 = .ok (.invokevirtual 263, 3) := by decide +kernel
theorem dX7_day_118 : decode prog_1_method_30_code 118 = .ok (.goto 12, 3) := by decide +kernel
theorem dX7_day_121 : decode prog_1_method_30_code 121 = .ok (.aload_n 0, 1) := by decide +kernel
theorem dX7_day_122 : decode prog_1_method_30_code 122 = .ok (.getfield 40, 3) := by decide +kernel
theorem dX7_day_125 : decode prog_1_method_30_code 125 = .ok (.getfield 221, 3) := by decide +kernel
theorem dX7_day_128 : decode prog_1_method_30_code 128 = .ok (.iconst 0, 1) := by decide +kernel
theorem dX7_day_129 : decode prog_1_method_30_code 129 = .ok (.iaload, 1) := by decide +kernel
theorem dX7_day_130 : decode prog_1_method_30_code 130 = .ok (.ireturn, 1) := by decide +kernel
theorem okM_X7_day : okM mX7_day 3 := ⟨tw647, tw1, by decide, by decide, by decide +kernel⟩
abbrev KTX7_day : Type := (XW → Nat → Int32 → Int32 → Int32 → Int32 → Int32 → Option (Int32 × XW))
def bX7_day_130 (k : KTX7_day) (w : XW) (s0 : Int32) : Option (Int32 × XW) :=
  some (s0, w)
theorem BX7_day_130 {K : CX} {l : Launch} {n0 k0 : Nat} {k : KTX7_day} (hk0 : ∀ (w : XW) (l0 : Nat) (l1 : Int32) (l2 : Int32) (l3 : Int32) (l4 : Int32) (l5 : Int32) (q : Int32 × XW), k w l0 l1 l2 l3 l4 l5 = some q → WP K l mX7_day 5 115 n0 k0 (some (.int q.1)) q.2 50 [some (.ref l0), some (.int l1), some (.int l2), some (.int l3), some (.int l4), some (.int l5), none, none] [] w) {w : XW} {s0 : Int32} {q : Int32 × XW} (h0 : bX7_day_130 k w s0 = some q) : WP K l mX7_day 5 115 n0 k0 (some (.int q.1)) q.2 130 [none, none, none, none, none, none, none, none] [.int s0] w := by
  unfold bX7_day_130 at h0
  cases h0
  exact wp_iret rfl dX7_day_130
def bX7_day_31 (k : KTX7_day) (w : XW) : Option (Int32 × XW) :=
  some ((-1 : Int32), w)
theorem BX7_day_31 {K : CX} {l : Launch} {n0 k0 : Nat} {k : KTX7_day} (hk0 : ∀ (w : XW) (l0 : Nat) (l1 : Int32) (l2 : Int32) (l3 : Int32) (l4 : Int32) (l5 : Int32) (q : Int32 × XW), k w l0 l1 l2 l3 l4 l5 = some q → WP K l mX7_day 5 115 n0 k0 (some (.int q.1)) q.2 50 [some (.ref l0), some (.int l1), some (.int l2), some (.int l3), some (.int l4), some (.int l5), none, none] [] w) {w : XW} {q : Int32 × XW} (h0 : bX7_day_31 k w = some q) : WP K l mX7_day 5 115 n0 k0 (some (.int q.1)) q.2 31 [none, none, none, none, none, none, none, none] [] w := by
  unfold bX7_day_31 at h0
  refine wp_iconst (v := (-1 : Int32)) dX7_day_31 (by decide) ?_
  cases h0
  exact wp_iret rfl dX7_day_32
def hX7_day_50 (k : KTX7_day) (w : XW) (l0 : Nat) (l1 : Int32) (l2 : Int32) (l3 : Int32) (l4 : Int32) (l5 : Int32) : Option (Int32 × XW) :=
  if l2 ≤ l5 then
  if l3 = 0 then
  some (l4, w)
  else
  if l3 = (1 : Int32) then
  (gR w l0 7 5).bind fun x13 =>
  (fX5_allPowers w x13).bind fun q16 =>
  bX7_day_130 k q16.2 q16.1
  else
  (gR w l0 7 5).bind fun x4 =>
  (gR w x4 5 1).bind fun x7 =>
  (aI w 0 x7 (0 : Int32)).bind fun x10 =>
  bX7_day_130 k w x10
  else
  (fX7_drawn w l0 ((lrm (((((7919 : Int64) * (l1.toInt64)) + ((6151 : Int64) * (l5.toInt64))) + (1 : Int64)) * ((((7919 : Int64) * (l1.toInt64)) + ((6151 : Int64) * (l5.toInt64))) + (1 : Int64))) (65521 : Int64)).toInt32)).bind fun q19 =>
  k q19.2 l0 l1 l2 l3 (l4 + q19.1) (l5 + (1 : Int32))
theorem HX7_day_50 {K : CX} {l : Launch} {n0 k0 : Nat} {k : KTX7_day} (hk0 : ∀ (w : XW) (l0 : Nat) (l1 : Int32) (l2 : Int32) (l3 : Int32) (l4 : Int32) (l5 : Int32) (q : Int32 × XW), k w l0 l1 l2 l3 l4 l5 = some q → WP K l mX7_day 5 115 n0 k0 (some (.int q.1)) q.2 50 [some (.ref l0), some (.int l1), some (.int l2), some (.int l3), some (.int l4), some (.int l5), none, none] [] w) {w : XW} {l0 : Nat} {l1 : Int32} {l2 : Int32} {l3 : Int32} {l4 : Int32} {l5 : Int32} {q : Int32 × XW} (h0 : hX7_day_50 k w l0 l1 l2 l3 l4 l5 = some q) : WP K l mX7_day 5 115 n0 k0 (some (.int q.1)) q.2 50 [some (.ref l0), some (.int l1), some (.int l2), some (.int l3), some (.int l4), some (.int l5), none, none] [] w := by
  unfold hX7_day_50 at h0
  refine wp_iload dX7_day_50 rfl ?_
  refine wp_iload_n dX7_day_52 rfl ?_
  refine wp_icmp_ge (tgt := 99) dX7_day_53 (by decide) (fun c1 => ?_) (fun c1 => ?_)
  · rw [if_pos c1] at h0
    refine wp_iload_n dX7_day_99 rfl ?_
    refine wp_if_ne (tgt := 106) dX7_day_100 (by decide) (fun c2 => ?_) (fun c2 => ?_)
    · rw [if_neg c2] at h0
      refine wp_iload_n dX7_day_106 rfl ?_
      refine wp_iconst (v := (1 : Int32)) dX7_day_107 (by decide) ?_
      refine wp_icmp_ne (tgt := 121) dX7_day_108 (by decide) (fun c3 => ?_) (fun c3 => ?_)
      · rw [if_neg c3] at h0
        refine wp_aload_n dX7_day_121 rfl ?_
        obtain ⟨x4, e6, h5⟩ := Option.bind_eq_some_iff.mp h0
        clear h0
        refine wp_getR okX7 (k := 5) (by decide) tw303 dX7_day_122 e6 ?_
        obtain ⟨x7, e9, h8⟩ := Option.bind_eq_some_iff.mp h5
        clear h5
        refine wp_getR okX5 (k := 1) (by decide) tw96 dX7_day_125 e9 ?_
        refine wp_iconst (v := (0 : Int32)) dX7_day_128 (by decide) ?_
        obtain ⟨x10, e12, h11⟩ := Option.bind_eq_some_iff.mp h8
        clear h8
        refine wp_iald dX7_day_129 e12 ?_
        exact WP.wk (BX7_day_130 hk0 h11) trivial
      · rw [if_pos c3] at h0
        refine wp_aload_n dX7_day_111 rfl ?_
        obtain ⟨x13, e15, h14⟩ := Option.bind_eq_some_iff.mp h0
        clear h0
        refine wp_getR okX7 (k := 5) (by decide) tw303 dX7_day_112 e15 ?_
        obtain ⟨q16, e18, h17⟩ := Option.bind_eq_some_iff.mp h14
        clear h14
        refine wp_Vi (As := []) (S := []) okM_X5_allPowers tw656 tw657 tw655 (OX5_allPowers e18) rfl rfl rfl ⟨(Nat.le_of_ble_eq_true rfl), (Nat.le_of_ble_eq_true rfl)⟩ (Nat.le_of_ble_eq_true rfl) rfl dX7_day_115 (MX5_allPowers e18) ?_
        refine wp_goto (tgt := 130) dX7_day_118 (by decide) ?_
        exact WP.wk (BX7_day_130 hk0 h17) trivial
    · rw [if_pos c2] at h0
      refine wp_iload dX7_day_103 rfl ?_
      cases h0
      exact wp_iret rfl dX7_day_105
  · rw [if_neg c1] at h0
    refine wp_ldc2 tw648 dX7_day_56 ?_
    refine wp_iload_n dX7_day_59 rfl ?_
    refine wp_i2l dX7_day_60 ?_
    refine wp_lmul dX7_day_61 ?_
    refine wp_ldc2 tw649 dX7_day_62 ?_
    refine wp_iload dX7_day_65 rfl ?_
    refine wp_i2l dX7_day_67 ?_
    refine wp_lmul dX7_day_68 ?_
    refine wp_ladd dX7_day_69 ?_
    refine wp_lconst (v := (1 : Int64)) dX7_day_70 (by decide) ?_
    refine wp_ladd dX7_day_71 ?_
    refine wp_lstore (L1 := [some (.ref l0), some (.int l1), some (.int l2), some (.int l3), some (.int l4), some (.int l5), some (.long ((((7919 : Int64) * (l1.toInt64)) + ((6151 : Int64) * (l5.toInt64))) + (1 : Int64))), none]) dX7_day_72 (Nat.le_of_ble_eq_true rfl) rfl ?_
    refine wp_iload dX7_day_74 rfl ?_
    refine wp_aload_n dX7_day_76 rfl ?_
    refine wp_lload dX7_day_77 rfl ?_
    refine wp_lload dX7_day_79 rfl ?_
    refine wp_lmul dX7_day_81 ?_
    refine wp_ldc2 tw650 dX7_day_82 ?_
    refine wp_lrm dX7_day_85 (by decide) ?_
    refine wp_l2i dX7_day_86 ?_
    obtain ⟨q19, e21, h20⟩ := Option.bind_eq_some_iff.mp h0
    clear h0
    refine wp_Vi (As := [.int ((lrm (((((7919 : Int64) * (l1.toInt64)) + ((6151 : Int64) * (l5.toInt64))) + (1 : Int64)) * ((((7919 : Int64) * (l1.toInt64)) + ((6151 : Int64) * (l5.toInt64))) + (1 : Int64))) (65521 : Int64)).toInt32)]) (S := [.int l4]) okM_X7_drawn tw653 twP_X7_drawn tw651 (OX7_drawn e21) rfl rfl rfl ⟨(Nat.le_of_ble_eq_true rfl), (Nat.le_of_ble_eq_true rfl)⟩ (Nat.le_of_ble_eq_true rfl) rfl dX7_day_87 (MX7_drawn e21) ?_
    refine wp_iadd dX7_day_90 ?_
    refine wp_istore (L1 := [some (.ref l0), some (.int l1), some (.int l2), some (.int l3), some (.int (l4 + q19.1)), some (.int l5), some (.long ((((7919 : Int64) * (l1.toInt64)) + ((6151 : Int64) * (l5.toInt64))) + (1 : Int64))), none]) dX7_day_91 (Nat.le_of_ble_eq_true rfl) rfl ?_
    refine wp_iinc (v := (l5 + (1 : Int32))) (L1 := [some (.ref l0), some (.int l1), some (.int l2), some (.int l3), some (.int (l4 + q19.1)), some (.int (l5 + (1 : Int32))), some (.long ((((7919 : Int64) * (l1.toInt64)) + ((6151 : Int64) * (l5.toInt64))) + (1 : Int64))), none]) dX7_day_93 (Nat.le_of_ble_eq_true rfl) rfl (congrArg (fun z => l5 + z) (by decide)) rfl ?_
    refine wp_goto (tgt := 50) dX7_day_96 (by decide) ?_
    exact WP.wk (hk0 _ _ _ _ _ _ _ _ h20) (And.intro rfl (And.intro rfl (And.intro rfl (And.intro rfl (And.intro rfl (And.intro rfl trivial))))))
def eX7_day (k : KTX7_day) (w : XW) (l0 : Nat) (l1 : Int32) (l2 : Int32) (l3 : Int32) : Option (Int32 × XW) :=
  if l1 < 0 then
  bX7_day_31 k w
  else
  if (9999 : Int32) < l1 then
  bX7_day_31 k w
  else
  if l2 < (1 : Int32) then
  bX7_day_31 k w
  else
  if (60 : Int32) < l2 then
  bX7_day_31 k w
  else
  if l3 < 0 then
  bX7_day_31 k w
  else
  if l3 ≤ (2 : Int32) then
  (gR w l0 7 5).bind fun x7 =>
  (gR w l0 7 4).bind fun x10 =>
  (fX5_copyFrom w x7 x10).bind fun q13 =>
  k q13 l0 l1 l2 l3 (0 : Int32) (0 : Int32)
  else
  bX7_day_31 k w
theorem EX7_day {K : CX} {l : Launch} {n0 k0 : Nat} {k : KTX7_day} (hk0 : ∀ (w : XW) (l0 : Nat) (l1 : Int32) (l2 : Int32) (l3 : Int32) (l4 : Int32) (l5 : Int32) (q : Int32 × XW), k w l0 l1 l2 l3 l4 l5 = some q → WP K l mX7_day 5 115 n0 k0 (some (.int q.1)) q.2 50 [some (.ref l0), some (.int l1), some (.int l2), some (.int l3), some (.int l4), some (.int l5), none, none] [] w) {w : XW} {l0 : Nat} {l1 : Int32} {l2 : Int32} {l3 : Int32} {q : Int32 × XW} (h0 : eX7_day k w l0 l1 l2 l3 = some q) : WP K l mX7_day 5 115 n0 k0 (some (.int q.1)) q.2 0 [some (.ref l0), some (.int l1), some (.int l2), some (.int l3), none, none, none, none] [] w := by
  unfold eX7_day at h0
  refine wp_iload_n dX7_day_0 rfl ?_
  refine wp_if_lt (tgt := 31) dX7_day_1 (by decide) (fun c1 => ?_) (fun c1 => ?_)
  · rw [if_pos c1] at h0
    exact WP.wk (BX7_day_31 hk0 h0) trivial
  · rw [if_neg c1] at h0
    refine wp_iload_n dX7_day_4 rfl ?_
    refine wp_sipush (v := (9999 : Int32)) dX7_day_5 (by decide) ?_
    refine wp_icmp_gt (tgt := 31) dX7_day_8 (by decide) (fun c2 => ?_) (fun c2 => ?_)
    · rw [if_pos c2] at h0
      exact WP.wk (BX7_day_31 hk0 h0) trivial
    · rw [if_neg c2] at h0
      refine wp_iload_n dX7_day_11 rfl ?_
      refine wp_iconst (v := (1 : Int32)) dX7_day_12 (by decide) ?_
      refine wp_icmp_lt (tgt := 31) dX7_day_13 (by decide) (fun c3 => ?_) (fun c3 => ?_)
      · rw [if_pos c3] at h0
        exact WP.wk (BX7_day_31 hk0 h0) trivial
      · rw [if_neg c3] at h0
        refine wp_iload_n dX7_day_16 rfl ?_
        refine wp_bipush (v := (60 : Int32)) dX7_day_17 (by decide) ?_
        refine wp_icmp_gt (tgt := 31) dX7_day_19 (by decide) (fun c4 => ?_) (fun c4 => ?_)
        · rw [if_pos c4] at h0
          exact WP.wk (BX7_day_31 hk0 h0) trivial
        · rw [if_neg c4] at h0
          refine wp_iload_n dX7_day_22 rfl ?_
          refine wp_if_lt (tgt := 31) dX7_day_23 (by decide) (fun c5 => ?_) (fun c5 => ?_)
          · rw [if_pos c5] at h0
            exact WP.wk (BX7_day_31 hk0 h0) trivial
          · rw [if_neg c5] at h0
            refine wp_iload_n dX7_day_26 rfl ?_
            refine wp_iconst (v := (2 : Int32)) dX7_day_27 (by decide) ?_
            refine wp_icmp_le (tgt := 33) dX7_day_28 (by decide) (fun c6 => ?_) (fun c6 => ?_)
            · rw [if_pos c6] at h0
              refine wp_aload_n dX7_day_33 rfl ?_
              obtain ⟨x7, e9, h8⟩ := Option.bind_eq_some_iff.mp h0
              clear h0
              refine wp_getR okX7 (k := 5) (by decide) tw303 dX7_day_34 e9 ?_
              refine wp_aload_n dX7_day_37 rfl ?_
              obtain ⟨x10, e12, h11⟩ := Option.bind_eq_some_iff.mp h8
              clear h8
              refine wp_getR okX7 (k := 4) (by decide) tw302 dX7_day_38 e12 ?_
              obtain ⟨q13, e15, h14⟩ := Option.bind_eq_some_iff.mp h11
              clear h11
              refine wp_Vv (As := [.ref x10]) (S := []) okM_X5_copyFrom tw419 tw420 tw474 (OX5_copyFrom e15) rfl rfl rfl ⟨(Nat.le_of_ble_eq_true rfl), (Nat.le_of_ble_eq_true rfl)⟩ (Nat.le_of_ble_eq_true rfl) rfl dX7_day_41 (MX5_copyFrom e15) ?_
              refine wp_iconst (v := (0 : Int32)) dX7_day_44 (by decide) ?_
              refine wp_istore (L1 := [some (.ref l0), some (.int l1), some (.int l2), some (.int l3), some (.int (0 : Int32)), none, none, none]) dX7_day_45 (Nat.le_of_ble_eq_true rfl) rfl ?_
              refine wp_iconst (v := (0 : Int32)) dX7_day_47 (by decide) ?_
              refine wp_istore (L1 := [some (.ref l0), some (.int l1), some (.int l2), some (.int l3), some (.int (0 : Int32)), some (.int (0 : Int32)), none, none]) dX7_day_48 (Nat.le_of_ble_eq_true rfl) rfl ?_
              exact WP.wk (hk0 _ _ _ _ _ _ _ _ h14) (And.intro rfl (And.intro rfl (And.intro rfl (And.intro rfl (And.intro rfl (And.intro rfl trivial))))))
            · rw [if_neg c6] at h0
              exact WP.wk (BX7_day_31 hk0 h0) trivial
def loX7_day : Nat → KTX7_day
  | 0 => fun _ _ _ _ _ _ _ => none
  | n + 1 => hX7_day_50 (loX7_day n)
theorem LOX7_day {K : CX} {l : Launch} {n0 k0 : Nat} : ∀ n : Nat, (∀ (w : XW) (l0 : Nat) (l1 : Int32) (l2 : Int32) (l3 : Int32) (l4 : Int32) (l5 : Int32) (q : Int32 × XW), (loX7_day n) w l0 l1 l2 l3 l4 l5 = some q → WP K l mX7_day 5 115 n0 k0 (some (.int q.1)) q.2 50 [some (.ref l0), some (.int l1), some (.int l2), some (.int l3), some (.int l4), some (.int l5), none, none] [] w) := by
  intro n
  induction n with
  | zero => exact fun _ _ _ _ _ _ _ q h => (by cases h)
  | succ n ih => exact fun _ _ _ _ _ _ _ q h => HX7_day_50 ih h
def fX7_day (w : XW) (l0 : Nat) (l1 : Int32) (l2 : Int32) (l3 : Int32) : Option (Int32 × XW) := if isO w l0 7 = true then eX7_day (loX7_day FU) w l0 l1 l2 l3 else none
theorem OX7_day {w : XW} {l0 : Nat} {l1 : Int32} {l2 : Int32} {l3 : Int32} {q : Int32 × XW} (h : fX7_day w l0 l1 l2 l3 = some q) : isO w l0 7 = true := Decidable.byContradiction fun z => by unfold fX7_day at h; rw [if_neg z] at h; cases h
theorem MX7_day {K : CX} {l : Launch} {w : XW} {l0 : Nat} {l1 : Int32} {l2 : Int32} {l3 : Int32} {q : Int32 × XW} (h : fX7_day w l0 l1 l2 l3 = some q) : MT K l mX7_day 5 115 [.ref l0, .int l1, .int l2, .int l3] w (some (.int q.1)) q.2 := by
  have z := OX7_day h
  unfold fX7_day at h
  rw [if_pos z] at h
  exact MT.of (by decide) (Nat.le_of_ble_eq_true rfl) rfl (EX7_day (LOX7_day FU) h)
/-! FractionRunModel.powersOf(I)I: frames 1, words 20 -/
abbrev mX8_powersOf : MR := (⟨"FractionRunModel", "powersOf", "(I)I"⟩, prog_10_method_67_code, 4, (some .int))
theorem dX8_powersOf_0 : decode prog_10_method_67_code 0 = .ok (.iconst 0, 1) := by decide +kernel
theorem dX8_powersOf_1 : decode prog_10_method_67_code 1 = .ok (.istore_n 2, 1) := by decide +kernel
theorem dX8_powersOf_2 : decode prog_10_method_67_code 2 = .ok (.iconst 0, 1) := by decide +kernel
theorem dX8_powersOf_3 : decode prog_10_method_67_code 3 = .ok (.istore_n 3, 1) := by decide +kernel
theorem dX8_powersOf_4 : decode prog_10_method_67_code 4 = .ok (.iload_n 3, 1) := by decide +kernel
theorem dX8_powersOf_5 : decode prog_10_method_67_code 5 = .ok (.bipush 6, 2) := by decide +kernel
theorem dX8_powersOf_7 : decode prog_10_method_67_code 7 = .ok (.if_icmp .ge 20, 3) := by decide +kernel
theorem dX8_powersOf_10 : decode prog_10_method_67_code 10 = .ok (.iload_n 2, 1) := by decide +kernel
theorem dX8_powersOf_11 : decode prog_10_method_67_code 11 = .ok (.aload_n 0, 1) := by decide +kernel
theorem dX8_powersOf_12 : decode prog_10_method_67_code 12 = .ok (.getfield 25, 3) := by decide +kernel
theorem dX8_powersOf_15 : decode prog_10_method_67_code 15 = .ok (.iload_n 1, 1) := by decide +kernel
theorem dX8_powersOf_16 : decode prog_10_method_67_code 16 = .ok (.iload_n 3, 1) := by decide +kernel
theorem dX8_powersOf_17 : decode prog_10_method_67_code 17 = .ok (.iadd, 1) := by decide +kernel
theorem dX8_powersOf_18 : decode prog_10_method_67_code 18 = .ok (.iaload, 1) := by decide +kernel
theorem dX8_powersOf_19 : decode prog_10_method_67_code 19 = .ok (.iadd, 1) := by decide +kernel
theorem dX8_powersOf_20 : decode prog_10_method_67_code 20 = .ok (.istore_n 2, 1) := by decide +kernel
theorem dX8_powersOf_21 : decode prog_10_method_67_code 21 = .ok (.iinc 3 1, 3) := by decide +kernel
theorem dX8_powersOf_24 : decode prog_10_method_67_code 24 = .ok (.goto (-20), 3) := by decide +kernel
theorem dX8_powersOf_27 : decode prog_10_method_67_code 27 = .ok (.iload_n 2, 1) := by decide +kernel
theorem dX8_powersOf_28 : decode prog_10_method_67_code 28 = .ok (.ireturn, 1) := by decide +kernel
theorem okM_X8_powersOf : okM mX8_powersOf 1 := ⟨tw1043, tw15, by decide, by decide, by decide +kernel⟩
abbrev KTX8_powersOf : Type := (XW → Nat → Int32 → Int32 → Int32 → Option (Int32 × XW))
def hX8_powersOf_4 (k : KTX8_powersOf) (w : XW) (l0 : Nat) (l1 : Int32) (l2 : Int32) (l3 : Int32) : Option (Int32 × XW) :=
  if (6 : Int32) ≤ l3 then
  some (l2, w)
  else
  (gR w l0 8 7).bind fun x2 =>
  (aI w 0 x2 (l1 + l3)).bind fun x5 =>
  k w l0 l1 (l2 + x5) (l3 + (1 : Int32))
theorem HX8_powersOf_4 {K : CX} {l : Launch} {n0 k0 : Nat} {k : KTX8_powersOf} (hk0 : ∀ (w : XW) (l0 : Nat) (l1 : Int32) (l2 : Int32) (l3 : Int32) (q : Int32 × XW), k w l0 l1 l2 l3 = some q → WP K l mX8_powersOf 1 20 n0 k0 (some (.int q.1)) q.2 4 [some (.ref l0), some (.int l1), some (.int l2), some (.int l3)] [] w) {w : XW} {l0 : Nat} {l1 : Int32} {l2 : Int32} {l3 : Int32} {q : Int32 × XW} (h0 : hX8_powersOf_4 k w l0 l1 l2 l3 = some q) : WP K l mX8_powersOf 1 20 n0 k0 (some (.int q.1)) q.2 4 [some (.ref l0), some (.int l1), some (.int l2), some (.int l3)] [] w := by
  unfold hX8_powersOf_4 at h0
  refine wp_iload_n dX8_powersOf_4 rfl ?_
  refine wp_bipush (v := (6 : Int32)) dX8_powersOf_5 (by decide) ?_
  refine wp_icmp_ge (tgt := 27) dX8_powersOf_7 (by decide) (fun c1 => ?_) (fun c1 => ?_)
  · rw [if_pos c1] at h0
    refine wp_iload_n dX8_powersOf_27 rfl ?_
    cases h0
    exact wp_iret rfl dX8_powersOf_28
  · rw [if_neg c1] at h0
    refine wp_iload_n dX8_powersOf_10 rfl ?_
    refine wp_aload_n dX8_powersOf_11 rfl ?_
    obtain ⟨x2, e4, h3⟩ := Option.bind_eq_some_iff.mp h0
    clear h0
    refine wp_getR okX8 (k := 7) (by decide) tw712 dX8_powersOf_12 e4 ?_
    refine wp_iload_n dX8_powersOf_15 rfl ?_
    refine wp_iload_n dX8_powersOf_16 rfl ?_
    refine wp_iadd dX8_powersOf_17 ?_
    obtain ⟨x5, e7, h6⟩ := Option.bind_eq_some_iff.mp h3
    clear h3
    refine wp_iald dX8_powersOf_18 e7 ?_
    refine wp_iadd dX8_powersOf_19 ?_
    refine wp_istore_n (L1 := [some (.ref l0), some (.int l1), some (.int (l2 + x5)), some (.int l3)]) dX8_powersOf_20 (Nat.le_of_ble_eq_true rfl) rfl ?_
    refine wp_iinc (v := (l3 + (1 : Int32))) (L1 := [some (.ref l0), some (.int l1), some (.int (l2 + x5)), some (.int (l3 + (1 : Int32)))]) dX8_powersOf_21 (Nat.le_of_ble_eq_true rfl) rfl (congrArg (fun z => l3 + z) (by decide)) rfl ?_
    refine wp_goto (tgt := 4) dX8_powersOf_24 (by decide) ?_
    exact WP.wk (hk0 _ _ _ _ _ _ h6) (And.intro rfl (And.intro rfl (And.intro rfl (And.intro rfl trivial))))
def eX8_powersOf (k : KTX8_powersOf) (w : XW) (l0 : Nat) (l1 : Int32) : Option (Int32 × XW) :=
  k w l0 l1 (0 : Int32) (0 : Int32)
theorem EX8_powersOf {K : CX} {l : Launch} {n0 k0 : Nat} {k : KTX8_powersOf} (hk0 : ∀ (w : XW) (l0 : Nat) (l1 : Int32) (l2 : Int32) (l3 : Int32) (q : Int32 × XW), k w l0 l1 l2 l3 = some q → WP K l mX8_powersOf 1 20 n0 k0 (some (.int q.1)) q.2 4 [some (.ref l0), some (.int l1), some (.int l2), some (.int l3)] [] w) {w : XW} {l0 : Nat} {l1 : Int32} {q : Int32 × XW} (h0 : eX8_powersOf k w l0 l1 = some q) : WP K l mX8_powersOf 1 20 n0 k0 (some (.int q.1)) q.2 0 [some (.ref l0), some (.int l1), none, none] [] w := by
  unfold eX8_powersOf at h0
  refine wp_iconst (v := (0 : Int32)) dX8_powersOf_0 (by decide) ?_
  refine wp_istore_n (L1 := [some (.ref l0), some (.int l1), some (.int (0 : Int32)), none]) dX8_powersOf_1 (Nat.le_of_ble_eq_true rfl) rfl ?_
  refine wp_iconst (v := (0 : Int32)) dX8_powersOf_2 (by decide) ?_
  refine wp_istore_n (L1 := [some (.ref l0), some (.int l1), some (.int (0 : Int32)), some (.int (0 : Int32))]) dX8_powersOf_3 (Nat.le_of_ble_eq_true rfl) rfl ?_
  exact WP.wk (hk0 _ _ _ _ _ _ h0) (And.intro rfl (And.intro rfl (And.intro rfl (And.intro rfl trivial))))
def loX8_powersOf : Nat → KTX8_powersOf
  | 0 => fun _ _ _ _ _ => none
  | n + 1 => hX8_powersOf_4 (loX8_powersOf n)
theorem LOX8_powersOf {K : CX} {l : Launch} {n0 k0 : Nat} : ∀ n : Nat, (∀ (w : XW) (l0 : Nat) (l1 : Int32) (l2 : Int32) (l3 : Int32) (q : Int32 × XW), (loX8_powersOf n) w l0 l1 l2 l3 = some q → WP K l mX8_powersOf 1 20 n0 k0 (some (.int q.1)) q.2 4 [some (.ref l0), some (.int l1), some (.int l2), some (.int l3)] [] w) := by
  intro n
  induction n with
  | zero => exact fun _ _ _ _ _ q h => (by cases h)
  | succ n ih => exact fun _ _ _ _ _ q h => HX8_powersOf_4 ih h
def fX8_powersOf (w : XW) (l0 : Nat) (l1 : Int32) : Option (Int32 × XW) := if isO w l0 8 = true then eX8_powersOf (loX8_powersOf FU) w l0 l1 else none
theorem OX8_powersOf {w : XW} {l0 : Nat} {l1 : Int32} {q : Int32 × XW} (h : fX8_powersOf w l0 l1 = some q) : isO w l0 8 = true := Decidable.byContradiction fun z => by unfold fX8_powersOf at h; rw [if_neg z] at h; cases h
theorem MX8_powersOf {K : CX} {l : Launch} {w : XW} {l0 : Nat} {l1 : Int32} {q : Int32 × XW} (h : fX8_powersOf w l0 l1 = some q) : MT K l mX8_powersOf 1 20 [.ref l0, .int l1] w (some (.int q.1)) q.2 := by
  have z := OX8_powersOf h
  unfold fX8_powersOf at h
  rw [if_pos z] at h
  exact MT.of (by decide) (Nat.le_of_ble_eq_true rfl) rfl (EX8_powersOf (LOX8_powersOf FU) h)
/-! FractionRunModel.day(III)I: frames 6, words 140 -/
abbrev mX8_day : MR := (⟨"FractionRunModel", "day", "(III)I"⟩, prog_10_method_66_code, 10, (some .int))
theorem dX8_day_0 : decode prog_10_method_66_code 0 = .ok (.iload_n 1, 1) := by decide +kernel
theorem dX8_day_1 : decode prog_10_method_66_code 1 = .ok (.i2l, 1) := by decide +kernel
theorem dX8_day_2 : decode prog_10_method_66_code 2 = .ok (.lconst 0, 1) := by decide +kernel
theorem dX8_day_3 : decode prog_10_method_66_code 3 = .ok (.ldc2_w 241, 3) := by decide +kernel
theorem dX8_day_6 : decode prog_10_method_66_code 6 = .ok (.invokestatic 88, 3) := by decide +kernel
theorem dX8_day_9 : decode prog_10_method_66_code 9 = .ok (.ifCond .eq 27, 3) := by decide +kernel
theorem dX8_day_12 : decode prog_10_method_66_code 12 = .ok (.iload_n 2, 1) := by decide +kernel
theorem dX8_day_13 : decode prog_10_method_66_code 13 = .ok (.i2l, 1) := by decide +kernel
theorem dX8_day_14 : decode prog_10_method_66_code 14 = .ok (.lconst 1, 1) := by decide +kernel
theorem dX8_day_15 : decode prog_10_method_66_code 15 = .ok (.ldc2_w 221, 3) := by decide +kernel
theorem dX8_day_18 : decode prog_10_method_66_code 18 = .ok (.invokestatic 88, 3) := by decide +kernel
theorem dX8_day_21 : decode prog_10_method_66_code 21 = .ok (.ifCond .eq 15, 3) := by decide +kernel
theorem dX8_day_24 : decode prog_10_method_66_code 24 = .ok (.iload_n 3, 1) := by decide +kernel
theorem dX8_day_25 : decode prog_10_method_66_code 25 = .ok (.i2l, 1) := by decide +kernel
theorem dX8_day_26 : decode prog_10_method_66_code 26 = .ok (.lconst 0, 1) := by decide +kernel
theorem dX8_day_27 : decode prog_10_method_66_code 27 = .ok (.ldc2_w 243, 3) := by decide +kernel
theorem dX8_day_30 : decode prog_10_method_66_code 30 = .ok (.invokestatic 88, 3) := by decide +kernel
theorem dX8_day_33 : decode prog_10_method_66_code 33 = .ok (.ifCond .ne 5, 3) := by decide +kernel
theorem dX8_day_36 : decode prog_10_method_66_code 36 = .ok (.iconst (-1), 1) := by decide +kernel
theorem dX8_day_37 : decode prog_10_method_66_code 37 = .ok (.ireturn, 1) := by decide +kernel
theorem dX8_day_38 : decode prog_10_method_66_code 38 = .ok (.aload_n 0, 1) := by decide +kernel
theorem dX8_day_39 : decode prog_10_method_66_code 39 = .ok (.iconst 0, 1) := by decide +kernel
theorem dX8_day_40 : decode prog_10_method_66_code 40 = .ok (.sipush 198, 3) := by decide +kernel
theorem dX8_day_43 : decode prog_10_method_66_code 43 = .ok (.invokevirtual 155, 3) := by decide +kernel
theorem dX8_day_46 : decode prog_10_method_66_code 46 = .ok (.iconst 0, 1) := by decide +kernel
theorem dX8_day_47 : decode prog_10_method_66_code 47 = .ok (.istore 4, 2) := by decide +kernel
theorem dX8_day_49 : decode prog_10_method_66_code 49 = .ok (.iconst 0, 1) := by decide +kernel
theorem dX8_day_50 : decode prog_10_method_66_code 50 = .ok (.istore 5, 2) := by decide +kernel
theorem dX8_day_52 : decode prog_10_method_66_code 52 = .ok (.iload 5, 2) := by decide +kernel
theorem dX8_day_54 : decode prog_10_method_66_code 54 = .ok (.iload_n 2, 1) := by decide +kernel
theorem dX8_day_55 : decode prog_10_method_66_code 55 = .ok (.if_icmp .ge 170, 3) := by decide +kernel
theorem dX8_day_58 : decode prog_10_method_66_code 58 = .ok (.ldc2_w 245, 3) := by decide +kernel
theorem dX8_day_61 : decode prog_10_method_66_code 61 = .ok (.iload_n 1, 1) := by decide +kernel
theorem dX8_day_62 : decode prog_10_method_66_code 62 = .ok (.i2l, 1) := by decide +kernel
theorem dX8_day_63 : decode prog_10_method_66_code 63 = .ok (.lmul, 1) := by decide +kernel
theorem dX8_day_64 : decode prog_10_method_66_code 64 = .ok (.ldc2_w 247, 3) := by decide +kernel
theorem dX8_day_67 : decode prog_10_method_66_code 67 = .ok (.iload 5, 2) := by decide +kernel
theorem dX8_day_69 : decode prog_10_method_66_code 69 = .ok (.i2l, 1) := by decide +kernel
theorem dX8_day_70 : decode prog_10_method_66_code 70 = .ok (.lmul, 1) := by decide +kernel
theorem dX8_day_71 : decode prog_10_method_66_code 71 = .ok (.ladd, 1) := by decide +kernel
theorem dX8_day_72 : decode prog_10_method_66_code 72 = .ok (.lconst 1, 1) := by decide +kernel
theorem dX8_day_73 : decode prog_10_method_66_code 73 = .ok (.ladd, 1) := by decide +kernel
theorem dX8_day_74 : decode prog_10_method_66_code 74 = .ok (.lstore 6, 2) := by decide +kernel
theorem dX8_day_76 : decode prog_10_method_66_code 76 = .ok (.lload 6, 2) := by decide +kernel
theorem dX8_day_78 : decode prog_10_method_66_code 78 = .ok (.lload 6, 2) := by decide +kernel
theorem dX8_day_80 : decode prog_10_method_66_code 80 = .ok (.lmul, 1) := by decide +kernel
theorem dX8_day_81 : decode prog_10_method_66_code 81 = .ok (.ldc2_w 249, 3) := by decide +kernel
theorem dX8_day_84 : decode prog_10_method_66_code 84 = .ok (.lrem, 1) := by decide +kernel
theorem dX8_day_85 : decode prog_10_method_66_code 85 = .ok (.l2i, 1) := by decide +kernel
theorem dX8_day_86 : decode prog_10_method_66_code 86 = .ok (.istore 8, 2) := by decide +kernel
theorem dX8_day_88 : decode prog_10_method_66_code 88 = .ok (.iload 8, 2) := by decide +kernel
theorem dX8_day_90 : decode prog_10_method_66_code 90 = .ok (.bipush 8, 2) := by decide +kernel
theorem dX8_day_92 : decode prog_10_method_66_code 92 = .ok (.idiv, 1) := by decide +kernel
theorem dX8_day_93 : decode prog_10_method_66_code 93 = .ok (.bipush 6, 2) := by decide +kernel
theorem dX8_day_95 : decode prog_10_method_66_code 95 = .ok (.irem, 1) := by decide +kernel
theorem dX8_day_96 : decode prog_10_method_66_code 96 = .ok (.istore 9, 2) := by decide +kernel
theorem dX8_day_98 : decode prog_10_method_66_code 98 = .ok (.iload 8, 2) := by decide +kernel
theorem dX8_day_100 : decode prog_10_method_66_code 100 = .ok (.iconst 4, 1) := by decide +kernel
theorem dX8_day_101 : decode prog_10_method_66_code 101 = .ok (.irem, 1) := by decide +kernel
theorem dX8_day_102 : decode prog_10_method_66_code 102 = .ok (.iconst 2, 1) := by decide +kernel
theorem dX8_day_103 : decode prog_10_method_66_code 103 = .ok (.if_icmp .ge 26, 3) := by decide +kernel
theorem dX8_day_106 : decode prog_10_method_66_code 106 = .ok (.iload 4, 2) := by decide +kernel
theorem dX8_day_108 : decode prog_10_method_66_code 108 = .ok (.aload_n 0, 1) := by decide +kernel
theorem dX8_day_109 : decode prog_10_method_66_code 109 = .ok (.sipush 198, 3) := by decide +kernel
theorem dX8_day_112 : decode prog_10_method_66_code 112 = .ok (.invokevirtual 175, 3) := by decide +kernel
theorem dX8_day_115 : decode prog_10_method_66_code 115 = .ok (.ifCond .ge 7, 3) := by decide +kernel
theorem dX8_day_118 : decode prog_10_method_66_code 118 = .ok (.iconst 0, 1) := by decide +kernel
theorem dX8_day_119 : decode prog_10_method_66_code 119 = .ok (.goto 4, 3) := by decide +kernel
theorem dX8_day_122 : decode prog_10_method_66_code 122 = .ok (.iconst 1, 1) := by decide +kernel
theorem dX8_day_123 : decode prog_10_method_66_code 123 = .ok (.iadd, 1) := by decide +kernel
theorem dX8_day_124 : decode prog_10_method_66_code 124 = .ok (.istore 4, 2) := by decide +kernel
theorem dX8_day_126 : decode prog_10_method_66_code 126 = .ok (.goto 93, 3) := by decide +kernel
theorem dX8_day_129 : decode prog_10_method_66_code 129 = .ok (.iload 8, 2) := by decide +kernel
theorem dX8_day_131 : decode prog_10_method_66_code 131 = .ok (.iconst 4, 1) := by decide +kernel
theorem dX8_day_132 : decode prog_10_method_66_code 132 = .ok (.irem, 1) := by decide +kernel
theorem dX8_day_133 : decode prog_10_method_66_code 133 = .ok (.iconst 2, 1) := by decide +kernel
theorem dX8_day_134 : decode prog_10_method_66_code 134 = .ok (.if_icmp .ne 47, 3) := by decide +kernel
theorem dX8_day_137 : decode prog_10_method_66_code 137 = .ok (.aload_n 0, 1) := by decide +kernel
theorem dX8_day_138 : decode prog_10_method_66_code 138 = .ok (.getfield 25, 3) := by decide +kernel
theorem dX8_day_141 : decode prog_10_method_66_code 141 = .ok (.sipush 198, 3) := by decide +kernel
theorem dX8_day_144 : decode prog_10_method_66_code 144 = .ok (.iload 9, 2) := by decide +kernel
theorem dX8_day_146 : decode prog_10_method_66_code 146 = .ok (.iadd, 1) := by decide +kernel
theorem dX8_day_147 : decode prog_10_method_66_code 147 = .ok (.iaload, 1) := by decide +kernel
theorem dX8_day_148 : decode prog_10_method_66_code 148 = .ok (.sipush 999, 3) := by decide +kernel
theorem dX8_day_151 : decode prog_10_method_66_code 151 = .ok (.if_icmp .ge 30, 3) := by decide +kernel
theorem dX8_day_154 : decode prog_10_method_66_code 154 = .ok (.aload_n 0, 1) := by decide +kernel
theorem dX8_day_155 : decode prog_10_method_66_code 155 = .ok (.getfield 25, 3) := by decide +kernel
theorem dX8_day_158 : decode prog_10_method_66_code 158 = .ok (.sipush 198, 3) := by decide +kernel
theorem dX8_day_161 : decode prog_10_method_66_code 161 = .ok (.iload 9, 2) := by decide +kernel
theorem dX8_day_163 : decode prog_10_method_66_code 163 = .ok (.iadd, 1) := by decide +kernel
theorem dX8_day_164 : decode prog_10_method_66_code 164 = .ok (.dup2, 1) := by decide +kernel
theorem dX8_day_165 : decode prog_10_method_66_code 165 = .ok (.iaload, 1) := by decide +kernel
theorem dX8_day_166 : decode prog_10_method_66_code 166 = .ok (.iconst 1, 1) := by decide +kernel
theorem dX8_day_167 : decode prog_10_method_66_code 167 = .ok (.iadd, 1) := by decide +kernel
theorem dX8_day_168 : decode prog_10_method_66_code 168 = .ok (.iastore, 1) := by decide +kernel
theorem dX8_day_169 : decode prog_10_method_66_code 169 = .ok (.aload_n 0, 1) := by decide +kernel
theorem dX8_day_170 : decode prog_10_method_66_code 170 = .ok (.getfield 25, 3) := by decide +kernel
theorem dX8_day_173 : decode prog_10_method_66_code 173 = .ok (.sipush 215, 3) := by decide +kernel
theorem dX8_day_176 : decode prog_10_method_66_code 176 = .ok (.iconst 0, 1) := by decide +kernel
theorem dX8_day_177 : decode prog_10_method_66_code 177 = .ok (.iastore, 1) := by decide +kernel
theorem dX8_day_178 : decode prog_10_method_66_code 178 = .ok (.goto 41, 3) := by decide +kernel
theorem dX8_day_181 : decode prog_10_method_66_code 181 = .ok (.iload 8, 2) := by decide +kernel
theorem dX8_day_183 : decode prog_10_method_66_code 183 = .ok (.iconst 4, 1) := by decide +kernel
theorem dX8_day_184 : decode prog_10_method_66_code 184 = .ok (.irem, 1) := by decide +kernel
theorem dX8_day_185 : decode prog_10_method_66_code 185 = .ok (.iconst 3, 1) := by decide +kernel
theorem dX8_day_186 : decode prog_10_method_66_code 186 = .ok (.if_icmp .ne 33, 3) := by decide +kernel
theorem dX8_day_189 : decode prog_10_method_66_code 189 = .ok (.aload_n 0, 1) := by decide +kernel
theorem dX8_day_190 : decode prog_10_method_66_code 190 = .ok (.getfield 25, 3) := by decide +kernel
theorem dX8_day_193 : decode prog_10_method_66_code 193 = .ok (.sipush 212, 3) := by decide +kernel
theorem dX8_day_196 : decode prog_10_method_66_code 196 = .ok (.iaload, 1) := by decide +kernel
theorem dX8_day_197 : decode prog_10_method_66_code 197 = .ok (.iconst 1, 1) := by decide +kernel
theorem dX8_day_198 : decode prog_10_method_66_code 198 = .ok (.if_icmp .le 21, 3) := by decide +kernel
theorem dX8_day_201 : decode prog_10_method_66_code 201 = .ok (.aload_n 0, 1) := by decide +kernel
theorem dX8_day_202 : decode prog_10_method_66_code 202 = .ok (.sipush 198, 3) := by decide +kernel
theorem dX8_day_205 : decode prog_10_method_66_code 205 = .ok (.iconst 0, 1) := by decide +kernel
theorem dX8_day_206 : decode prog_10_method_66_code 206 = .ok (.aload_n 0, 1) := by decide +kernel
theorem dX8_day_207 : decode prog_10_method_66_code 207 = .ok (.getfield 25, 3) := by decide +kernel
theorem dX8_day_210 : decode prog_10_method_66_code 210 = .ok (.sipush 212, 3) := by decide +kernel
theorem dX8_day_213 : decode prog_10_method_66_code 213 = .ok (.iaload, 1) := by decide +kernel
theorem dX8_day_214 : decode prog_10_method_66_code 214 = .ok (.iconst 1, 1) := by decide +kernel
theorem dX8_day_215 : decode prog_10_method_66_code 215 = .ok (.isub, 1) := by decide +kernel
theorem dX8_day_216 : decode prog_10_method_66_code 216 = .ok (.invokevirtual 182, 3) := by decide +kernel
theorem dX8_day_219 : decode prog_10_method_66_code 219 = .ok (.iinc 5 1, 3) := by decide +kernel
theorem dX8_day_222 : decode prog_10_method_66_code 222 = .ok (.goto (-170), 3) := by decide +kernel
theorem dX8_day_225 : decode prog_10_method_66_code 225 = .ok (.iload_n 3, 1) := by decide +kernel
theorem dX8_day_226 : decode prog_10_method_66_code 226 = .ok (.ifCond .ne 8, 3) := by decide +kernel
theorem dX8_day_229 : decode prog_10_method_66_code 229 = .ok (.iload 4, 2) := by decide +kernel
theorem dX8_day_231 : decode prog_10_method_66_code 231 = .ok (.goto 26, 3) := by decide +kernel
theorem dX8_day_234 : decode prog_10_method_66_code 234 = .ok (.iload_n 3, 1) := by decide +kernel
theorem dX8_day_235 : decode prog_10_method_66_code 235 = .ok (.iconst 1, 1) := by decide +kernel
theorem dX8_day_236 : decode prog_10_method_66_code 236 = .ok (.if_icmp .ne 13, 3) := by decide +kernel
theorem dX8_day_239 : decode prog_10_method_66_code 239 = .ok (.aload_n 0, 1) := by decide +kernel
theorem dX8_day_240 : decode prog_10_method_66_code 240 = .ok (.sipush 198, 3) := by decide +kernel
theorem dX8_day_243 : decode prog_10_method_66_code 243 = .ok (.invokevirtual 251, 3) := by decide +kernel
theorem dX8_day_246 : decode prog_10_method_66_code 246 = .ok (.goto 11, 3) := by decide +kernel
theorem dX8_day_249 : decode prog_10_method_66_code 249 = .ok (.aload_n 0, 1) := by decide +kernel
theorem dX8_day_250 : decode prog_10_method_66_code 250 = .ok (.getfield 25, 3) := by decide +kernel
theorem dX8_day_253 : decode prog_10_method_66_code 253 = .ok (.sipush 204, 3) := by decide +kernel
theorem dX8_day_256 : decode prog_10_method_66_code 256 = .ok (.iaload, 1) := by decide +kernel
theorem dX8_day_257 : decode prog_10_method_66_code 257 = .ok (.ireturn, 1) := by decide +kernel
theorem okM_X8_day : okM mX8_day 3 := ⟨tw1034, tw15, by decide, by decide, by decide +kernel⟩
abbrev KTX8_day : Type := (XW → Nat → Int32 → Int32 → Int32 → Int32 → Int32 → Option (Int32 × XW))
def bX8_day_257 (k : KTX8_day) (w : XW) (s0 : Int32) : Option (Int32 × XW) :=
  some (s0, w)
theorem BX8_day_257 {K : CX} {l : Launch} {n0 k0 : Nat} {k : KTX8_day} (hk0 : ∀ (w : XW) (l0 : Nat) (l1 : Int32) (l2 : Int32) (l3 : Int32) (l4 : Int32) (l5 : Int32) (q : Int32 × XW), k w l0 l1 l2 l3 l4 l5 = some q → WP K l mX8_day 6 140 n0 k0 (some (.int q.1)) q.2 52 [some (.ref l0), some (.int l1), some (.int l2), some (.int l3), some (.int l4), some (.int l5), none, none, none, none] [] w) {w : XW} {s0 : Int32} {q : Int32 × XW} (h0 : bX8_day_257 k w s0 = some q) : WP K l mX8_day 6 140 n0 k0 (some (.int q.1)) q.2 257 [none, none, none, none, none, none, none, none, none, none] [.int s0] w := by
  unfold bX8_day_257 at h0
  cases h0
  exact wp_iret rfl dX8_day_257
def bX8_day_219 (k : KTX8_day) (w : XW) (l0 : Nat) (l1 : Int32) (l2 : Int32) (l3 : Int32) (l4 : Int32) (l5 : Int32) : Option (Int32 × XW) :=
  k w l0 l1 l2 l3 l4 (l5 + (1 : Int32))
theorem BX8_day_219 {K : CX} {l : Launch} {n0 k0 : Nat} {k : KTX8_day} (hk0 : ∀ (w : XW) (l0 : Nat) (l1 : Int32) (l2 : Int32) (l3 : Int32) (l4 : Int32) (l5 : Int32) (q : Int32 × XW), k w l0 l1 l2 l3 l4 l5 = some q → WP K l mX8_day 6 140 n0 k0 (some (.int q.1)) q.2 52 [some (.ref l0), some (.int l1), some (.int l2), some (.int l3), some (.int l4), some (.int l5), none, none, none, none] [] w) {w : XW} {l0 : Nat} {l1 : Int32} {l2 : Int32} {l3 : Int32} {l4 : Int32} {l5 : Int32} {q : Int32 × XW} (h0 : bX8_day_219 k w l0 l1 l2 l3 l4 l5 = some q) : WP K l mX8_day 6 140 n0 k0 (some (.int q.1)) q.2 219 [some (.ref l0), some (.int l1), some (.int l2), some (.int l3), some (.int l4), some (.int l5), none, none, none, none] [] w := by
  unfold bX8_day_219 at h0
  refine wp_iinc (v := (l5 + (1 : Int32))) (L1 := [some (.ref l0), some (.int l1), some (.int l2), some (.int l3), some (.int l4), some (.int (l5 + (1 : Int32))), none, none, none, none]) dX8_day_219 (Nat.le_of_ble_eq_true rfl) rfl (congrArg (fun z => l5 + z) (by decide)) rfl ?_
  refine wp_goto (tgt := 52) dX8_day_222 (by decide) ?_
  exact WP.wk (hk0 _ _ _ _ _ _ _ _ h0) (And.intro rfl (And.intro rfl (And.intro rfl (And.intro rfl (And.intro rfl (And.intro rfl trivial))))))
def bX8_day_181 (k : KTX8_day) (w : XW) (l0 : Nat) (l1 : Int32) (l2 : Int32) (l3 : Int32) (l4 : Int32) (l5 : Int32) (l8 : Int32) : Option (Int32 × XW) :=
  if (irm l8 (4 : Int32)) = (3 : Int32) then
  (gR w l0 8 7).bind fun x2 =>
  (aI w 0 x2 (212 : Int32)).bind fun x5 =>
  if x5 ≤ (1 : Int32) then
  bX8_day_219 k w l0 l1 l2 l3 l4 l5
  else
  (gR w l0 8 7).bind fun x9 =>
  (aI w 0 x9 (212 : Int32)).bind fun x12 =>
  (fX8_moves w l0 (198 : Int32) (0 : Int32) (x12 - (1 : Int32))).bind fun q15 =>
  bX8_day_219 k q15 l0 l1 l2 l3 l4 l5
  else
  bX8_day_219 k w l0 l1 l2 l3 l4 l5
theorem BX8_day_181 {K : CX} {l : Launch} {n0 k0 : Nat} {k : KTX8_day} (hk0 : ∀ (w : XW) (l0 : Nat) (l1 : Int32) (l2 : Int32) (l3 : Int32) (l4 : Int32) (l5 : Int32) (q : Int32 × XW), k w l0 l1 l2 l3 l4 l5 = some q → WP K l mX8_day 6 140 n0 k0 (some (.int q.1)) q.2 52 [some (.ref l0), some (.int l1), some (.int l2), some (.int l3), some (.int l4), some (.int l5), none, none, none, none] [] w) {w : XW} {l0 : Nat} {l1 : Int32} {l2 : Int32} {l3 : Int32} {l4 : Int32} {l5 : Int32} {l8 : Int32} {q : Int32 × XW} (h0 : bX8_day_181 k w l0 l1 l2 l3 l4 l5 l8 = some q) : WP K l mX8_day 6 140 n0 k0 (some (.int q.1)) q.2 181 [some (.ref l0), some (.int l1), some (.int l2), some (.int l3), some (.int l4), some (.int l5), none, none, some (.int l8), none] [] w := by
  unfold bX8_day_181 at h0
  refine wp_iload dX8_day_181 rfl ?_
  refine wp_iconst (v := (4 : Int32)) dX8_day_183 (by decide) ?_
  refine wp_irm dX8_day_184 (by decide) ?_
  refine wp_iconst (v := (3 : Int32)) dX8_day_185 (by decide) ?_
  refine wp_icmp_ne (tgt := 219) dX8_day_186 (by decide) (fun c1 => ?_) (fun c1 => ?_)
  · rw [if_neg c1] at h0
    exact WP.wk (BX8_day_219 hk0 h0) (And.intro rfl (And.intro rfl (And.intro rfl (And.intro rfl (And.intro rfl (And.intro rfl trivial))))))
  · rw [if_pos c1] at h0
    refine wp_aload_n dX8_day_189 rfl ?_
    obtain ⟨x2, e4, h3⟩ := Option.bind_eq_some_iff.mp h0
    clear h0
    refine wp_getR okX8 (k := 7) (by decide) tw712 dX8_day_190 e4 ?_
    refine wp_sipush (v := (212 : Int32)) dX8_day_193 (by decide) ?_
    obtain ⟨x5, e7, h6⟩ := Option.bind_eq_some_iff.mp h3
    clear h3
    refine wp_iald dX8_day_196 e7 ?_
    refine wp_iconst (v := (1 : Int32)) dX8_day_197 (by decide) ?_
    refine wp_icmp_le (tgt := 219) dX8_day_198 (by decide) (fun c8 => ?_) (fun c8 => ?_)
    · rw [if_pos c8] at h6
      exact WP.wk (BX8_day_219 hk0 h6) (And.intro rfl (And.intro rfl (And.intro rfl (And.intro rfl (And.intro rfl (And.intro rfl trivial))))))
    · rw [if_neg c8] at h6
      refine wp_aload_n dX8_day_201 rfl ?_
      refine wp_sipush (v := (198 : Int32)) dX8_day_202 (by decide) ?_
      refine wp_iconst (v := (0 : Int32)) dX8_day_205 (by decide) ?_
      refine wp_aload_n dX8_day_206 rfl ?_
      obtain ⟨x9, e11, h10⟩ := Option.bind_eq_some_iff.mp h6
      clear h6
      refine wp_getR okX8 (k := 7) (by decide) tw712 dX8_day_207 e11 ?_
      refine wp_sipush (v := (212 : Int32)) dX8_day_210 (by decide) ?_
      obtain ⟨x12, e14, h13⟩ := Option.bind_eq_some_iff.mp h10
      clear h10
      refine wp_iald dX8_day_213 e14 ?_
      refine wp_iconst (v := (1 : Int32)) dX8_day_214 (by decide) ?_
      refine wp_isub dX8_day_215 ?_
      obtain ⟨q15, e17, h16⟩ := Option.bind_eq_some_iff.mp h13
      clear h13
      refine wp_Vv (As := [.int (198 : Int32), .int (0 : Int32), .int (x12 - (1 : Int32))]) (S := []) okM_X8_moves tw899 twP_X8_moves tw897 (OX8_moves e17) rfl rfl rfl ⟨(Nat.le_of_ble_eq_true rfl), (Nat.le_of_ble_eq_true rfl)⟩ (Nat.le_of_ble_eq_true rfl) rfl dX8_day_216 (MX8_moves e17) ?_
      exact WP.wk (BX8_day_219 hk0 h16) (And.intro rfl (And.intro rfl (And.intro rfl (And.intro rfl (And.intro rfl (And.intro rfl trivial))))))
def bX8_day_123 (k : KTX8_day) (w : XW) (l0 : Nat) (l1 : Int32) (l2 : Int32) (l3 : Int32) (l5 : Int32) (s0 : Int32) (s1 : Int32) : Option (Int32 × XW) :=
  bX8_day_219 k w l0 l1 l2 l3 (s0 + s1) l5
theorem BX8_day_123 {K : CX} {l : Launch} {n0 k0 : Nat} {k : KTX8_day} (hk0 : ∀ (w : XW) (l0 : Nat) (l1 : Int32) (l2 : Int32) (l3 : Int32) (l4 : Int32) (l5 : Int32) (q : Int32 × XW), k w l0 l1 l2 l3 l4 l5 = some q → WP K l mX8_day 6 140 n0 k0 (some (.int q.1)) q.2 52 [some (.ref l0), some (.int l1), some (.int l2), some (.int l3), some (.int l4), some (.int l5), none, none, none, none] [] w) {w : XW} {l0 : Nat} {l1 : Int32} {l2 : Int32} {l3 : Int32} {l5 : Int32} {s0 : Int32} {s1 : Int32} {q : Int32 × XW} (h0 : bX8_day_123 k w l0 l1 l2 l3 l5 s0 s1 = some q) : WP K l mX8_day 6 140 n0 k0 (some (.int q.1)) q.2 123 [some (.ref l0), some (.int l1), some (.int l2), some (.int l3), none, some (.int l5), none, none, none, none] [.int s1, .int s0] w := by
  unfold bX8_day_123 at h0
  refine wp_iadd dX8_day_123 ?_
  refine wp_istore (L1 := [some (.ref l0), some (.int l1), some (.int l2), some (.int l3), some (.int (s0 + s1)), some (.int l5), none, none, none, none]) dX8_day_124 (Nat.le_of_ble_eq_true rfl) rfl ?_
  refine wp_goto (tgt := 219) dX8_day_126 (by decide) ?_
  exact WP.wk (BX8_day_219 hk0 h0) (And.intro rfl (And.intro rfl (And.intro rfl (And.intro rfl (And.intro rfl (And.intro rfl trivial))))))
def bX8_day_36 (k : KTX8_day) (w : XW) : Option (Int32 × XW) :=
  some ((-1 : Int32), w)
theorem BX8_day_36 {K : CX} {l : Launch} {n0 k0 : Nat} {k : KTX8_day} (hk0 : ∀ (w : XW) (l0 : Nat) (l1 : Int32) (l2 : Int32) (l3 : Int32) (l4 : Int32) (l5 : Int32) (q : Int32 × XW), k w l0 l1 l2 l3 l4 l5 = some q → WP K l mX8_day 6 140 n0 k0 (some (.int q.1)) q.2 52 [some (.ref l0), some (.int l1), some (.int l2), some (.int l3), some (.int l4), some (.int l5), none, none, none, none] [] w) {w : XW} {q : Int32 × XW} (h0 : bX8_day_36 k w = some q) : WP K l mX8_day 6 140 n0 k0 (some (.int q.1)) q.2 36 [none, none, none, none, none, none, none, none, none, none] [] w := by
  unfold bX8_day_36 at h0
  refine wp_iconst (v := (-1 : Int32)) dX8_day_36 (by decide) ?_
  cases h0
  exact wp_iret rfl dX8_day_37
def hX8_day_52 (k : KTX8_day) (w : XW) (l0 : Nat) (l1 : Int32) (l2 : Int32) (l3 : Int32) (l4 : Int32) (l5 : Int32) : Option (Int32 × XW) :=
  if l2 ≤ l5 then
  if l3 = 0 then
  bX8_day_257 k w l4
  else
  if l3 = (1 : Int32) then
  (fX8_powersOf w l0 (198 : Int32)).bind fun q10 =>
  bX8_day_257 k q10.2 q10.1
  else
  (gR w l0 8 7).bind fun x4 =>
  (aI w 0 x4 (204 : Int32)).bind fun x7 =>
  bX8_day_257 k w x7
  else
  if (2 : Int32) ≤ (irm ((lrm (((((7919 : Int64) * (l1.toInt64)) + ((6151 : Int64) * (l5.toInt64))) + (1 : Int64)) * ((((7919 : Int64) * (l1.toInt64)) + ((6151 : Int64) * (l5.toInt64))) + (1 : Int64))) (65521 : Int64)).toInt32) (4 : Int32)) then
  if (irm ((lrm (((((7919 : Int64) * (l1.toInt64)) + ((6151 : Int64) * (l5.toInt64))) + (1 : Int64)) * ((((7919 : Int64) * (l1.toInt64)) + ((6151 : Int64) * (l5.toInt64))) + (1 : Int64))) (65521 : Int64)).toInt32) (4 : Int32)) = (2 : Int32) then
  (gR w l0 8 7).bind fun x15 =>
  (aI w 0 x15 ((198 : Int32) + (irm (((lrm (((((7919 : Int64) * (l1.toInt64)) + ((6151 : Int64) * (l5.toInt64))) + (1 : Int64)) * ((((7919 : Int64) * (l1.toInt64)) + ((6151 : Int64) * (l5.toInt64))) + (1 : Int64))) (65521 : Int64)).toInt32) / (8 : Int32)) (6 : Int32)))).bind fun x18 =>
  if (999 : Int32) ≤ x18 then
  bX8_day_181 k w l0 l1 l2 l3 l4 l5 ((lrm (((((7919 : Int64) * (l1.toInt64)) + ((6151 : Int64) * (l5.toInt64))) + (1 : Int64)) * ((((7919 : Int64) * (l1.toInt64)) + ((6151 : Int64) * (l5.toInt64))) + (1 : Int64))) (65521 : Int64)).toInt32)
  else
  (gR w l0 8 7).bind fun x22 =>
  (aI w 0 x22 ((198 : Int32) + (irm (((lrm (((((7919 : Int64) * (l1.toInt64)) + ((6151 : Int64) * (l5.toInt64))) + (1 : Int64)) * ((((7919 : Int64) * (l1.toInt64)) + ((6151 : Int64) * (l5.toInt64))) + (1 : Int64))) (65521 : Int64)).toInt32) / (8 : Int32)) (6 : Int32)))).bind fun x25 =>
  (sI w 0 x22 ((198 : Int32) + (irm (((lrm (((((7919 : Int64) * (l1.toInt64)) + ((6151 : Int64) * (l5.toInt64))) + (1 : Int64)) * ((((7919 : Int64) * (l1.toInt64)) + ((6151 : Int64) * (l5.toInt64))) + (1 : Int64))) (65521 : Int64)).toInt32) / (8 : Int32)) (6 : Int32))) (x25 + (1 : Int32))).bind fun w28 =>
  (gR w28 l0 8 7).bind fun x31 =>
  (sI w28 0 x31 (215 : Int32) (0 : Int32)).bind fun w34 =>
  bX8_day_219 k w34 l0 l1 l2 l3 l4 l5
  else
  bX8_day_181 k w l0 l1 l2 l3 l4 l5 ((lrm (((((7919 : Int64) * (l1.toInt64)) + ((6151 : Int64) * (l5.toInt64))) + (1 : Int64)) * ((((7919 : Int64) * (l1.toInt64)) + ((6151 : Int64) * (l5.toInt64))) + (1 : Int64))) (65521 : Int64)).toInt32)
  else
  (fX8_step w l0 (198 : Int32)).bind fun q37 =>
  if 0 ≤ q37.1 then
  bX8_day_123 k q37.2 l0 l1 l2 l3 l5 l4 (1 : Int32)
  else
  bX8_day_123 k q37.2 l0 l1 l2 l3 l5 l4 (0 : Int32)
theorem HX8_day_52 {K : CX} {l : Launch} {n0 k0 : Nat} {k : KTX8_day} (hk0 : ∀ (w : XW) (l0 : Nat) (l1 : Int32) (l2 : Int32) (l3 : Int32) (l4 : Int32) (l5 : Int32) (q : Int32 × XW), k w l0 l1 l2 l3 l4 l5 = some q → WP K l mX8_day 6 140 n0 k0 (some (.int q.1)) q.2 52 [some (.ref l0), some (.int l1), some (.int l2), some (.int l3), some (.int l4), some (.int l5), none, none, none, none] [] w) {w : XW} {l0 : Nat} {l1 : Int32} {l2 : Int32} {l3 : Int32} {l4 : Int32} {l5 : Int32} {q : Int32 × XW} (h0 : hX8_day_52 k w l0 l1 l2 l3 l4 l5 = some q) : WP K l mX8_day 6 140 n0 k0 (some (.int q.1)) q.2 52 [some (.ref l0), some (.int l1), some (.int l2), some (.int l3), some (.int l4), some (.int l5), none, none, none, none] [] w := by
  unfold hX8_day_52 at h0
  refine wp_iload dX8_day_52 rfl ?_
  refine wp_iload_n dX8_day_54 rfl ?_
  refine wp_icmp_ge (tgt := 225) dX8_day_55 (by decide) (fun c1 => ?_) (fun c1 => ?_)
  · rw [if_pos c1] at h0
    refine wp_iload_n dX8_day_225 rfl ?_
    refine wp_if_ne (tgt := 234) dX8_day_226 (by decide) (fun c2 => ?_) (fun c2 => ?_)
    · rw [if_neg c2] at h0
      refine wp_iload_n dX8_day_234 rfl ?_
      refine wp_iconst (v := (1 : Int32)) dX8_day_235 (by decide) ?_
      refine wp_icmp_ne (tgt := 249) dX8_day_236 (by decide) (fun c3 => ?_) (fun c3 => ?_)
      · rw [if_neg c3] at h0
        refine wp_aload_n dX8_day_249 rfl ?_
        obtain ⟨x4, e6, h5⟩ := Option.bind_eq_some_iff.mp h0
        clear h0
        refine wp_getR okX8 (k := 7) (by decide) tw712 dX8_day_250 e6 ?_
        refine wp_sipush (v := (204 : Int32)) dX8_day_253 (by decide) ?_
        obtain ⟨x7, e9, h8⟩ := Option.bind_eq_some_iff.mp h5
        clear h5
        refine wp_iald dX8_day_256 e9 ?_
        exact WP.wk (BX8_day_257 hk0 h8) trivial
      · rw [if_pos c3] at h0
        refine wp_aload_n dX8_day_239 rfl ?_
        refine wp_sipush (v := (198 : Int32)) dX8_day_240 (by decide) ?_
        obtain ⟨q10, e12, h11⟩ := Option.bind_eq_some_iff.mp h0
        clear h0
        refine wp_Vi (As := [.int (198 : Int32)]) (S := []) okM_X8_powersOf tw1042 twP_X8_powersOf tw1040 (OX8_powersOf e12) rfl rfl rfl ⟨(Nat.le_of_ble_eq_true rfl), (Nat.le_of_ble_eq_true rfl)⟩ (Nat.le_of_ble_eq_true rfl) rfl dX8_day_243 (MX8_powersOf e12) ?_
        refine wp_goto (tgt := 257) dX8_day_246 (by decide) ?_
        exact WP.wk (BX8_day_257 hk0 h11) trivial
    · rw [if_pos c2] at h0
      refine wp_iload dX8_day_229 rfl ?_
      refine wp_goto (tgt := 257) dX8_day_231 (by decide) ?_
      exact WP.wk (BX8_day_257 hk0 h0) trivial
  · rw [if_neg c1] at h0
    refine wp_ldc2 tw1037 dX8_day_58 ?_
    refine wp_iload_n dX8_day_61 rfl ?_
    refine wp_i2l dX8_day_62 ?_
    refine wp_lmul dX8_day_63 ?_
    refine wp_ldc2 tw1038 dX8_day_64 ?_
    refine wp_iload dX8_day_67 rfl ?_
    refine wp_i2l dX8_day_69 ?_
    refine wp_lmul dX8_day_70 ?_
    refine wp_ladd dX8_day_71 ?_
    refine wp_lconst (v := (1 : Int64)) dX8_day_72 (by decide) ?_
    refine wp_ladd dX8_day_73 ?_
    refine wp_lstore (L1 := [some (.ref l0), some (.int l1), some (.int l2), some (.int l3), some (.int l4), some (.int l5), some (.long ((((7919 : Int64) * (l1.toInt64)) + ((6151 : Int64) * (l5.toInt64))) + (1 : Int64))), none, none, none]) dX8_day_74 (Nat.le_of_ble_eq_true rfl) rfl ?_
    refine wp_lload dX8_day_76 rfl ?_
    refine wp_lload dX8_day_78 rfl ?_
    refine wp_lmul dX8_day_80 ?_
    refine wp_ldc2 tw1039 dX8_day_81 ?_
    refine wp_lrm dX8_day_84 (by decide) ?_
    refine wp_l2i dX8_day_85 ?_
    refine wp_istore (L1 := [some (.ref l0), some (.int l1), some (.int l2), some (.int l3), some (.int l4), some (.int l5), some (.long ((((7919 : Int64) * (l1.toInt64)) + ((6151 : Int64) * (l5.toInt64))) + (1 : Int64))), none, some (.int ((lrm (((((7919 : Int64) * (l1.toInt64)) + ((6151 : Int64) * (l5.toInt64))) + (1 : Int64)) * ((((7919 : Int64) * (l1.toInt64)) + ((6151 : Int64) * (l5.toInt64))) + (1 : Int64))) (65521 : Int64)).toInt32)), none]) dX8_day_86 (Nat.le_of_ble_eq_true rfl) rfl ?_
    refine wp_iload dX8_day_88 rfl ?_
    refine wp_bipush (v := (8 : Int32)) dX8_day_90 (by decide) ?_
    refine wp_idiv dX8_day_92 (by decide) ?_
    refine wp_bipush (v := (6 : Int32)) dX8_day_93 (by decide) ?_
    refine wp_irm dX8_day_95 (by decide) ?_
    refine wp_istore (L1 := [some (.ref l0), some (.int l1), some (.int l2), some (.int l3), some (.int l4), some (.int l5), some (.long ((((7919 : Int64) * (l1.toInt64)) + ((6151 : Int64) * (l5.toInt64))) + (1 : Int64))), none, some (.int ((lrm (((((7919 : Int64) * (l1.toInt64)) + ((6151 : Int64) * (l5.toInt64))) + (1 : Int64)) * ((((7919 : Int64) * (l1.toInt64)) + ((6151 : Int64) * (l5.toInt64))) + (1 : Int64))) (65521 : Int64)).toInt32)), some (.int (irm (((lrm (((((7919 : Int64) * (l1.toInt64)) + ((6151 : Int64) * (l5.toInt64))) + (1 : Int64)) * ((((7919 : Int64) * (l1.toInt64)) + ((6151 : Int64) * (l5.toInt64))) + (1 : Int64))) (65521 : Int64)).toInt32) / (8 : Int32)) (6 : Int32)))]) dX8_day_96 (Nat.le_of_ble_eq_true rfl) rfl ?_
    refine wp_iload dX8_day_98 rfl ?_
    refine wp_iconst (v := (4 : Int32)) dX8_day_100 (by decide) ?_
    refine wp_irm dX8_day_101 (by decide) ?_
    refine wp_iconst (v := (2 : Int32)) dX8_day_102 (by decide) ?_
    refine wp_icmp_ge (tgt := 129) dX8_day_103 (by decide) (fun c13 => ?_) (fun c13 => ?_)
    · rw [if_pos c13] at h0
      refine wp_iload dX8_day_129 rfl ?_
      refine wp_iconst (v := (4 : Int32)) dX8_day_131 (by decide) ?_
      refine wp_irm dX8_day_132 (by decide) ?_
      refine wp_iconst (v := (2 : Int32)) dX8_day_133 (by decide) ?_
      refine wp_icmp_ne (tgt := 181) dX8_day_134 (by decide) (fun c14 => ?_) (fun c14 => ?_)
      · rw [if_neg c14] at h0
        exact WP.wk (BX8_day_181 hk0 h0) (And.intro rfl (And.intro rfl (And.intro rfl (And.intro rfl (And.intro rfl (And.intro rfl (And.intro rfl trivial)))))))
      · rw [if_pos c14] at h0
        refine wp_aload_n dX8_day_137 rfl ?_
        obtain ⟨x15, e17, h16⟩ := Option.bind_eq_some_iff.mp h0
        clear h0
        refine wp_getR okX8 (k := 7) (by decide) tw712 dX8_day_138 e17 ?_
        refine wp_sipush (v := (198 : Int32)) dX8_day_141 (by decide) ?_
        refine wp_iload dX8_day_144 rfl ?_
        refine wp_iadd dX8_day_146 ?_
        obtain ⟨x18, e20, h19⟩ := Option.bind_eq_some_iff.mp h16
        clear h16
        refine wp_iald dX8_day_147 e20 ?_
        refine wp_sipush (v := (999 : Int32)) dX8_day_148 (by decide) ?_
        refine wp_icmp_ge (tgt := 181) dX8_day_151 (by decide) (fun c21 => ?_) (fun c21 => ?_)
        · rw [if_pos c21] at h19
          exact WP.wk (BX8_day_181 hk0 h19) (And.intro rfl (And.intro rfl (And.intro rfl (And.intro rfl (And.intro rfl (And.intro rfl (And.intro rfl trivial)))))))
        · rw [if_neg c21] at h19
          refine wp_aload_n dX8_day_154 rfl ?_
          obtain ⟨x22, e24, h23⟩ := Option.bind_eq_some_iff.mp h19
          clear h19
          refine wp_getR okX8 (k := 7) (by decide) tw712 dX8_day_155 e24 ?_
          refine wp_sipush (v := (198 : Int32)) dX8_day_158 (by decide) ?_
          refine wp_iload dX8_day_161 rfl ?_
          refine wp_iadd dX8_day_163 ?_
          refine wp_dup2 dX8_day_164 rfl rfl ?_
          obtain ⟨x25, e27, h26⟩ := Option.bind_eq_some_iff.mp h23
          clear h23
          refine wp_iald dX8_day_165 e27 ?_
          refine wp_iconst (v := (1 : Int32)) dX8_day_166 (by decide) ?_
          refine wp_iadd dX8_day_167 ?_
          obtain ⟨w28, e30, h29⟩ := Option.bind_eq_some_iff.mp h26
          clear h26
          refine wp_iast dX8_day_168 e30 ?_
          refine wp_aload_n dX8_day_169 rfl ?_
          obtain ⟨x31, e33, h32⟩ := Option.bind_eq_some_iff.mp h29
          clear h29
          refine wp_getR okX8 (k := 7) (by decide) tw712 dX8_day_170 e33 ?_
          refine wp_sipush (v := (215 : Int32)) dX8_day_173 (by decide) ?_
          refine wp_iconst (v := (0 : Int32)) dX8_day_176 (by decide) ?_
          obtain ⟨w34, e36, h35⟩ := Option.bind_eq_some_iff.mp h32
          clear h32
          refine wp_iast dX8_day_177 e36 ?_
          refine wp_goto (tgt := 219) dX8_day_178 (by decide) ?_
          exact WP.wk (BX8_day_219 hk0 h35) (And.intro rfl (And.intro rfl (And.intro rfl (And.intro rfl (And.intro rfl (And.intro rfl trivial))))))
    · rw [if_neg c13] at h0
      refine wp_iload dX8_day_106 rfl ?_
      refine wp_aload_n dX8_day_108 rfl ?_
      refine wp_sipush (v := (198 : Int32)) dX8_day_109 (by decide) ?_
      obtain ⟨q37, e39, h38⟩ := Option.bind_eq_some_iff.mp h0
      clear h0
      refine wp_Vi (As := [.int (198 : Int32)]) (S := [.int l4]) okM_X8_step tw881 twP_X8_step tw879 (OX8_step e39) rfl rfl rfl ⟨(Nat.le_of_ble_eq_true rfl), (Nat.le_of_ble_eq_true rfl)⟩ (Nat.le_of_ble_eq_true rfl) rfl dX8_day_112 (MX8_step e39) ?_
      refine wp_if_ge (tgt := 122) dX8_day_115 (by decide) (fun c40 => ?_) (fun c40 => ?_)
      · rw [if_pos c40] at h38
        refine wp_iconst (v := (1 : Int32)) dX8_day_122 (by decide) ?_
        exact WP.wk (BX8_day_123 hk0 h38) (And.intro rfl (And.intro rfl (And.intro rfl (And.intro rfl (And.intro rfl trivial)))))
      · rw [if_neg c40] at h38
        refine wp_iconst (v := (0 : Int32)) dX8_day_118 (by decide) ?_
        refine wp_goto (tgt := 123) dX8_day_119 (by decide) ?_
        exact WP.wk (BX8_day_123 hk0 h38) (And.intro rfl (And.intro rfl (And.intro rfl (And.intro rfl (And.intro rfl trivial)))))
def eX8_day (k : KTX8_day) (w : XW) (l0 : Nat) (l1 : Int32) (l2 : Int32) (l3 : Int32) : Option (Int32 × XW) :=
  (fX8_in w (l1.toInt64) (0 : Int64) (9999 : Int64)).bind fun q1 =>
  if q1.1 = 0 then
  bX8_day_36 k q1.2
  else
  (fX8_in q1.2 (l2.toInt64) (1 : Int64) (60 : Int64)).bind fun q5 =>
  if q5.1 = 0 then
  bX8_day_36 k q5.2
  else
  (fX8_in q5.2 (l3.toInt64) (0 : Int64) (2 : Int64)).bind fun q9 =>
  if q9.1 = 0 then
  bX8_day_36 k q9.2
  else
  (fX8_copies q9.2 l0 (0 : Int32) (198 : Int32)).bind fun q13 =>
  k q13 l0 l1 l2 l3 (0 : Int32) (0 : Int32)
theorem EX8_day {K : CX} {l : Launch} {n0 k0 : Nat} {k : KTX8_day} (hk0 : ∀ (w : XW) (l0 : Nat) (l1 : Int32) (l2 : Int32) (l3 : Int32) (l4 : Int32) (l5 : Int32) (q : Int32 × XW), k w l0 l1 l2 l3 l4 l5 = some q → WP K l mX8_day 6 140 n0 k0 (some (.int q.1)) q.2 52 [some (.ref l0), some (.int l1), some (.int l2), some (.int l3), some (.int l4), some (.int l5), none, none, none, none] [] w) {w : XW} {l0 : Nat} {l1 : Int32} {l2 : Int32} {l3 : Int32} {q : Int32 × XW} (h0 : eX8_day k w l0 l1 l2 l3 = some q) : WP K l mX8_day 6 140 n0 k0 (some (.int q.1)) q.2 0 [some (.ref l0), some (.int l1), some (.int l2), some (.int l3), none, none, none, none, none, none] [] w := by
  unfold eX8_day at h0
  refine wp_iload_n dX8_day_0 rfl ?_
  refine wp_i2l dX8_day_1 ?_
  refine wp_lconst (v := (0 : Int64)) dX8_day_2 (by decide) ?_
  refine wp_ldc2 tw1035 dX8_day_3 ?_
  obtain ⟨q1, e3, h2⟩ := Option.bind_eq_some_iff.mp h0
  clear h0
  refine wp_Si (As := [.long (l1.toInt64), .long (0 : Int64), .long (9999 : Int64)]) (S := []) okM_X8_in tw785 tw784 rfl ⟨(Nat.le_of_ble_eq_true rfl), (Nat.le_of_ble_eq_true rfl)⟩ (Nat.le_of_ble_eq_true rfl) rfl dX8_day_6 (MX8_in e3) ?_
  refine wp_if_eq (tgt := 36) dX8_day_9 (by decide) (fun c4 => ?_) (fun c4 => ?_)
  · rw [if_pos c4] at h2
    exact WP.wk (BX8_day_36 hk0 h2) trivial
  · rw [if_neg c4] at h2
    refine wp_iload_n dX8_day_12 rfl ?_
    refine wp_i2l dX8_day_13 ?_
    refine wp_lconst (v := (1 : Int64)) dX8_day_14 (by decide) ?_
    refine wp_ldc2 tw993 dX8_day_15 ?_
    obtain ⟨q5, e7, h6⟩ := Option.bind_eq_some_iff.mp h2
    clear h2
    refine wp_Si (As := [.long (l2.toInt64), .long (1 : Int64), .long (60 : Int64)]) (S := []) okM_X8_in tw785 tw784 rfl ⟨(Nat.le_of_ble_eq_true rfl), (Nat.le_of_ble_eq_true rfl)⟩ (Nat.le_of_ble_eq_true rfl) rfl dX8_day_18 (MX8_in e7) ?_
    refine wp_if_eq (tgt := 36) dX8_day_21 (by decide) (fun c8 => ?_) (fun c8 => ?_)
    · rw [if_pos c8] at h6
      exact WP.wk (BX8_day_36 hk0 h6) trivial
    · rw [if_neg c8] at h6
      refine wp_iload_n dX8_day_24 rfl ?_
      refine wp_i2l dX8_day_25 ?_
      refine wp_lconst (v := (0 : Int64)) dX8_day_26 (by decide) ?_
      refine wp_ldc2 tw1036 dX8_day_27 ?_
      obtain ⟨q9, e11, h10⟩ := Option.bind_eq_some_iff.mp h6
      clear h6
      refine wp_Si (As := [.long (l3.toInt64), .long (0 : Int64), .long (2 : Int64)]) (S := []) okM_X8_in tw785 tw784 rfl ⟨(Nat.le_of_ble_eq_true rfl), (Nat.le_of_ble_eq_true rfl)⟩ (Nat.le_of_ble_eq_true rfl) rfl dX8_day_30 (MX8_in e11) ?_
      refine wp_if_ne (tgt := 38) dX8_day_33 (by decide) (fun c12 => ?_) (fun c12 => ?_)
      · rw [if_neg c12] at h10
        refine wp_aload_n dX8_day_38 rfl ?_
        refine wp_iconst (v := (0 : Int32)) dX8_day_39 (by decide) ?_
        refine wp_sipush (v := (198 : Int32)) dX8_day_40 (by decide) ?_
        obtain ⟨q13, e15, h14⟩ := Option.bind_eq_some_iff.mp h10
        clear h10
        refine wp_Vv (As := [.int (0 : Int32), .int (198 : Int32)]) (S := []) okM_X8_copies tw877 twP_X8_copies tw875 (OX8_copies e15) rfl rfl rfl ⟨(Nat.le_of_ble_eq_true rfl), (Nat.le_of_ble_eq_true rfl)⟩ (Nat.le_of_ble_eq_true rfl) rfl dX8_day_43 (MX8_copies e15) ?_
        refine wp_iconst (v := (0 : Int32)) dX8_day_46 (by decide) ?_
        refine wp_istore (L1 := [some (.ref l0), some (.int l1), some (.int l2), some (.int l3), some (.int (0 : Int32)), none, none, none, none, none]) dX8_day_47 (Nat.le_of_ble_eq_true rfl) rfl ?_
        refine wp_iconst (v := (0 : Int32)) dX8_day_49 (by decide) ?_
        refine wp_istore (L1 := [some (.ref l0), some (.int l1), some (.int l2), some (.int l3), some (.int (0 : Int32)), some (.int (0 : Int32)), none, none, none, none]) dX8_day_50 (Nat.le_of_ble_eq_true rfl) rfl ?_
        exact WP.wk (hk0 _ _ _ _ _ _ _ _ h14) (And.intro rfl (And.intro rfl (And.intro rfl (And.intro rfl (And.intro rfl (And.intro rfl trivial))))))
      · rw [if_pos c12] at h10
        exact WP.wk (BX8_day_36 hk0 h10) trivial
def loX8_day : Nat → KTX8_day
  | 0 => fun _ _ _ _ _ _ _ => none
  | n + 1 => hX8_day_52 (loX8_day n)
theorem LOX8_day {K : CX} {l : Launch} {n0 k0 : Nat} : ∀ n : Nat, (∀ (w : XW) (l0 : Nat) (l1 : Int32) (l2 : Int32) (l3 : Int32) (l4 : Int32) (l5 : Int32) (q : Int32 × XW), (loX8_day n) w l0 l1 l2 l3 l4 l5 = some q → WP K l mX8_day 6 140 n0 k0 (some (.int q.1)) q.2 52 [some (.ref l0), some (.int l1), some (.int l2), some (.int l3), some (.int l4), some (.int l5), none, none, none, none] [] w) := by
  intro n
  induction n with
  | zero => exact fun _ _ _ _ _ _ _ q h => (by cases h)
  | succ n ih => exact fun _ _ _ _ _ _ _ q h => HX8_day_52 ih h
def fX8_day (w : XW) (l0 : Nat) (l1 : Int32) (l2 : Int32) (l3 : Int32) : Option (Int32 × XW) := if isO w l0 8 = true then eX8_day (loX8_day FU) w l0 l1 l2 l3 else none
theorem OX8_day {w : XW} {l0 : Nat} {l1 : Int32} {l2 : Int32} {l3 : Int32} {q : Int32 × XW} (h : fX8_day w l0 l1 l2 l3 = some q) : isO w l0 8 = true := Decidable.byContradiction fun z => by unfold fX8_day at h; rw [if_neg z] at h; cases h
theorem MX8_day {K : CX} {l : Launch} {w : XW} {l0 : Nat} {l1 : Int32} {l2 : Int32} {l3 : Int32} {q : Int32 × XW} (h : fX8_day w l0 l1 l2 l3 = some q) : MT K l mX8_day 6 140 [.ref l0, .int l1, .int l2, .int l3] w (some (.int q.1)) q.2 := by
  have z := OX8_day h
  unfold fX8_day at h
  rw [if_pos z] at h
  exact MT.of (by decide) (Nat.le_of_ble_eq_true rfl) rfl (EX8_day (LOX8_day FU) h)
/-! FractionRun$Text.copyFrom(LFractionRun$Text;)V: frames 1, words 26 -/
abbrev mX6_copyFrom : MR := (⟨"FractionRun$Text", "copyFrom", "(LFractionRun$Text;)V"⟩, prog_8_method_5_code, 2, none)
theorem dX6_copyFrom_0 : decode prog_8_method_5_code 0 = .ok (.aload_n 1, 1) := by decide +kernel
theorem dX6_copyFrom_1 : decode prog_8_method_5_code 1 = .ok (.getfield 9, 3) := by decide +kernel
theorem dX6_copyFrom_4 : decode prog_8_method_5_code 4 = .ok (.iconst 0, 1) := by decide +kernel
theorem dX6_copyFrom_5 : decode prog_8_method_5_code 5 = .ok (.aload_n 0, 1) := by decide +kernel
theorem dX6_copyFrom_6 : decode prog_8_method_5_code 6 = .ok (.getfield 9, 3) := by decide +kernel
theorem dX6_copyFrom_9 : decode prog_8_method_5_code 9 = .ok (.iconst 0, 1) := by decide +kernel
theorem dX6_copyFrom_10 : decode prog_8_method_5_code 10 = .ok (.sipush 200, 3) := by decide +kernel
theorem dX6_copyFrom_13 : decode prog_8_method_5_code 13 = .ok (.invokestatic 19, 3) := by decide +kernel
theorem dX6_copyFrom_16 : decode prog_8_method_5_code 16 = .ok (.aload_n 0, 1) := by decide +kernel
theorem dX6_copyFrom_17 : decode prog_8_method_5_code 17 = .ok (.aload_n 1, 1) := by decide +kernel
theorem dX6_copyFrom_18 : decode prog_8_method_5_code 18 = .ok (.getfield 15, 3) := by decide +kernel
theorem dX6_copyFrom_21 : decode prog_8_method_5_code 21 = .ok (.putfield 15, 3) := by decide +kernel
theorem dX6_copyFrom_24 : decode prog_8_method_5_code 24 = .ok (.return_, 1) := by decide +kernel
theorem okM_X6_copyFrom : okM mX6_copyFrom 1 := ⟨tw671, tw2, by decide, by decide, by decide +kernel⟩
def eX6_copyFrom (w : XW) (l0 : Nat) (l1 : Nat) : Option XW :=
  (gR w l1 6 0).bind fun x1 =>
  (gR w l0 6 0).bind fun x4 =>
  (cpI w 1 x1 (0 : Int32) x4 (0 : Int32) (200 : Int32)).bind fun w7 =>
  (gI w7 l1 6 1).bind fun x10 =>
  (pV w7 l0 6 1 (.int x10)).bind fun w13 =>
  some w13
theorem EX6_copyFrom {K : CX} {l : Launch} {n0 k0 : Nat} {w : XW} {l0 : Nat} {l1 : Nat} {q : XW} (h0 : eX6_copyFrom w l0 l1 = some q) : WP K l mX6_copyFrom 1 26 n0 k0 none q 0 [some (.ref l0), some (.ref l1)] [] w := by
  unfold eX6_copyFrom at h0
  refine wp_aload_n dX6_copyFrom_0 rfl ?_
  obtain ⟨x1, e3, h2⟩ := Option.bind_eq_some_iff.mp h0
  clear h0
  refine wp_getR okX6 (k := 0) (by decide) tw31 dX6_copyFrom_1 e3 ?_
  refine wp_iconst (v := (0 : Int32)) dX6_copyFrom_4 (by decide) ?_
  refine wp_aload_n dX6_copyFrom_5 rfl ?_
  obtain ⟨x4, e6, h5⟩ := Option.bind_eq_some_iff.mp h2
  clear h2
  refine wp_getR okX6 (k := 0) (by decide) tw31 dX6_copyFrom_6 e6 ?_
  refine wp_iconst (v := (0 : Int32)) dX6_copyFrom_9 (by decide) ?_
  refine wp_sipush (v := (200 : Int32)) dX6_copyFrom_10 (by decide) ?_
  obtain ⟨w7, e9, h8⟩ := Option.bind_eq_some_iff.mp h5
  clear h5
  refine wp_copy (t := 1) rfl (Or.inr ⟨rfl, rfl⟩) tw672 tw293 tw292 tw14 ⟨(Nat.le_of_ble_eq_true rfl), (Nat.le_of_ble_eq_true rfl)⟩ rfl dX6_copyFrom_13 e9 ?_
  refine wp_aload_n dX6_copyFrom_16 rfl ?_
  refine wp_aload_n dX6_copyFrom_17 rfl ?_
  obtain ⟨x10, e12, h11⟩ := Option.bind_eq_some_iff.mp h8
  clear h8
  refine wp_getI okX6 (k := 1) (by decide) tw32 dX6_copyFrom_18 e12 ?_
  obtain ⟨w13, e15, h14⟩ := Option.bind_eq_some_iff.mp h11
  clear h11
  refine wp_putV okX6 (k := 1) (by decide) rfl tw32 dX6_copyFrom_21 rfl rfl e15 ?_
  cases h14
  exact wp_vret rfl dX6_copyFrom_24
def fX6_copyFrom (w : XW) (l0 : Nat) (l1 : Nat) : Option XW := if isO w l0 6 = true then eX6_copyFrom w l0 l1 else none
theorem OX6_copyFrom {w : XW} {l0 : Nat} {l1 : Nat} {q : XW} (h : fX6_copyFrom w l0 l1 = some q) : isO w l0 6 = true := Decidable.byContradiction fun z => by unfold fX6_copyFrom at h; rw [if_neg z] at h; cases h
theorem MX6_copyFrom {K : CX} {l : Launch} {w : XW} {l0 : Nat} {l1 : Nat} {q : XW} (h : fX6_copyFrom w l0 l1 = some q) : MT K l mX6_copyFrom 1 26 [.ref l0, .ref l1] w none q := by
  have z := OX6_copyFrom h
  unfold fX6_copyFrom at h
  rw [if_pos z] at h
  exact MT.of (by decide) (Nat.le_of_ble_eq_true rfl) rfl (EX6_copyFrom h)
