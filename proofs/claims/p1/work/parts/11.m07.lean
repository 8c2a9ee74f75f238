/-! FractionRunModel.fraction(II)I: frames 4, words 93 -/
abbrev mX8_fraction_ : MR := (⟨"FractionRunModel", "fraction", "(II)I"⟩, prog_10_method_30_code, 3, (some .int))
theorem dX8_fraction__0 : decode prog_10_method_30_code 0 = .ok (.aload_n 0, 1) := by decide +kernel
theorem dX8_fraction__1 : decode prog_10_method_30_code 1 = .ok (.iload_n 1, 1) := by decide +kernel
theorem dX8_fraction__2 : decode prog_10_method_30_code 2 = .ok (.invokevirtual 158, 3) := by decide +kernel
theorem dX8_fraction__5 : decode prog_10_method_30_code 5 = .ok (.ifCond .eq 15, 3) := by decide +kernel
theorem dX8_fraction__8 : decode prog_10_method_30_code 8 = .ok (.iload_n 2, 1) := by decide +kernel
theorem dX8_fraction__9 : decode prog_10_method_30_code 9 = .ok (.i2l, 1) := by decide +kernel
theorem dX8_fraction__10 : decode prog_10_method_30_code 10 = .ok (.lconst 0, 1) := by decide +kernel
theorem dX8_fraction__11 : decode prog_10_method_30_code 11 = .ok (.ldc2_w 161, 3) := by decide +kernel
theorem dX8_fraction__14 : decode prog_10_method_30_code 14 = .ok (.invokestatic 88, 3) := by decide +kernel
theorem dX8_fraction__17 : decode prog_10_method_30_code 17 = .ok (.ifCond .ne 5, 3) := by decide +kernel
theorem dX8_fraction__20 : decode prog_10_method_30_code 20 = .ok (.iconst (-1), 1) := by decide +kernel
theorem dX8_fraction__21 : decode prog_10_method_30_code 21 = .ok (.ireturn, 1) := by decide +kernel
theorem dX8_fraction__22 : decode prog_10_method_30_code 22 = .ok (.iload_n 2, 1) := by decide +kernel
theorem dX8_fraction__23 : decode prog_10_method_30_code 23 = .ok (.ifCond .ne 12, 3) := by decide +kernel
theorem dX8_fraction__26 : decode prog_10_method_30_code 26 = .ok (.aload_n 0, 1) := by decide +kernel
theorem dX8_fraction__27 : decode prog_10_method_30_code 27 = .ok (.getfield 7, 3) := by decide +kernel
theorem dX8_fraction__30 : decode prog_10_method_30_code 30 = .ok (.iload_n 1, 1) := by decide +kernel
theorem dX8_fraction__31 : decode prog_10_method_30_code 31 = .ok (.iaload, 1) := by decide +kernel
theorem dX8_fraction__32 : decode prog_10_method_30_code 32 = .ok (.goto 87, 3) := by decide +kernel
theorem dX8_fraction__35 : decode prog_10_method_30_code 35 = .ok (.iload_n 2, 1) := by decide +kernel
theorem dX8_fraction__36 : decode prog_10_method_30_code 36 = .ok (.iconst 1, 1) := by decide +kernel
theorem dX8_fraction__37 : decode prog_10_method_30_code 37 = .ok (.if_icmp .ne 12, 3) := by decide +kernel
theorem dX8_fraction__40 : decode prog_10_method_30_code 40 = .ok (.aload_n 0, 1) := by decide +kernel
theorem dX8_fraction__41 : decode prog_10_method_30_code 41 = .ok (.iload_n 1, 1) := by decide +kernel
theorem dX8_fraction__42 : decode prog_10_method_30_code 42 = .ok (.iconst 1, 1) := by decide +kernel
theorem dX8_fraction__43 : decode prog_10_method_30_code 43 = .ok (.invokevirtual 163, 3) := by decide +kernel
theorem dX8_fraction__46 : decode prog_10_method_30_code 46 = .ok (.goto 73, 3) := by decide +kernel
theorem dX8_fraction__49 : decode prog_10_method_30_code 49 = .ok (.iload_n 2, 1) := by decide +kernel
theorem dX8_fraction__50 : decode prog_10_method_30_code 50 = .ok (.iconst 2, 1) := by decide +kernel
theorem dX8_fraction__51 : decode prog_10_method_30_code 51 = .ok (.if_icmp .ne 12, 3) := by decide +kernel
theorem dX8_fraction__54 : decode prog_10_method_30_code 54 = .ok (.aload_n 0, 1) := by decide +kernel
theorem dX8_fraction__55 : decode prog_10_method_30_code 55 = .ok (.iload_n 1, 1) := by decide +kernel
theorem dX8_fraction__56 : decode prog_10_method_30_code 56 = .ok (.iconst 0, 1) := by decide +kernel
theorem dX8_fraction__57 : decode prog_10_method_30_code 57 = .ok (.invokevirtual 163, 3) := by decide +kernel
theorem dX8_fraction__60 : decode prog_10_method_30_code 60 = .ok (.goto 59, 3) := by decide +kernel
theorem dX8_fraction__63 : decode prog_10_method_30_code 63 = .ok (.iload_n 2, 1) := by decide +kernel
theorem dX8_fraction__64 : decode prog_10_method_30_code 64 = .ok (.iconst 3, 1) := by decide +kernel
theorem dX8_fraction__65 : decode prog_10_method_30_code 65 = .ok (.if_icmp .ne 12, 3) := by decide +kernel
theorem dX8_fraction__68 : decode prog_10_method_30_code 68 = .ok (.aload_n 0, 1) := by decide +kernel
theorem dX8_fraction__69 : decode prog_10_method_30_code 69 = .ok (.iconst 0, 1) := by decide +kernel
theorem dX8_fraction__70 : decode prog_10_method_30_code 70 = .ok (.iload_n 1, 1) := by decide +kernel
theorem dX8_fraction__71 : decode prog_10_method_30_code 71 = .ok (.invokevirtual 167, 3) := by decide +kernel
theorem dX8_fraction__74 : decode prog_10_method_30_code 74 = .ok (.goto 45, 3) := by decide +kernel
theorem dX8_fraction__77 : decode prog_10_method_30_code 77 = .ok (.iload_n 2, 1) := by decide +kernel
theorem dX8_fraction__78 : decode prog_10_method_30_code 78 = .ok (.iconst 4, 1) := by decide +kernel
theorem dX8_fraction__79 : decode prog_10_method_30_code 79 = .ok (.if_icmp .ne 17, 3) := by decide +kernel
theorem dX8_fraction__82 : decode prog_10_method_30_code 82 = .ok (.aload_n 0, 1) := by decide +kernel
theorem dX8_fraction__83 : decode prog_10_method_30_code 83 = .ok (.getfield 25, 3) := by decide +kernel
theorem dX8_fraction__86 : decode prog_10_method_30_code 86 = .ok (.bipush 15, 2) := by decide +kernel
theorem dX8_fraction__88 : decode prog_10_method_30_code 88 = .ok (.iaload, 1) := by decide +kernel
theorem dX8_fraction__89 : decode prog_10_method_30_code 89 = .ok (.iload_n 1, 1) := by decide +kernel
theorem dX8_fraction__90 : decode prog_10_method_30_code 90 = .ok (.ishr, 1) := by decide +kernel
theorem dX8_fraction__91 : decode prog_10_method_30_code 91 = .ok (.iconst 1, 1) := by decide +kernel
theorem dX8_fraction__92 : decode prog_10_method_30_code 92 = .ok (.iand, 1) := by decide +kernel
theorem dX8_fraction__93 : decode prog_10_method_30_code 93 = .ok (.goto 26, 3) := by decide +kernel
theorem dX8_fraction__96 : decode prog_10_method_30_code 96 = .ok (.aload_n 0, 1) := by decide +kernel
theorem dX8_fraction__97 : decode prog_10_method_30_code 97 = .ok (.iconst 0, 1) := by decide +kernel
theorem dX8_fraction__98 : decode prog_10_method_30_code 98 = .ok (.iload_n 1, 1) := by decide +kernel
theorem dX8_fraction__99 : decode prog_10_method_30_code 99 = .ok (.invokevirtual 167, 3) := by decide +kernel
theorem dX8_fraction__102 : decode prog_10_method_30_code 102 = .ok (.ifCond .lt 16, 3) := by decide +kernel
theorem dX8_fraction__105 : decode prog_10_method_30_code 105 = .ok (.aload_n 0, 1) := by decide +kernel
theorem dX8_fraction__106 : decode prog_10_method_30_code 106 = .ok (.iconst 0, 1) := by decide +kernel
theorem dX8_fraction__107 : decode prog_10_method_30_code 107 = .ok (.iload_n 1, 1) := by decide +kernel
theorem dX8_fraction__108 : decode prog_10_method_30_code 108 = .ok (.invokevirtual 142, 3) := by decide +kernel
theorem dX8_fraction__111 : decode prog_10_method_30_code 111 = .ok (.ifCond .eq 7, 3) := by decide +kernel
theorem dX8_fraction__114 : decode prog_10_method_30_code 114 = .ok (.iconst 1, 1) := by decide +kernel
theorem dX8_fraction__115 : decode prog_10_method_30_code 115 = .ok (.goto 4, 3) := by decide +kernel
theorem dX8_fraction__118 : decode prog_10_method_30_code 118 = .ok (.iconst 0, 1) := by decide +kernel
theorem dX8_fraction__119 : decode prog_10_method_30_code 119 = .ok (.ireturn, 1) := by decide +kernel
theorem okM_X8_fraction_ : okM mX8_fraction_ 2 := ⟨tw832, tw15, by decide, by decide, by decide +kernel⟩
def bX8_fraction__119 (w : XW) (s0 : Int32) : Option (Int32 × XW) :=
  some (s0, w)
theorem BX8_fraction__119 {K : CX} {l : Launch} {n0 k0 : Nat} {w : XW} {s0 : Int32} {q : Int32 × XW} (h0 : bX8_fraction__119 w s0 = some q) : WP K l mX8_fraction_ 4 93 n0 k0 (some (.int q.1)) q.2 119 [none, none, none] [.int s0] w := by
  unfold bX8_fraction__119 at h0
  cases h0
  exact wp_iret rfl dX8_fraction__119
def bX8_fraction__118 (w : XW) : Option (Int32 × XW) :=
  bX8_fraction__119 w (0 : Int32)
theorem BX8_fraction__118 {K : CX} {l : Launch} {n0 k0 : Nat} {w : XW} {q : Int32 × XW} (h0 : bX8_fraction__118 w = some q) : WP K l mX8_fraction_ 4 93 n0 k0 (some (.int q.1)) q.2 118 [none, none, none] [] w := by
  unfold bX8_fraction__118 at h0
  refine wp_iconst (v := (0 : Int32)) dX8_fraction__118 (by decide) ?_
  exact WP.wk (BX8_fraction__119 h0) trivial
def bX8_fraction__20 (w : XW) : Option (Int32 × XW) :=
  some ((-1 : Int32), w)
theorem BX8_fraction__20 {K : CX} {l : Launch} {n0 k0 : Nat} {w : XW} {q : Int32 × XW} (h0 : bX8_fraction__20 w = some q) : WP K l mX8_fraction_ 4 93 n0 k0 (some (.int q.1)) q.2 20 [none, none, none] [] w := by
  unfold bX8_fraction__20 at h0
  refine wp_iconst (v := (-1 : Int32)) dX8_fraction__20 (by decide) ?_
  cases h0
  exact wp_iret rfl dX8_fraction__21
def eX8_fraction_ (w : XW) (l0 : Nat) (l1 : Int32) (l2 : Int32) : Option (Int32 × XW) :=
  (fX8_isFraction w l0 l1).bind fun q1 =>
  if q1.1 = 0 then
  bX8_fraction__20 q1.2
  else
  (fX8_in q1.2 (l2.toInt64) (0 : Int64) (5 : Int64)).bind fun q5 =>
  if q5.1 = 0 then
  bX8_fraction__20 q5.2
  else
  if l2 = 0 then
  (gR q5.2 l0 8 1).bind fun x37 =>
  (aI q5.2 0 x37 l1).bind fun x40 =>
  bX8_fraction__119 q5.2 x40
  else
  if l2 = (1 : Int32) then
  (fX8_side q5.2 l0 l1 (1 : Int32)).bind fun q34 =>
  bX8_fraction__119 q34.2 q34.1
  else
  if l2 = (2 : Int32) then
  (fX8_side q5.2 l0 l1 (0 : Int32)).bind fun q31 =>
  bX8_fraction__119 q31.2 q31.1
  else
  if l2 = (3 : Int32) then
  (fX8_placeOf q5.2 l0 (0 : Int32) l1).bind fun q28 =>
  bX8_fraction__119 q28.2 q28.1
  else
  if l2 = (4 : Int32) then
  (gR q5.2 l0 8 7).bind fun x22 =>
  (aI q5.2 0 x22 (15 : Int32)).bind fun x25 =>
  bX8_fraction__119 q5.2 ((x25 >>> (l1 &&& 31)) &&& (1 : Int32))
  else
  (fX8_placeOf q5.2 l0 (0 : Int32) l1).bind fun q14 =>
  if q14.1 < 0 then
  bX8_fraction__118 q14.2
  else
  (fX8_can q14.2 l0 (0 : Int32) l1).bind fun q18 =>
  if q18.1 = 0 then
  bX8_fraction__118 q18.2
  else
  bX8_fraction__119 q18.2 (1 : Int32)
theorem EX8_fraction_ {K : CX} {l : Launch} {n0 k0 : Nat} {w : XW} {l0 : Nat} {l1 : Int32} {l2 : Int32} {q : Int32 × XW} (h0 : eX8_fraction_ w l0 l1 l2 = some q) : WP K l mX8_fraction_ 4 93 n0 k0 (some (.int q.1)) q.2 0 [some (.ref l0), some (.int l1), some (.int l2)] [] w := by
  unfold eX8_fraction_ at h0
  refine wp_aload_n dX8_fraction__0 rfl ?_
  refine wp_iload_n dX8_fraction__1 rfl ?_
  obtain ⟨q1, e3, h2⟩ := Option.bind_eq_some_iff.mp h0
  clear h0
  refine wp_Vi (As := [.int l1]) (S := []) okM_X8_isFraction tw835 twP_X8_isFraction tw833 (OX8_isFraction e3) rfl rfl rfl ⟨(Nat.le_of_ble_eq_true rfl), (Nat.le_of_ble_eq_true rfl)⟩ (Nat.le_of_ble_eq_true rfl) rfl dX8_fraction__2 (MX8_isFraction e3) ?_
  refine wp_if_eq (tgt := 20) dX8_fraction__5 (by decide) (fun c4 => ?_) (fun c4 => ?_)
  · rw [if_pos c4] at h2
    exact WP.wk (BX8_fraction__20 h2) trivial
  · rw [if_neg c4] at h2
    refine wp_iload_n dX8_fraction__8 rfl ?_
    refine wp_i2l dX8_fraction__9 ?_
    refine wp_lconst (v := (0 : Int64)) dX8_fraction__10 (by decide) ?_
    refine wp_ldc2 tw837 dX8_fraction__11 ?_
    obtain ⟨q5, e7, h6⟩ := Option.bind_eq_some_iff.mp h2
    clear h2
    refine wp_Si (As := [.long (l2.toInt64), .long (0 : Int64), .long (5 : Int64)]) (S := []) okM_X8_in tw785 tw784 rfl ⟨(Nat.le_of_ble_eq_true rfl), (Nat.le_of_ble_eq_true rfl)⟩ (Nat.le_of_ble_eq_true rfl) rfl dX8_fraction__14 (MX8_in e7) ?_
    refine wp_if_ne (tgt := 22) dX8_fraction__17 (by decide) (fun c8 => ?_) (fun c8 => ?_)
    · rw [if_neg c8] at h6
      refine wp_iload_n dX8_fraction__22 rfl ?_
      refine wp_if_ne (tgt := 35) dX8_fraction__23 (by decide) (fun c9 => ?_) (fun c9 => ?_)
      · rw [if_neg c9] at h6
        refine wp_iload_n dX8_fraction__35 rfl ?_
        refine wp_iconst (v := (1 : Int32)) dX8_fraction__36 (by decide) ?_
        refine wp_icmp_ne (tgt := 49) dX8_fraction__37 (by decide) (fun c10 => ?_) (fun c10 => ?_)
        · rw [if_neg c10] at h6
          refine wp_iload_n dX8_fraction__49 rfl ?_
          refine wp_iconst (v := (2 : Int32)) dX8_fraction__50 (by decide) ?_
          refine wp_icmp_ne (tgt := 63) dX8_fraction__51 (by decide) (fun c11 => ?_) (fun c11 => ?_)
          · rw [if_neg c11] at h6
            refine wp_iload_n dX8_fraction__63 rfl ?_
            refine wp_iconst (v := (3 : Int32)) dX8_fraction__64 (by decide) ?_
            refine wp_icmp_ne (tgt := 77) dX8_fraction__65 (by decide) (fun c12 => ?_) (fun c12 => ?_)
            · rw [if_neg c12] at h6
              refine wp_iload_n dX8_fraction__77 rfl ?_
              refine wp_iconst (v := (4 : Int32)) dX8_fraction__78 (by decide) ?_
              refine wp_icmp_ne (tgt := 96) dX8_fraction__79 (by decide) (fun c13 => ?_) (fun c13 => ?_)
              · rw [if_neg c13] at h6
                refine wp_aload_n dX8_fraction__96 rfl ?_
                refine wp_iconst (v := (0 : Int32)) dX8_fraction__97 (by decide) ?_
                refine wp_iload_n dX8_fraction__98 rfl ?_
                obtain ⟨q14, e16, h15⟩ := Option.bind_eq_some_iff.mp h6
                clear h6
                refine wp_Vi (As := [.int (0 : Int32), .int l1]) (S := []) okM_X8_placeOf tw844 twP_X8_placeOf tw842 (OX8_placeOf e16) rfl rfl rfl ⟨(Nat.le_of_ble_eq_true rfl), (Nat.le_of_ble_eq_true rfl)⟩ (Nat.le_of_ble_eq_true rfl) rfl dX8_fraction__99 (MX8_placeOf e16) ?_
                refine wp_if_lt (tgt := 118) dX8_fraction__102 (by decide) (fun c17 => ?_) (fun c17 => ?_)
                · rw [if_pos c17] at h15
                  exact WP.wk (BX8_fraction__118 h15) trivial
                · rw [if_neg c17] at h15
                  refine wp_aload_n dX8_fraction__105 rfl ?_
                  refine wp_iconst (v := (0 : Int32)) dX8_fraction__106 (by decide) ?_
                  refine wp_iload_n dX8_fraction__107 rfl ?_
                  obtain ⟨q18, e20, h19⟩ := Option.bind_eq_some_iff.mp h15
                  clear h15
                  refine wp_Vi (As := [.int (0 : Int32), .int l1]) (S := []) okM_X8_can tw848 twP_X8_can tw846 (OX8_can e20) rfl rfl rfl ⟨(Nat.le_of_ble_eq_true rfl), (Nat.le_of_ble_eq_true rfl)⟩ (Nat.le_of_ble_eq_true rfl) rfl dX8_fraction__108 (MX8_can e20) ?_
                  refine wp_if_eq (tgt := 118) dX8_fraction__111 (by decide) (fun c21 => ?_) (fun c21 => ?_)
                  · rw [if_pos c21] at h19
                    exact WP.wk (BX8_fraction__118 h19) trivial
                  · rw [if_neg c21] at h19
                    refine wp_iconst (v := (1 : Int32)) dX8_fraction__114 (by decide) ?_
                    refine wp_goto (tgt := 119) dX8_fraction__115 (by decide) ?_
                    exact WP.wk (BX8_fraction__119 h19) trivial
              · rw [if_pos c13] at h6
                refine wp_aload_n dX8_fraction__82 rfl ?_
                obtain ⟨x22, e24, h23⟩ := Option.bind_eq_some_iff.mp h6
                clear h6
                refine wp_getR okX8 (k := 7) (by decide) tw712 dX8_fraction__83 e24 ?_
                refine wp_bipush (v := (15 : Int32)) dX8_fraction__86 (by decide) ?_
                obtain ⟨x25, e27, h26⟩ := Option.bind_eq_some_iff.mp h23
                clear h23
                refine wp_iald dX8_fraction__88 e27 ?_
                refine wp_iload_n dX8_fraction__89 rfl ?_
                refine wp_ishr dX8_fraction__90 ?_
                refine wp_iconst (v := (1 : Int32)) dX8_fraction__91 (by decide) ?_
                refine wp_iand dX8_fraction__92 ?_
                refine wp_goto (tgt := 119) dX8_fraction__93 (by decide) ?_
                exact WP.wk (BX8_fraction__119 h26) trivial
            · rw [if_pos c12] at h6
              refine wp_aload_n dX8_fraction__68 rfl ?_
              refine wp_iconst (v := (0 : Int32)) dX8_fraction__69 (by decide) ?_
              refine wp_iload_n dX8_fraction__70 rfl ?_
              obtain ⟨q28, e30, h29⟩ := Option.bind_eq_some_iff.mp h6
              clear h6
              refine wp_Vi (As := [.int (0 : Int32), .int l1]) (S := []) okM_X8_placeOf tw844 twP_X8_placeOf tw842 (OX8_placeOf e30) rfl rfl rfl ⟨(Nat.le_of_ble_eq_true rfl), (Nat.le_of_ble_eq_true rfl)⟩ (Nat.le_of_ble_eq_true rfl) rfl dX8_fraction__71 (MX8_placeOf e30) ?_
              refine wp_goto (tgt := 119) dX8_fraction__74 (by decide) ?_
              exact WP.wk (BX8_fraction__119 h29) trivial
          · rw [if_pos c11] at h6
            refine wp_aload_n dX8_fraction__54 rfl ?_
            refine wp_iload_n dX8_fraction__55 rfl ?_
            refine wp_iconst (v := (0 : Int32)) dX8_fraction__56 (by decide) ?_
            obtain ⟨q31, e33, h32⟩ := Option.bind_eq_some_iff.mp h6
            clear h6
            refine wp_Vi (As := [.int l1, .int (0 : Int32)]) (S := []) okM_X8_side tw840 twP_X8_side tw838 (OX8_side e33) rfl rfl rfl ⟨(Nat.le_of_ble_eq_true rfl), (Nat.le_of_ble_eq_true rfl)⟩ (Nat.le_of_ble_eq_true rfl) rfl dX8_fraction__57 (MX8_side e33) ?_
            refine wp_goto (tgt := 119) dX8_fraction__60 (by decide) ?_
            exact WP.wk (BX8_fraction__119 h32) trivial
        · rw [if_pos c10] at h6
          refine wp_aload_n dX8_fraction__40 rfl ?_
          refine wp_iload_n dX8_fraction__41 rfl ?_
          refine wp_iconst (v := (1 : Int32)) dX8_fraction__42 (by decide) ?_
          obtain ⟨q34, e36, h35⟩ := Option.bind_eq_some_iff.mp h6
          clear h6
          refine wp_Vi (As := [.int l1, .int (1 : Int32)]) (S := []) okM_X8_side tw840 twP_X8_side tw838 (OX8_side e36) rfl rfl rfl ⟨(Nat.le_of_ble_eq_true rfl), (Nat.le_of_ble_eq_true rfl)⟩ (Nat.le_of_ble_eq_true rfl) rfl dX8_fraction__43 (MX8_side e36) ?_
          refine wp_goto (tgt := 119) dX8_fraction__46 (by decide) ?_
          exact WP.wk (BX8_fraction__119 h35) trivial
      · rw [if_pos c9] at h6
        refine wp_aload_n dX8_fraction__26 rfl ?_
        obtain ⟨x37, e39, h38⟩ := Option.bind_eq_some_iff.mp h6
        clear h6
        refine wp_getR okX8 (k := 1) (by decide) tw706 dX8_fraction__27 e39 ?_
        refine wp_iload_n dX8_fraction__30 rfl ?_
        obtain ⟨x40, e42, h41⟩ := Option.bind_eq_some_iff.mp h38
        clear h38
        refine wp_iald dX8_fraction__31 e42 ?_
        refine wp_goto (tgt := 119) dX8_fraction__32 (by decide) ?_
        exact WP.wk (BX8_fraction__119 h41) trivial
    · rw [if_pos c8] at h6
      exact WP.wk (BX8_fraction__20 h6) trivial
def fX8_fraction_ (w : XW) (l0 : Nat) (l1 : Int32) (l2 : Int32) : Option (Int32 × XW) := if isO w l0 8 = true then eX8_fraction_ w l0 l1 l2 else none
theorem OX8_fraction_ {w : XW} {l0 : Nat} {l1 : Int32} {l2 : Int32} {q : Int32 × XW} (h : fX8_fraction_ w l0 l1 l2 = some q) : isO w l0 8 = true := Decidable.byContradiction fun z => by unfold fX8_fraction_ at h; rw [if_neg z] at h; cases h
theorem MX8_fraction_ {K : CX} {l : Launch} {w : XW} {l0 : Nat} {l1 : Int32} {l2 : Int32} {q : Int32 × XW} (h : fX8_fraction_ w l0 l1 l2 = some q) : MT K l mX8_fraction_ 4 93 [.ref l0, .int l1, .int l2] w (some (.int q.1)) q.2 := by
  have z := OX8_fraction_ h
  unfold fX8_fraction_ at h
  rw [if_pos z] at h
  exact MT.of (by decide) (Nat.le_of_ble_eq_true rfl) rfl (EX8_fraction_ h)
/-! FractionRun.isPrime(I)Z: frames 1, words 20 -/
abbrev mX7_isPrime : MR := (⟨"FractionRun", "isPrime", "(I)Z"⟩, prog_1_method_34_code, 1, (some .boolean))
theorem dX7_isPrime_0 : decode prog_1_method_34_code 0 = .ok (.iload_n 0, 1) := by decide +kernel
theorem dX7_isPrime_1 : decode prog_1_method_34_code 1 = .ok (.ifCond .lt 13, 3) := by decide +kernel
theorem dX7_isPrime_4 : decode prog_1_method_34_code 4 = .ok (.iload_n 0, 1) := by decide +kernel
theorem dX7_isPrime_5 : decode prog_1_method_34_code 5 = .ok (.bipush 6, 2) := by decide +kernel
theorem dX7_isPrime_7 : decode prog_1_method_34_code 7 = .ok (.if_icmp .ge 7, 3) := by decide +kernel
theorem dX7_isPrime_10 : decode prog_1_method_34_code 10 = .ok (.iconst 1, 1) := by decide +kernel
theorem dX7_isPrime_11 : decode prog_1_method_34_code 11 = .ok (.goto 4, 3) := by decide +kernel
theorem dX7_isPrime_14 : decode prog_1_method_34_code 14 = .ok (.iconst 0, 1) := by decide +kernel
theorem dX7_isPrime_15 : decode prog_1_method_34_code 15 = .ok (.ireturn, 1) := by decide +kernel
theorem okM_X7_isPrime : okM mX7_isPrime 1 := ⟨tw400, tw1, by decide, by decide, by decide +kernel⟩
def bX7_isPrime_15 (w : XW) (s0 : Int32) : Option (Int32 × XW) :=
  if s0 &&& 1 = s0 then some (s0, w) else none
theorem BX7_isPrime_15 {K : CX} {l : Launch} {n0 k0 : Nat} {w : XW} {s0 : Int32} {q : Int32 × XW} (h0 : bX7_isPrime_15 w s0 = some q) : WP K l mX7_isPrime 1 20 n0 k0 (some (.int q.1)) q.2 15 [none] [.int s0] w := by
  unfold bX7_isPrime_15 at h0
  have c1 : s0 &&& 1 = s0 := Decidable.byContradiction fun z => by rw [if_neg z] at h0; cases h0
  rw [if_pos c1] at h0
  cases h0
  exact wp_zret rfl (zb_n c1) dX7_isPrime_15
def bX7_isPrime_14 (w : XW) : Option (Int32 × XW) :=
  bX7_isPrime_15 w (0 : Int32)
theorem BX7_isPrime_14 {K : CX} {l : Launch} {n0 k0 : Nat} {w : XW} {q : Int32 × XW} (h0 : bX7_isPrime_14 w = some q) : WP K l mX7_isPrime 1 20 n0 k0 (some (.int q.1)) q.2 14 [none] [] w := by
  unfold bX7_isPrime_14 at h0
  refine wp_iconst (v := (0 : Int32)) dX7_isPrime_14 (by decide) ?_
  exact WP.wk (BX7_isPrime_15 h0) trivial
def eX7_isPrime (w : XW) (l0 : Int32) : Option (Int32 × XW) :=
  if l0 < 0 then
  bX7_isPrime_14 w
  else
  if (6 : Int32) ≤ l0 then
  bX7_isPrime_14 w
  else
  bX7_isPrime_15 w (1 : Int32)
theorem EX7_isPrime {K : CX} {l : Launch} {n0 k0 : Nat} {w : XW} {l0 : Int32} {q : Int32 × XW} (h0 : eX7_isPrime w l0 = some q) : WP K l mX7_isPrime 1 20 n0 k0 (some (.int q.1)) q.2 0 [some (.int l0)] [] w := by
  unfold eX7_isPrime at h0
  refine wp_iload_n dX7_isPrime_0 rfl ?_
  refine wp_if_lt (tgt := 14) dX7_isPrime_1 (by decide) (fun c1 => ?_) (fun c1 => ?_)
  · rw [if_pos c1] at h0
    exact WP.wk (BX7_isPrime_14 h0) trivial
  · rw [if_neg c1] at h0
    refine wp_iload_n dX7_isPrime_4 rfl ?_
    refine wp_bipush (v := (6 : Int32)) dX7_isPrime_5 (by decide) ?_
    refine wp_icmp_ge (tgt := 14) dX7_isPrime_7 (by decide) (fun c2 => ?_) (fun c2 => ?_)
    · rw [if_pos c2] at h0
      exact WP.wk (BX7_isPrime_14 h0) trivial
    · rw [if_neg c2] at h0
      refine wp_iconst (v := (1 : Int32)) dX7_isPrime_10 (by decide) ?_
      refine wp_goto (tgt := 15) dX7_isPrime_11 (by decide) ?_
      exact WP.wk (BX7_isPrime_15 h0) trivial
def fX7_isPrime (w : XW) (l0 : Int32) : Option (Int32 × XW) := eX7_isPrime w l0
theorem MX7_isPrime {K : CX} {l : Launch} {w : XW} {l0 : Int32} {q : Int32 × XW} (h : fX7_isPrime w l0 = some q) : MT K l mX7_isPrime 1 20 [.int l0] w (some (.int q.1)) q.2 := by
  unfold fX7_isPrime at h
  exact MT.of (by decide) (Nat.le_of_ble_eq_true rfl) rfl (EX7_isPrime h)
/-! FractionRun.number(I)I: frames 2, words 40 -/
abbrev mX7_number : MR := (⟨"FractionRun", "number", "(I)I"⟩, prog_1_method_7_code, 2, (some .int))
theorem dX7_number_0 : decode prog_1_method_7_code 0 = .ok (.iload_n 1, 1) := by decide +kernel
theorem dX7_number_1 : decode prog_1_method_7_code 1 = .ok (.invokestatic 144, 3) := by decide +kernel
theorem dX7_number_4 : decode prog_1_method_7_code 4 = .ok (.ifCond .eq 15, 3) := by decide +kernel
theorem dX7_number_7 : decode prog_1_method_7_code 7 = .ok (.aload_n 0, 1) := by decide +kernel
theorem dX7_number_8 : decode prog_1_method_7_code 8 = .ok (.getfield 36, 3) := by decide +kernel
theorem dX7_number_11 : decode prog_1_method_7_code 11 = .ok (.getfield 147, 3) := by decide +kernel
theorem dX7_number_14 : decode prog_1_method_7_code 14 = .ok (.iload_n 1, 1) := by decide +kernel
theorem dX7_number_15 : decode prog_1_method_7_code 15 = .ok (.iaload, 1) := by decide +kernel
theorem dX7_number_16 : decode prog_1_method_7_code 16 = .ok (.goto 4, 3) := by decide +kernel
theorem dX7_number_19 : decode prog_1_method_7_code 19 = .ok (.iconst (-1), 1) := by decide +kernel
theorem dX7_number_20 : decode prog_1_method_7_code 20 = .ok (.ireturn, 1) := by decide +kernel
theorem okM_X7_number : okM mX7_number 1 := ⟨tw397, tw1, by decide, by decide, by decide +kernel⟩
def bX7_number_20 (w : XW) (s0 : Int32) : Option (Int32 × XW) :=
  some (s0, w)
theorem BX7_number_20 {K : CX} {l : Launch} {n0 k0 : Nat} {w : XW} {s0 : Int32} {q : Int32 × XW} (h0 : bX7_number_20 w s0 = some q) : WP K l mX7_number 2 40 n0 k0 (some (.int q.1)) q.2 20 [none, none] [.int s0] w := by
  unfold bX7_number_20 at h0
  cases h0
  exact wp_iret rfl dX7_number_20
def eX7_number (w : XW) (l0 : Nat) (l1 : Int32) : Option (Int32 × XW) :=
  (fX7_isPrime w l1).bind fun q1 =>
  if q1.1 = 0 then
  bX7_number_20 q1.2 (-1 : Int32)
  else
  (gR q1.2 l0 7 4).bind fun x5 =>
  (gR q1.2 x5 5 0).bind fun x8 =>
  (aI q1.2 0 x8 l1).bind fun x11 =>
  bX7_number_20 q1.2 x11
theorem EX7_number {K : CX} {l : Launch} {n0 k0 : Nat} {w : XW} {l0 : Nat} {l1 : Int32} {q : Int32 × XW} (h0 : eX7_number w l0 l1 = some q) : WP K l mX7_number 2 40 n0 k0 (some (.int q.1)) q.2 0 [some (.ref l0), some (.int l1)] [] w := by
  unfold eX7_number at h0
  refine wp_iload_n dX7_number_0 rfl ?_
  obtain ⟨q1, e3, h2⟩ := Option.bind_eq_some_iff.mp h0
  clear h0
  refine wp_Si (As := [.int l1]) (S := []) okM_X7_isPrime tw399 tw398 rfl ⟨(Nat.le_of_ble_eq_true rfl), (Nat.le_of_ble_eq_true rfl)⟩ (Nat.le_of_ble_eq_true rfl) rfl dX7_number_1 (MX7_isPrime e3) ?_
  refine wp_if_eq (tgt := 19) dX7_number_4 (by decide) (fun c4 => ?_) (fun c4 => ?_)
  · rw [if_pos c4] at h2
    refine wp_iconst (v := (-1 : Int32)) dX7_number_19 (by decide) ?_
    exact WP.wk (BX7_number_20 h2) trivial
  · rw [if_neg c4] at h2
    refine wp_aload_n dX7_number_7 rfl ?_
    obtain ⟨x5, e7, h6⟩ := Option.bind_eq_some_iff.mp h2
    clear h2
    refine wp_getR okX7 (k := 4) (by decide) tw302 dX7_number_8 e7 ?_
    obtain ⟨x8, e10, h9⟩ := Option.bind_eq_some_iff.mp h6
    clear h6
    refine wp_getR okX5 (k := 0) (by decide) tw94 dX7_number_11 e10 ?_
    refine wp_iload_n dX7_number_14 rfl ?_
    obtain ⟨x11, e13, h12⟩ := Option.bind_eq_some_iff.mp h9
    clear h9
    refine wp_iald dX7_number_15 e13 ?_
    refine wp_goto (tgt := 20) dX7_number_16 (by decide) ?_
    exact WP.wk (BX7_number_20 h12) trivial
def fX7_number (w : XW) (l0 : Nat) (l1 : Int32) : Option (Int32 × XW) := if isO w l0 7 = true then eX7_number w l0 l1 else none
theorem OX7_number {w : XW} {l0 : Nat} {l1 : Int32} {q : Int32 × XW} (h : fX7_number w l0 l1 = some q) : isO w l0 7 = true := Decidable.byContradiction fun z => by unfold fX7_number at h; rw [if_neg z] at h; cases h
theorem MX7_number {K : CX} {l : Launch} {w : XW} {l0 : Nat} {l1 : Int32} {q : Int32 × XW} (h : fX7_number w l0 l1 = some q) : MT K l mX7_number 2 40 [.ref l0, .int l1] w (some (.int q.1)) q.2 := by
  have z := OX7_number h
  unfold fX7_number at h
  rw [if_pos z] at h
  exact MT.of (by decide) (Nat.le_of_ble_eq_true rfl) rfl (EX7_number h)
/-! FractionRunModel.number(I)I: frames 2, words 45 -/
abbrev mX8_number_ : MR := (⟨"FractionRunModel", "number", "(I)I"⟩, prog_10_method_31_code, 2, (some .int))
theorem dX8_number__0 : decode prog_10_method_31_code 0 = .ok (.iload_n 1, 1) := by decide +kernel
theorem dX8_number__1 : decode prog_10_method_31_code 1 = .ok (.i2l, 1) := by decide +kernel
theorem dX8_number__2 : decode prog_10_method_31_code 2 = .ok (.lconst 0, 1) := by decide +kernel
theorem dX8_number__3 : decode prog_10_method_31_code 3 = .ok (.ldc2_w 161, 3) := by decide +kernel
theorem dX8_number__6 : decode prog_10_method_31_code 6 = .ok (.invokestatic 88, 3) := by decide +kernel
theorem dX8_number__9 : decode prog_10_method_31_code 9 = .ok (.ifCond .eq 12, 3) := by decide +kernel
theorem dX8_number__12 : decode prog_10_method_31_code 12 = .ok (.aload_n 0, 1) := by decide +kernel
theorem dX8_number__13 : decode prog_10_method_31_code 13 = .ok (.getfield 25, 3) := by decide +kernel
theorem dX8_number__16 : decode prog_10_method_31_code 16 = .ok (.iload_n 1, 1) := by decide +kernel
theorem dX8_number__17 : decode prog_10_method_31_code 17 = .ok (.iaload, 1) := by decide +kernel
theorem dX8_number__18 : decode prog_10_method_31_code 18 = .ok (.goto 4, 3) := by decide +kernel
theorem dX8_number__21 : decode prog_10_method_31_code 21 = .ok (.iconst (-1), 1) := by decide +kernel
theorem dX8_number__22 : decode prog_10_method_31_code 22 = .ok (.ireturn, 1) := by decide +kernel
theorem okM_X8_number_ : okM mX8_number_ 1 := ⟨tw861, tw15, by decide, by decide, by decide +kernel⟩
def bX8_number__22 (w : XW) (s0 : Int32) : Option (Int32 × XW) :=
  some (s0, w)
theorem BX8_number__22 {K : CX} {l : Launch} {n0 k0 : Nat} {w : XW} {s0 : Int32} {q : Int32 × XW} (h0 : bX8_number__22 w s0 = some q) : WP K l mX8_number_ 2 45 n0 k0 (some (.int q.1)) q.2 22 [none, none] [.int s0] w := by
  unfold bX8_number__22 at h0
  cases h0
  exact wp_iret rfl dX8_number__22
def eX8_number_ (w : XW) (l0 : Nat) (l1 : Int32) : Option (Int32 × XW) :=
  (fX8_in w (l1.toInt64) (0 : Int64) (5 : Int64)).bind fun q1 =>
  if q1.1 = 0 then
  bX8_number__22 q1.2 (-1 : Int32)
  else
  (gR q1.2 l0 8 7).bind fun x5 =>
  (aI q1.2 0 x5 l1).bind fun x8 =>
  bX8_number__22 q1.2 x8
theorem EX8_number_ {K : CX} {l : Launch} {n0 k0 : Nat} {w : XW} {l0 : Nat} {l1 : Int32} {q : Int32 × XW} (h0 : eX8_number_ w l0 l1 = some q) : WP K l mX8_number_ 2 45 n0 k0 (some (.int q.1)) q.2 0 [some (.ref l0), some (.int l1)] [] w := by
  unfold eX8_number_ at h0
  refine wp_iload_n dX8_number__0 rfl ?_
  refine wp_i2l dX8_number__1 ?_
  refine wp_lconst (v := (0 : Int64)) dX8_number__2 (by decide) ?_
  refine wp_ldc2 tw837 dX8_number__3 ?_
  obtain ⟨q1, e3, h2⟩ := Option.bind_eq_some_iff.mp h0
  clear h0
  refine wp_Si (As := [.long (l1.toInt64), .long (0 : Int64), .long (5 : Int64)]) (S := []) okM_X8_in tw785 tw784 rfl ⟨(Nat.le_of_ble_eq_true rfl), (Nat.le_of_ble_eq_true rfl)⟩ (Nat.le_of_ble_eq_true rfl) rfl dX8_number__6 (MX8_in e3) ?_
  refine wp_if_eq (tgt := 21) dX8_number__9 (by decide) (fun c4 => ?_) (fun c4 => ?_)
  · rw [if_pos c4] at h2
    refine wp_iconst (v := (-1 : Int32)) dX8_number__21 (by decide) ?_
    exact WP.wk (BX8_number__22 h2) trivial
  · rw [if_neg c4] at h2
    refine wp_aload_n dX8_number__12 rfl ?_
    obtain ⟨x5, e7, h6⟩ := Option.bind_eq_some_iff.mp h2
    clear h2
    refine wp_getR okX8 (k := 7) (by decide) tw712 dX8_number__13 e7 ?_
    refine wp_iload_n dX8_number__16 rfl ?_
    obtain ⟨x8, e10, h9⟩ := Option.bind_eq_some_iff.mp h6
    clear h6
    refine wp_iald dX8_number__17 e10 ?_
    refine wp_goto (tgt := 22) dX8_number__18 (by decide) ?_
    exact WP.wk (BX8_number__22 h9) trivial
def fX8_number_ (w : XW) (l0 : Nat) (l1 : Int32) : Option (Int32 × XW) := if isO w l0 8 = true then eX8_number_ w l0 l1 else none
theorem OX8_number_ {w : XW} {l0 : Nat} {l1 : Int32} {q : Int32 × XW} (h : fX8_number_ w l0 l1 = some q) : isO w l0 8 = true := Decidable.byContradiction fun z => by unfold fX8_number_ at h; rw [if_neg z] at h; cases h
theorem MX8_number_ {K : CX} {l : Launch} {w : XW} {l0 : Nat} {l1 : Int32} {q : Int32 × XW} (h : fX8_number_ w l0 l1 = some q) : MT K l mX8_number_ 2 45 [.ref l0, .int l1] w (some (.int q.1)) q.2 := by
  have z := OX8_number_ h
  unfold fX8_number_ at h
  rw [if_pos z] at h
  exact MT.of (by decide) (Nat.le_of_ble_eq_true rfl) rfl (EX8_number_ h)
/-! FractionRun$State.nextFraction(LFractionRun$Fractions;)I: frames 2, words 46 -/
abbrev mX5_nextFraction : MR := (⟨"FractionRun$State", "nextFraction", "(LFractionRun$Fractions;)I"⟩, prog_7_method_11_code, 6, (some .int))
theorem dX5_nextFraction_0 : decode prog_7_method_11_code 0 = .ok (.bipush (-4), 2) := by decide +kernel
theorem dX5_nextFraction_2 : decode prog_7_method_11_code 2 = .ok (.istore_n 2, 1) := by decide +kernel
theorem dX5_nextFraction_3 : decode prog_7_method_11_code 3 = .ok (.iconst 0, 1) := by decide +kernel
theorem dX5_nextFraction_4 : decode prog_7_method_11_code 4 = .ok (.istore_n 3, 1) := by decide +kernel
theorem dX5_nextFraction_5 : decode prog_7_method_11_code 5 = .ok (.iload_n 3, 1) := by decide +kernel
theorem dX5_nextFraction_6 : decode prog_7_method_11_code 6 = .ok (.aload_n 0, 1) := by decide +kernel
theorem dX5_nextFraction_7 : decode prog_7_method_11_code 7 = .ok (.getfield 33, 3) := by decide +kernel
theorem dX5_nextFraction_10 : decode prog_7_method_11_code 10 = .ok (.if_icmp .ge 67, 3) := by decide +kernel
theorem dX5_nextFraction_13 : decode prog_7_method_11_code 13 = .ok (.aload_n 0, 1) := by decide +kernel
theorem dX5_nextFraction_14 : decode prog_7_method_11_code 14 = .ok (.getfield 15, 3) := by decide +kernel
theorem dX5_nextFraction_17 : decode prog_7_method_11_code 17 = .ok (.iload_n 3, 1) := by decide +kernel
theorem dX5_nextFraction_18 : decode prog_7_method_11_code 18 = .ok (.iaload, 1) := by decide +kernel
theorem dX5_nextFraction_19 : decode prog_7_method_11_code 19 = .ok (.istore 4, 2) := by decide +kernel
theorem dX5_nextFraction_21 : decode prog_7_method_11_code 21 = .ok (.aload_n 1, 1) := by decide +kernel
theorem dX5_nextFraction_22 : decode prog_7_method_11_code 22 = .ok (.getfield 49, 3) := by decide +kernel
theorem dX5_nextFraction_25 : decode prog_7_method_11_code 25 = .ok (.iload 4, 2) := by decide +kernel
theorem dX5_nextFraction_27 : decode prog_7_method_11_code 27 = .ok (.iaload, 1) := by decide +kernel
theorem dX5_nextFraction_28 : decode prog_7_method_11_code 28 = .ok (.iconst 4, 1) := by decide +kernel
theorem dX5_nextFraction_29 : decode prog_7_method_11_code 29 = .ok (.if_icmp .ne 7, 3) := by decide +kernel
theorem dX5_nextFraction_32 : decode prog_7_method_11_code 32 = .ok (.iconst 1, 1) := by decide +kernel
theorem dX5_nextFraction_33 : decode prog_7_method_11_code 33 = .ok (.goto 4, 3) := by decide +kernel
theorem dX5_nextFraction_36 : decode prog_7_method_11_code 36 = .ok (.iconst 0, 1) := by decide +kernel
theorem dX5_nextFraction_37 : decode prog_7_method_11_code 37 = .ok (.istore 5, 2) := by decide +kernel
theorem dX5_nextFraction_39 : decode prog_7_method_11_code 39 = .ok (.iload 5, 2) := by decide +kernel
theorem dX5_nextFraction_41 : decode prog_7_method_11_code 41 = .ok (.ifCond .eq 9, 3) := by decide +kernel
theorem dX5_nextFraction_44 : decode prog_7_method_11_code 44 = .ok (.iload_n 2, 1) := by decide +kernel
theorem dX5_nextFraction_45 : decode prog_7_method_11_code 45 = .ok (.bipush (-4), 2) := by decide +kernel
theorem dX5_nextFraction_47 : decode prog_7_method_11_code 47 = .ok (.if_icmp .ne 24, 3) := by decide +kernel
theorem dX5_nextFraction_50 : decode prog_7_method_11_code 50 = .ok (.aload_n 0, 1) := by decide +kernel
theorem dX5_nextFraction_51 : decode prog_7_method_11_code 51 = .ok (.aload_n 1, 1) := by decide +kernel
theorem dX5_nextFraction_52 : decode prog_7_method_11_code 52 = .ok (.iload 4, 2) := by decide +kernel
theorem dX5_nextFraction_54 : decode prog_7_method_11_code 54 = .ok (.invokevirtual 55, 3) := by decide +kernel
theorem dX5_nextFraction_57 : decode prog_7_method_11_code 57 = .ok (.ifCond .eq 14, 3) := by decide +kernel
theorem dX5_nextFraction_60 : decode prog_7_method_11_code 60 = .ok (.iload 5, 2) := by decide +kernel
theorem dX5_nextFraction_62 : decode prog_7_method_11_code 62 = .ok (.ifCond .ne 6, 3) := by decide +kernel
theorem dX5_nextFraction_65 : decode prog_7_method_11_code 65 = .ok (.iload 4, 2) := by decide +kernel
theorem dX5_nextFraction_67 : decode prog_7_method_11_code 67 = .ok (.ireturn, 1) := by decide +kernel
theorem dX5_nextFraction_68 : decode prog_7_method_11_code 68 = .ok (.iload 4, 2) := by decide +kernel
theorem dX5_nextFraction_70 : decode prog_7_method_11_code 70 = .ok (.istore_n 2, 1) := by decide +kernel
theorem dX5_nextFraction_71 : decode prog_7_method_11_code 71 = .ok (.iinc 3 1, 3) := by decide +kernel
theorem dX5_nextFraction_74 : decode prog_7_method_11_code 74 = .ok (.goto (-69), 3) := by decide +kernel
theorem dX5_nextFraction_77 : decode prog_7_method_11_code 77 = .ok (.iload_n 2, 1) := by decide +kernel
theorem dX5_nextFraction_78 : decode prog_7_method_11_code 78 = .ok (.ireturn, 1) := by decide +kernel
theorem okM_X5_nextFraction : okM mX5_nextFraction 1 := ⟨tw412, tw5, by decide, by decide, by decide +kernel⟩
abbrev KTX5_nextFraction : Type := (XW → Nat → Nat → Int32 → Int32 → Option (Int32 × XW))
def bX5_nextFraction_71 (k : KTX5_nextFraction) (w : XW) (l0 : Nat) (l1 : Nat) (l2 : Int32) (l3 : Int32) : Option (Int32 × XW) :=
  k w l0 l1 l2 (l3 + (1 : Int32))
theorem BX5_nextFraction_71 {K : CX} {l : Launch} {n0 k0 : Nat} {k : KTX5_nextFraction} (hk0 : ∀ (w : XW) (l0 : Nat) (l1 : Nat) (l2 : Int32) (l3 : Int32) (q : Int32 × XW), k w l0 l1 l2 l3 = some q → WP K l mX5_nextFraction 2 46 n0 k0 (some (.int q.1)) q.2 5 [some (.ref l0), some (.ref l1), some (.int l2), some (.int l3), none, none] [] w) {w : XW} {l0 : Nat} {l1 : Nat} {l2 : Int32} {l3 : Int32} {q : Int32 × XW} (h0 : bX5_nextFraction_71 k w l0 l1 l2 l3 = some q) : WP K l mX5_nextFraction 2 46 n0 k0 (some (.int q.1)) q.2 71 [some (.ref l0), some (.ref l1), some (.int l2), some (.int l3), none, none] [] w := by
  unfold bX5_nextFraction_71 at h0
  refine wp_iinc (v := (l3 + (1 : Int32))) (L1 := [some (.ref l0), some (.ref l1), some (.int l2), some (.int (l3 + (1 : Int32))), none, none]) dX5_nextFraction_71 (Nat.le_of_ble_eq_true rfl) rfl (congrArg (fun z => l3 + z) (by decide)) rfl ?_
  refine wp_goto (tgt := 5) dX5_nextFraction_74 (by decide) ?_
  exact WP.wk (hk0 _ _ _ _ _ _ h0) (And.intro rfl (And.intro rfl (And.intro rfl (And.intro rfl trivial))))
def bX5_nextFraction_50 (k : KTX5_nextFraction) (w : XW) (l0 : Nat) (l1 : Nat) (l2 : Int32) (l3 : Int32) (l4 : Int32) (l5 : Int32) : Option (Int32 × XW) :=
  (fX5_isUsable w l0 l1 l4).bind fun q1 =>
  if q1.1 = 0 then
  bX5_nextFraction_71 k q1.2 l0 l1 l2 l3
  else
  if l5 = 0 then
  some (l4, q1.2)
  else
  bX5_nextFraction_71 k q1.2 l0 l1 l4 l3
theorem BX5_nextFraction_50 {K : CX} {l : Launch} {n0 k0 : Nat} {k : KTX5_nextFraction} (hk0 : ∀ (w : XW) (l0 : Nat) (l1 : Nat) (l2 : Int32) (l3 : Int32) (q : Int32 × XW), k w l0 l1 l2 l3 = some q → WP K l mX5_nextFraction 2 46 n0 k0 (some (.int q.1)) q.2 5 [some (.ref l0), some (.ref l1), some (.int l2), some (.int l3), none, none] [] w) {w : XW} {l0 : Nat} {l1 : Nat} {l2 : Int32} {l3 : Int32} {l4 : Int32} {l5 : Int32} {q : Int32 × XW} (h0 : bX5_nextFraction_50 k w l0 l1 l2 l3 l4 l5 = some q) : WP K l mX5_nextFraction 2 46 n0 k0 (some (.int q.1)) q.2 50 [some (.ref l0), some (.ref l1), some (.int l2), some (.int l3), some (.int l4), some (.int l5)] [] w := by
  unfold bX5_nextFraction_50 at h0
  refine wp_aload_n dX5_nextFraction_50 rfl ?_
  refine wp_aload_n dX5_nextFraction_51 rfl ?_
  refine wp_iload dX5_nextFraction_52 rfl ?_
  obtain ⟨q1, e3, h2⟩ := Option.bind_eq_some_iff.mp h0
  clear h0
  refine wp_Vi (As := [.ref l1, .int l4]) (S := []) okM_X5_isUsable tw391 tw392 tw413 (OX5_isUsable e3) rfl rfl rfl ⟨(Nat.le_of_ble_eq_true rfl), (Nat.le_of_ble_eq_true rfl)⟩ (Nat.le_of_ble_eq_true rfl) rfl dX5_nextFraction_54 (MX5_isUsable e3) ?_
  refine wp_if_eq (tgt := 71) dX5_nextFraction_57 (by decide) (fun c4 => ?_) (fun c4 => ?_)
  · rw [if_pos c4] at h2
    exact WP.wk (BX5_nextFraction_71 hk0 h2) (And.intro rfl (And.intro rfl (And.intro rfl (And.intro rfl trivial))))
  · rw [if_neg c4] at h2
    refine wp_iload dX5_nextFraction_60 rfl ?_
    refine wp_if_ne (tgt := 68) dX5_nextFraction_62 (by decide) (fun c5 => ?_) (fun c5 => ?_)
    · rw [if_neg c5] at h2
      refine wp_iload dX5_nextFraction_68 rfl ?_
      refine wp_istore_n (L1 := [some (.ref l0), some (.ref l1), some (.int l4), some (.int l3), some (.int l4), some (.int l5)]) dX5_nextFraction_70 (Nat.le_of_ble_eq_true rfl) rfl ?_
      exact WP.wk (BX5_nextFraction_71 hk0 h2) (And.intro rfl (And.intro rfl (And.intro rfl (And.intro rfl trivial))))
    · rw [if_pos c5] at h2
      refine wp_iload dX5_nextFraction_65 rfl ?_
      cases h2
      exact wp_iret rfl dX5_nextFraction_67
def bX5_nextFraction_37 (k : KTX5_nextFraction) (w : XW) (l0 : Nat) (l1 : Nat) (l2 : Int32) (l3 : Int32) (l4 : Int32) (s0 : Int32) : Option (Int32 × XW) :=
  if s0 = 0 then
  bX5_nextFraction_50 k w l0 l1 l2 l3 l4 s0
  else
  if l2 = (-4 : Int32) then
  bX5_nextFraction_50 k w l0 l1 l2 l3 l4 s0
  else
  bX5_nextFraction_71 k w l0 l1 l2 l3
theorem BX5_nextFraction_37 {K : CX} {l : Launch} {n0 k0 : Nat} {k : KTX5_nextFraction} (hk0 : ∀ (w : XW) (l0 : Nat) (l1 : Nat) (l2 : Int32) (l3 : Int32) (q : Int32 × XW), k w l0 l1 l2 l3 = some q → WP K l mX5_nextFraction 2 46 n0 k0 (some (.int q.1)) q.2 5 [some (.ref l0), some (.ref l1), some (.int l2), some (.int l3), none, none] [] w) {w : XW} {l0 : Nat} {l1 : Nat} {l2 : Int32} {l3 : Int32} {l4 : Int32} {s0 : Int32} {q : Int32 × XW} (h0 : bX5_nextFraction_37 k w l0 l1 l2 l3 l4 s0 = some q) : WP K l mX5_nextFraction 2 46 n0 k0 (some (.int q.1)) q.2 37 [some (.ref l0), some (.ref l1), some (.int l2), some (.int l3), some (.int l4), none] [.int s0] w := by
  unfold bX5_nextFraction_37 at h0
  refine wp_istore (L1 := [some (.ref l0), some (.ref l1), some (.int l2), some (.int l3), some (.int l4), some (.int s0)]) dX5_nextFraction_37 (Nat.le_of_ble_eq_true rfl) rfl ?_
  refine wp_iload dX5_nextFraction_39 rfl ?_
  refine wp_if_eq (tgt := 50) dX5_nextFraction_41 (by decide) (fun c1 => ?_) (fun c1 => ?_)
  · rw [if_pos c1] at h0
    exact WP.wk (BX5_nextFraction_50 hk0 h0) (And.intro rfl (And.intro rfl (And.intro rfl (And.intro rfl (And.intro rfl (And.intro rfl trivial))))))
  · rw [if_neg c1] at h0
    refine wp_iload_n dX5_nextFraction_44 rfl ?_
    refine wp_bipush (v := (-4 : Int32)) dX5_nextFraction_45 (by decide) ?_
    refine wp_icmp_ne (tgt := 71) dX5_nextFraction_47 (by decide) (fun c2 => ?_) (fun c2 => ?_)
    · rw [if_neg c2] at h0
      exact WP.wk (BX5_nextFraction_71 hk0 h0) (And.intro rfl (And.intro rfl (And.intro rfl (And.intro rfl trivial))))
    · rw [if_pos c2] at h0
      exact WP.wk (BX5_nextFraction_50 hk0 h0) (And.intro rfl (And.intro rfl (And.intro rfl (And.intro rfl (And.intro rfl (And.intro rfl trivial))))))
def hX5_nextFraction_5 (k : KTX5_nextFraction) (w : XW) (l0 : Nat) (l1 : Nat) (l2 : Int32) (l3 : Int32) : Option (Int32 × XW) :=
  (gI w l0 5 2).bind fun x1 =>
  if x1 ≤ l3 then
  some (l2, w)
  else
  (gR w l0 5 1).bind fun x5 =>
  (aI w 0 x5 l3).bind fun x8 =>
  (gR w l1 1 0).bind fun x11 =>
  (aI w 0 x11 x8).bind fun x14 =>
  if x14 = (4 : Int32) then
  bX5_nextFraction_37 k w l0 l1 l2 l3 x8 (1 : Int32)
  else
  bX5_nextFraction_37 k w l0 l1 l2 l3 x8 (0 : Int32)
theorem HX5_nextFraction_5 {K : CX} {l : Launch} {n0 k0 : Nat} {k : KTX5_nextFraction} (hk0 : ∀ (w : XW) (l0 : Nat) (l1 : Nat) (l2 : Int32) (l3 : Int32) (q : Int32 × XW), k w l0 l1 l2 l3 = some q → WP K l mX5_nextFraction 2 46 n0 k0 (some (.int q.1)) q.2 5 [some (.ref l0), some (.ref l1), some (.int l2), some (.int l3), none, none] [] w) {w : XW} {l0 : Nat} {l1 : Nat} {l2 : Int32} {l3 : Int32} {q : Int32 × XW} (h0 : hX5_nextFraction_5 k w l0 l1 l2 l3 = some q) : WP K l mX5_nextFraction 2 46 n0 k0 (some (.int q.1)) q.2 5 [some (.ref l0), some (.ref l1), some (.int l2), some (.int l3), none, none] [] w := by
  unfold hX5_nextFraction_5 at h0
  refine wp_iload_n dX5_nextFraction_5 rfl ?_
  refine wp_aload_n dX5_nextFraction_6 rfl ?_
  obtain ⟨x1, e3, h2⟩ := Option.bind_eq_some_iff.mp h0
  clear h0
  refine wp_getI okX5 (k := 2) (by decide) tw97 dX5_nextFraction_7 e3 ?_
  refine wp_icmp_ge (tgt := 77) dX5_nextFraction_10 (by decide) (fun c4 => ?_) (fun c4 => ?_)
  · rw [if_pos c4] at h2
    refine wp_iload_n dX5_nextFraction_77 rfl ?_
    cases h2
    exact wp_iret rfl dX5_nextFraction_78
  · rw [if_neg c4] at h2
    refine wp_aload_n dX5_nextFraction_13 rfl ?_
    obtain ⟨x5, e7, h6⟩ := Option.bind_eq_some_iff.mp h2
    clear h2
    refine wp_getR okX5 (k := 1) (by decide) tw95 dX5_nextFraction_14 e7 ?_
    refine wp_iload_n dX5_nextFraction_17 rfl ?_
    obtain ⟨x8, e10, h9⟩ := Option.bind_eq_some_iff.mp h6
    clear h6
    refine wp_iald dX5_nextFraction_18 e10 ?_
    refine wp_istore (L1 := [some (.ref l0), some (.ref l1), some (.int l2), some (.int l3), some (.int x8), none]) dX5_nextFraction_19 (Nat.le_of_ble_eq_true rfl) rfl ?_
    refine wp_aload_n dX5_nextFraction_21 rfl ?_
    obtain ⟨x11, e13, h12⟩ := Option.bind_eq_some_iff.mp h9
    clear h9
    refine wp_getR okX1 (k := 0) (by decide) tw60 dX5_nextFraction_22 e13 ?_
    refine wp_iload dX5_nextFraction_25 rfl ?_
    obtain ⟨x14, e16, h15⟩ := Option.bind_eq_some_iff.mp h12
    clear h12
    refine wp_iald dX5_nextFraction_27 e16 ?_
    refine wp_iconst (v := (4 : Int32)) dX5_nextFraction_28 (by decide) ?_
    refine wp_icmp_ne (tgt := 36) dX5_nextFraction_29 (by decide) (fun c17 => ?_) (fun c17 => ?_)
    · rw [if_neg c17] at h15
      refine wp_iconst (v := (0 : Int32)) dX5_nextFraction_36 (by decide) ?_
      exact WP.wk (BX5_nextFraction_37 hk0 h15) (And.intro rfl (And.intro rfl (And.intro rfl (And.intro rfl (And.intro rfl trivial)))))
    · rw [if_pos c17] at h15
      refine wp_iconst (v := (1 : Int32)) dX5_nextFraction_32 (by decide) ?_
      refine wp_goto (tgt := 37) dX5_nextFraction_33 (by decide) ?_
      exact WP.wk (BX5_nextFraction_37 hk0 h15) (And.intro rfl (And.intro rfl (And.intro rfl (And.intro rfl (And.intro rfl trivial)))))
def eX5_nextFraction (k : KTX5_nextFraction) (w : XW) (l0 : Nat) (l1 : Nat) : Option (Int32 × XW) :=
  k w l0 l1 (-4 : Int32) (0 : Int32)
theorem EX5_nextFraction {K : CX} {l : Launch} {n0 k0 : Nat} {k : KTX5_nextFraction} (hk0 : ∀ (w : XW) (l0 : Nat) (l1 : Nat) (l2 : Int32) (l3 : Int32) (q : Int32 × XW), k w l0 l1 l2 l3 = some q → WP K l mX5_nextFraction 2 46 n0 k0 (some (.int q.1)) q.2 5 [some (.ref l0), some (.ref l1), some (.int l2), some (.int l3), none, none] [] w) {w : XW} {l0 : Nat} {l1 : Nat} {q : Int32 × XW} (h0 : eX5_nextFraction k w l0 l1 = some q) : WP K l mX5_nextFraction 2 46 n0 k0 (some (.int q.1)) q.2 0 [some (.ref l0), some (.ref l1), none, none, none, none] [] w := by
  unfold eX5_nextFraction at h0
  refine wp_bipush (v := (-4 : Int32)) dX5_nextFraction_0 (by decide) ?_
  refine wp_istore_n (L1 := [some (.ref l0), some (.ref l1), some (.int (-4 : Int32)), none, none, none]) dX5_nextFraction_2 (Nat.le_of_ble_eq_true rfl) rfl ?_
  refine wp_iconst (v := (0 : Int32)) dX5_nextFraction_3 (by decide) ?_
  refine wp_istore_n (L1 := [some (.ref l0), some (.ref l1), some (.int (-4 : Int32)), some (.int (0 : Int32)), none, none]) dX5_nextFraction_4 (Nat.le_of_ble_eq_true rfl) rfl ?_
  exact WP.wk (hk0 _ _ _ _ _ _ h0) (And.intro rfl (And.intro rfl (And.intro rfl (And.intro rfl trivial))))
def loX5_nextFraction : Nat → KTX5_nextFraction
  | 0 => fun _ _ _ _ _ => none
  | n + 1 => hX5_nextFraction_5 (loX5_nextFraction n)
theorem LOX5_nextFraction {K : CX} {l : Launch} {n0 k0 : Nat} : ∀ n : Nat, (∀ (w : XW) (l0 : Nat) (l1 : Nat) (l2 : Int32) (l3 : Int32) (q : Int32 × XW), (loX5_nextFraction n) w l0 l1 l2 l3 = some q → WP K l mX5_nextFraction 2 46 n0 k0 (some (.int q.1)) q.2 5 [some (.ref l0), some (.ref l1), some (.int l2), some (.int l3), none, none] [] w) := by
  intro n
  induction n with
  | zero => exact fun _ _ _ _ _ q h => (by cases h)
  | succ n ih => exact fun _ _ _ _ _ q h => HX5_nextFraction_5 ih h
def fX5_nextFraction (w : XW) (l0 : Nat) (l1 : Nat) : Option (Int32 × XW) := if isO w l0 5 = true then eX5_nextFraction (loX5_nextFraction FU) w l0 l1 else none
theorem OX5_nextFraction {w : XW} {l0 : Nat} {l1 : Nat} {q : Int32 × XW} (h : fX5_nextFraction w l0 l1 = some q) : isO w l0 5 = true := Decidable.byContradiction fun z => by unfold fX5_nextFraction at h; rw [if_neg z] at h; cases h
theorem MX5_nextFraction {K : CX} {l : Launch} {w : XW} {l0 : Nat} {l1 : Nat} {q : Int32 × XW} (h : fX5_nextFraction w l0 l1 = some q) : MT K l mX5_nextFraction 2 46 [.ref l0, .ref l1] w (some (.int q.1)) q.2 := by
  have z := OX5_nextFraction h
  unfold fX5_nextFraction at h
  rw [if_pos z] at h
  exact MT.of (by decide) (Nat.le_of_ble_eq_true rfl) rfl (EX5_nextFraction (LOX5_nextFraction FU) h)
/-! FractionRun$State.isAtRest(LFractionRun$Fractions;)Z: frames 3, words 71 -/
abbrev mX5_isAtRest : MR := (⟨"FractionRun$State", "isAtRest", "(LFractionRun$Fractions;)Z"⟩, prog_7_method_13_code, 2, (some .boolean))
theorem dX5_isAtRest_0 : decode prog_7_method_13_code 0 = .ok (.aload_n 0, 1) := by decide +kernel
theorem dX5_isAtRest_1 : decode prog_7_method_13_code 1 = .ok (.aload_n 1, 1) := by decide +kernel
theorem dX5_isAtRest_2 : decode prog_7_method_13_code 2 = .ok (.invokevirtual 63, 3) := by decide +kernel
theorem dX5_isAtRest_5 : decode prog_7_method_13_code 5 = .ok (.bipush (-4), 2) := by decide +kernel
theorem dX5_isAtRest_7 : decode prog_7_method_13_code 7 = .ok (.if_icmp .ne 7, 3) := by decide +kernel
theorem dX5_isAtRest_10 : decode prog_7_method_13_code 10 = .ok (.iconst 1, 1) := by decide +kernel
theorem dX5_isAtRest_11 : decode prog_7_method_13_code 11 = .ok (.goto 4, 3) := by decide +kernel
theorem dX5_isAtRest_14 : decode prog_7_method_13_code 14 = .ok (.iconst 0, 1) := by decide +kernel
theorem dX5_isAtRest_15 : decode prog_7_method_13_code 15 = .ok (.ireturn, 1) := by decide +kernel
theorem okM_X5_isAtRest : okM mX5_isAtRest 1 := ⟨tw408, tw5, by decide, by decide, by decide +kernel⟩
def bX5_isAtRest_15 (w : XW) (s0 : Int32) : Option (Int32 × XW) :=
  if s0 &&& 1 = s0 then some (s0, w) else none
theorem BX5_isAtRest_15 {K : CX} {l : Launch} {n0 k0 : Nat} {w : XW} {s0 : Int32} {q : Int32 × XW} (h0 : bX5_isAtRest_15 w s0 = some q) : WP K l mX5_isAtRest 3 71 n0 k0 (some (.int q.1)) q.2 15 [none, none] [.int s0] w := by
  unfold bX5_isAtRest_15 at h0
  have c1 : s0 &&& 1 = s0 := Decidable.byContradiction fun z => by rw [if_neg z] at h0; cases h0
  rw [if_pos c1] at h0
  cases h0
  exact wp_zret rfl (zb_n c1) dX5_isAtRest_15
def eX5_isAtRest (w : XW) (l0 : Nat) (l1 : Nat) : Option (Int32 × XW) :=
  (fX5_nextFraction w l0 l1).bind fun q1 =>
  if q1.1 = (-4 : Int32) then
  bX5_isAtRest_15 q1.2 (1 : Int32)
  else
  bX5_isAtRest_15 q1.2 (0 : Int32)
theorem EX5_isAtRest {K : CX} {l : Launch} {n0 k0 : Nat} {w : XW} {l0 : Nat} {l1 : Nat} {q : Int32 × XW} (h0 : eX5_isAtRest w l0 l1 = some q) : WP K l mX5_isAtRest 3 71 n0 k0 (some (.int q.1)) q.2 0 [some (.ref l0), some (.ref l1)] [] w := by
  unfold eX5_isAtRest at h0
  refine wp_aload_n dX5_isAtRest_0 rfl ?_
  refine wp_aload_n dX5_isAtRest_1 rfl ?_
  obtain ⟨q1, e3, h2⟩ := Option.bind_eq_some_iff.mp h0
  clear h0
  refine wp_Vi (As := [.ref l1]) (S := []) okM_X5_nextFraction tw410 tw411 tw409 (OX5_nextFraction e3) rfl rfl rfl ⟨(Nat.le_of_ble_eq_true rfl), (Nat.le_of_ble_eq_true rfl)⟩ (Nat.le_of_ble_eq_true rfl) rfl dX5_isAtRest_2 (MX5_nextFraction e3) ?_
  refine wp_bipush (v := (-4 : Int32)) dX5_isAtRest_5 (by decide) ?_
  refine wp_icmp_ne (tgt := 14) dX5_isAtRest_7 (by decide) (fun c4 => ?_) (fun c4 => ?_)
  · rw [if_neg c4] at h2
    refine wp_iconst (v := (0 : Int32)) dX5_isAtRest_14 (by decide) ?_
    exact WP.wk (BX5_isAtRest_15 h2) trivial
  · rw [if_pos c4] at h2
    refine wp_iconst (v := (1 : Int32)) dX5_isAtRest_10 (by decide) ?_
    refine wp_goto (tgt := 15) dX5_isAtRest_11 (by decide) ?_
    exact WP.wk (BX5_isAtRest_15 h2) trivial
def fX5_isAtRest (w : XW) (l0 : Nat) (l1 : Nat) : Option (Int32 × XW) := if isO w l0 5 = true then eX5_isAtRest w l0 l1 else none
theorem OX5_isAtRest {w : XW} {l0 : Nat} {l1 : Nat} {q : Int32 × XW} (h : fX5_isAtRest w l0 l1 = some q) : isO w l0 5 = true := Decidable.byContradiction fun z => by unfold fX5_isAtRest at h; rw [if_neg z] at h; cases h
theorem MX5_isAtRest {K : CX} {l : Launch} {w : XW} {l0 : Nat} {l1 : Nat} {q : Int32 × XW} (h : fX5_isAtRest w l0 l1 = some q) : MT K l mX5_isAtRest 3 71 [.ref l0, .ref l1] w (some (.int q.1)) q.2 := by
  have z := OX5_isAtRest h
  unfold fX5_isAtRest at h
  rw [if_pos z] at h
  exact MT.of (by decide) (Nat.le_of_ble_eq_true rfl) rfl (EX5_isAtRest h)
/-! FractionRun$State.copyFrom(LFractionRun$State;)V: frames 1, words 26 -/
abbrev mX5_copyFrom : MR := (⟨"FractionRun$State", "copyFrom", "(LFractionRun$State;)V"⟩, prog_7_method_5_code, 2, none)
theorem dX5_copyFrom_0 : decode prog_7_method_5_code 0 = .ok (.aload_n 1, 1) := by decide +kernel
theorem dX5_copyFrom_1 : decode prog_7_method_5_code 1 = .ok (.getfield 9, 3) := by decide +kernel
theorem dX5_copyFrom_4 : decode prog_7_method_5_code 4 = .ok (.iconst 0, 1) := by decide +kernel
theorem dX5_copyFrom_5 : decode prog_7_method_5_code 5 = .ok (.aload_n 0, 1) := by decide +kernel
theorem dX5_copyFrom_6 : decode prog_7_method_5_code 6 = .ok (.getfield 9, 3) := by decide +kernel
theorem dX5_copyFrom_9 : decode prog_7_method_5_code 9 = .ok (.iconst 0, 1) := by decide +kernel
theorem dX5_copyFrom_10 : decode prog_7_method_5_code 10 = .ok (.bipush 6, 2) := by decide +kernel
theorem dX5_copyFrom_12 : decode prog_7_method_5_code 12 = .ok (.invokestatic 23, 3) := by decide +kernel
theorem dX5_copyFrom_15 : decode prog_7_method_5_code 15 = .ok (.aload_n 1, 1) := by decide +kernel
theorem dX5_copyFrom_16 : decode prog_7_method_5_code 16 = .ok (.getfield 15, 3) := by decide +kernel
theorem dX5_copyFrom_19 : decode prog_7_method_5_code 19 = .ok (.iconst 0, 1) := by decide +kernel
theorem dX5_copyFrom_20 : decode prog_7_method_5_code 20 = .ok (.aload_n 0, 1) := by decide +kernel
theorem dX5_copyFrom_21 : decode prog_7_method_5_code 21 = .ok (.getfield 15, 3) := by decide +kernel
theorem dX5_copyFrom_24 : decode prog_7_method_5_code 24 = .ok (.iconst 0, 1) := by decide +kernel
theorem dX5_copyFrom_25 : decode prog_7_method_5_code 25 = .ok (.bipush 8, 2) := by decide +kernel
theorem dX5_copyFrom_27 : decode prog_7_method_5_code 27 = .ok (.invokestatic 23, 3) := by decide +kernel
theorem dX5_copyFrom_30 : decode prog_7_method_5_code 30 = .ok (.aload_n 0, 1) := by decide +kernel
theorem dX5_copyFrom_31 : decode prog_7_method_5_code 31 = .ok (.aload_n 1, 1) := by decide +kernel
theorem dX5_copyFrom_32 : decode prog_7_method_5_code 32 = .ok (.getfield 33, 3) := by decide +kernel
theorem dX5_copyFrom_35 : decode prog_7_method_5_code 35 = .ok (.putfield 33, 3) := by decide +kernel
theorem dX5_copyFrom_38 : decode prog_7_method_5_code 38 = .ok (.aload_n 0, 1) := by decide +kernel
theorem dX5_copyFrom_39 : decode prog_7_method_5_code 39 = .ok (.aload_n 1, 1) := by decide +kernel
theorem dX5_copyFrom_40 : decode prog_7_method_5_code 40 = .ok (.getfield 39, 3) := by decide +kernel
theorem dX5_copyFrom_43 : decode prog_7_method_5_code 43 = .ok (.putfield 39, 3) := by decide +kernel
theorem dX5_copyFrom_46 : decode prog_7_method_5_code 46 = .ok (.aload_n 0, 1) := by decide +kernel
theorem dX5_copyFrom_47 : decode prog_7_method_5_code 47 = .ok (.aload_n 1, 1) := by decide +kernel
theorem dX5_copyFrom_48 : decode prog_7_method_5_code 48 = .ok (.getfield 42, 3) := by decide +kernel
theorem dX5_copyFrom_51 : decode prog_7_method_5_code 51 = .ok (.putfield 42, 3) := by decide +kernel
theorem dX5_copyFrom_54 : decode prog_7_method_5_code 54 = .ok (.aload_n 0, 1) := by decide +kernel
theorem dX5_copyFrom_55 : decode prog_7_method_5_code 55 = .ok (.aload_n 1, 1) := by decide +kernel
theorem dX5_copyFrom_56 : decode prog_7_method_5_code 56 = .ok (.getfield 45, 3) := by decide +kernel
theorem dX5_copyFrom_59 : decode prog_7_method_5_code 59 = .ok (.putfield 45, 3) := by decide +kernel
theorem dX5_copyFrom_62 : decode prog_7_method_5_code 62 = .ok (.return_, 1) := by decide +kernel
theorem okM_X5_copyFrom : okM mX5_copyFrom 1 := ⟨tw421, tw5, by decide, by decide, by decide +kernel⟩
def eX5_copyFrom (w : XW) (l0 : Nat) (l1 : Nat) : Option XW :=
  (gR w l1 5 0).bind fun x1 =>
  (gR w l0 5 0).bind fun x4 =>
  (cpI w 0 x1 (0 : Int32) x4 (0 : Int32) (6 : Int32)).bind fun w7 =>
  (gR w7 l1 5 1).bind fun x10 =>
  (gR w7 l0 5 1).bind fun x13 =>
  (cpI w7 0 x10 (0 : Int32) x13 (0 : Int32) (8 : Int32)).bind fun w16 =>
  (gI w16 l1 5 2).bind fun x19 =>
  (pV w16 l0 5 2 (.int x19)).bind fun w22 =>
  (gI w22 l1 5 3).bind fun x25 =>
  (pV w22 l0 5 3 (.int x25)).bind fun w28 =>
  (gI w28 l1 5 4).bind fun x31 =>
  (pV w28 l0 5 4 (.int x31)).bind fun w34 =>
  (gI w34 l1 5 5).bind fun x37 =>
  if x37 &&& 1 = x37 then
  (pV w34 l0 5 5 (.int x37)).bind fun w40 =>
  some w40
  else none
theorem EX5_copyFrom {K : CX} {l : Launch} {n0 k0 : Nat} {w : XW} {l0 : Nat} {l1 : Nat} {q : XW} (h0 : eX5_copyFrom w l0 l1 = some q) : WP K l mX5_copyFrom 1 26 n0 k0 none q 0 [some (.ref l0), some (.ref l1)] [] w := by
  unfold eX5_copyFrom at h0
  refine wp_aload_n dX5_copyFrom_0 rfl ?_
  obtain ⟨x1, e3, h2⟩ := Option.bind_eq_some_iff.mp h0
  clear h0
  refine wp_getR okX5 (k := 0) (by decide) tw92 dX5_copyFrom_1 e3 ?_
  refine wp_iconst (v := (0 : Int32)) dX5_copyFrom_4 (by decide) ?_
  refine wp_aload_n dX5_copyFrom_5 rfl ?_
  obtain ⟨x4, e6, h5⟩ := Option.bind_eq_some_iff.mp h2
  clear h2
  refine wp_getR okX5 (k := 0) (by decide) tw92 dX5_copyFrom_6 e6 ?_
  refine wp_iconst (v := (0 : Int32)) dX5_copyFrom_9 (by decide) ?_
  refine wp_bipush (v := (6 : Int32)) dX5_copyFrom_10 (by decide) ?_
  obtain ⟨w7, e9, h8⟩ := Option.bind_eq_some_iff.mp h5
  clear h5
  refine wp_copy (t := 0) rfl (Or.inl rfl) tw291 tw293 tw292 tw14 ⟨(Nat.le_of_ble_eq_true rfl), (Nat.le_of_ble_eq_true rfl)⟩ rfl dX5_copyFrom_12 e9 ?_
  refine wp_aload_n dX5_copyFrom_15 rfl ?_
  obtain ⟨x10, e12, h11⟩ := Option.bind_eq_some_iff.mp h8
  clear h8
  refine wp_getR okX5 (k := 1) (by decide) tw95 dX5_copyFrom_16 e12 ?_
  refine wp_iconst (v := (0 : Int32)) dX5_copyFrom_19 (by decide) ?_
  refine wp_aload_n dX5_copyFrom_20 rfl ?_
  obtain ⟨x13, e15, h14⟩ := Option.bind_eq_some_iff.mp h11
  clear h11
  refine wp_getR okX5 (k := 1) (by decide) tw95 dX5_copyFrom_21 e15 ?_
  refine wp_iconst (v := (0 : Int32)) dX5_copyFrom_24 (by decide) ?_
  refine wp_bipush (v := (8 : Int32)) dX5_copyFrom_25 (by decide) ?_
  obtain ⟨w16, e18, h17⟩ := Option.bind_eq_some_iff.mp h14
  clear h14
  refine wp_copy (t := 0) rfl (Or.inl rfl) tw291 tw293 tw292 tw14 ⟨(Nat.le_of_ble_eq_true rfl), (Nat.le_of_ble_eq_true rfl)⟩ rfl dX5_copyFrom_27 e18 ?_
  refine wp_aload_n dX5_copyFrom_30 rfl ?_
  refine wp_aload_n dX5_copyFrom_31 rfl ?_
  obtain ⟨x19, e21, h20⟩ := Option.bind_eq_some_iff.mp h17
  clear h17
  refine wp_getI okX5 (k := 2) (by decide) tw97 dX5_copyFrom_32 e21 ?_
  obtain ⟨w22, e24, h23⟩ := Option.bind_eq_some_iff.mp h20
  clear h20
  refine wp_putV okX5 (k := 2) (by decide) rfl tw97 dX5_copyFrom_35 rfl rfl e24 ?_
  refine wp_aload_n dX5_copyFrom_38 rfl ?_
  refine wp_aload_n dX5_copyFrom_39 rfl ?_
  obtain ⟨x25, e27, h26⟩ := Option.bind_eq_some_iff.mp h23
  clear h23
  refine wp_getI okX5 (k := 3) (by decide) tw100 dX5_copyFrom_40 e27 ?_
  obtain ⟨w28, e30, h29⟩ := Option.bind_eq_some_iff.mp h26
  clear h26
  refine wp_putV okX5 (k := 3) (by decide) rfl tw100 dX5_copyFrom_43 rfl rfl e30 ?_
  refine wp_aload_n dX5_copyFrom_46 rfl ?_
  refine wp_aload_n dX5_copyFrom_47 rfl ?_
  obtain ⟨x31, e33, h32⟩ := Option.bind_eq_some_iff.mp h29
  clear h29
  refine wp_getI okX5 (k := 4) (by decide) tw103 dX5_copyFrom_48 e33 ?_
  obtain ⟨w34, e36, h35⟩ := Option.bind_eq_some_iff.mp h32
  clear h32
  refine wp_putV okX5 (k := 4) (by decide) rfl tw103 dX5_copyFrom_51 rfl rfl e36 ?_
  refine wp_aload_n dX5_copyFrom_54 rfl ?_
  refine wp_aload_n dX5_copyFrom_55 rfl ?_
  obtain ⟨x37, e39, h38⟩ := Option.bind_eq_some_iff.mp h35
  clear h35
  refine wp_getI okX5 (k := 5) (by decide) tw105 dX5_copyFrom_56 e39 ?_
  have c41 : x37 &&& 1 = x37 := Decidable.byContradiction fun z => by rw [if_neg z] at h38; cases h38
  rw [if_pos c41] at h38
  obtain ⟨w40, e44, h43⟩ := Option.bind_eq_some_iff.mp h38
  clear h38
  refine wp_putV okX5 (k := 5) (by decide) rfl tw105 dX5_copyFrom_59 (zb_n c41) (zb_f c41) e44 ?_
  cases h43
  exact wp_vret rfl dX5_copyFrom_62
def fX5_copyFrom (w : XW) (l0 : Nat) (l1 : Nat) : Option XW := if isO w l0 5 = true then eX5_copyFrom w l0 l1 else none
theorem OX5_copyFrom {w : XW} {l0 : Nat} {l1 : Nat} {q : XW} (h : fX5_copyFrom w l0 l1 = some q) : isO w l0 5 = true := Decidable.byContradiction fun z => by unfold fX5_copyFrom at h; rw [if_neg z] at h; cases h
theorem MX5_copyFrom {K : CX} {l : Launch} {w : XW} {l0 : Nat} {l1 : Nat} {q : XW} (h : fX5_copyFrom w l0 l1 = some q) : MT K l mX5_copyFrom 1 26 [.ref l0, .ref l1] w none q := by
  have z := OX5_copyFrom h
  unfold fX5_copyFrom at h
  rw [if_pos z] at h
  exact MT.of (by decide) (Nat.le_of_ble_eq_true rfl) rfl (EX5_copyFrom h)
/-! FractionRun$Past.push(LFractionRun$State;)V: frames 2, words 47 -/
abbrev mX3_push : MR := (⟨"FractionRun$Past", "push", "(LFractionRun$State;)V"⟩, prog_5_method_3_code, 2, none)
theorem dX3_push_0 : decode prog_5_method_3_code 0 = .ok (.aload_n 0, 1) := by decide +kernel
theorem dX3_push_1 : decode prog_5_method_3_code 1 = .ok (.getfield 11, 3) := by decide +kernel
theorem dX3_push_4 : decode prog_5_method_3_code 4 = .ok (.aload_n 0, 1) := by decide +kernel
theorem dX3_push_5 : decode prog_5_method_3_code 5 = .ok (.getfield 22, 3) := by decide +kernel
theorem dX3_push_8 : decode prog_5_method_3_code 8 = .ok (.aaload, 1) := by decide +kernel
theorem dX3_push_9 : decode prog_5_method_3_code 9 = .ok (.aload_n 1, 1) := by decide +kernel
theorem dX3_push_10 : decode prog_5_method_3_code 10 = .ok (.invokevirtual 25, 3) := by decide +kernel
theorem dX3_push_13 : decode prog_5_method_3_code 13 = .ok (.aload_n 0, 1) := by decide +kernel
theorem dX3_push_14 : decode prog_5_method_3_code 14 = .ok (.aload_n 0, 1) := by decide +kernel
theorem dX3_push_15 : decode prog_5_method_3_code 15 = .ok (.getfield 22, 3) := by decide +kernel
theorem dX3_push_18 : decode prog_5_method_3_code 18 = .ok (.iconst 1, 1) := by decide +kernel
theorem dX3_push_19 : decode prog_5_method_3_code 19 = .ok (.iadd, 1) := by decide +kernel
theorem dX3_push_20 : decode prog_5_method_3_code 20 = .ok (.bipush 8, 2) := by decide +kernel
theorem dX3_push_22 : decode prog_5_method_3_code 22 = .ok (.irem, 1) := by decide +kernel
theorem dX3_push_23 : decode prog_5_method_3_code 23 = .ok (.putfield 22, 3) := by decide +kernel
theorem dX3_push_26 : decode prog_5_method_3_code 26 = .ok (.aload_n 0, 1) := by decide +kernel
theorem dX3_push_27 : decode prog_5_method_3_code 27 = .ok (.aload_n 0, 1) := by decide +kernel
theorem dX3_push_28 : decode prog_5_method_3_code 28 = .ok (.getfield 18, 3) := by decide +kernel
theorem dX3_push_31 : decode prog_5_method_3_code 31 = .ok (.iconst 1, 1) := by decide +kernel
theorem dX3_push_32 : decode prog_5_method_3_code 32 = .ok (.iadd, 1) := by decide +kernel
theorem dX3_push_33 : decode prog_5_method_3_code 33 = .ok (.bipush 8, 2) := by decide +kernel
theorem dX3_push_35 : decode prog_5_method_3_code 35 = .ok (.invokestatic 29, 3) := by decide +kernel
theorem dX3_push_38 : decode prog_5_method_3_code 38 = .ok (.putfield 18, 3) := by decide +kernel
theorem dX3_push_41 : decode prog_5_method_3_code 41 = .ok (.return_, 1) := by decide +kernel
theorem okM_X3_push : okM mX3_push 1 := ⟨tw417, tw6, by decide, by decide, by decide +kernel⟩
def eX3_push (w : XW) (l0 : Nat) (l1 : Nat) : Option XW :=
  (gR w l0 3 0).bind fun x1 =>
  (gI w l0 3 1).bind fun x4 =>
  (aR w 0 x1 x4).bind fun x7 =>
  (fX5_copyFrom w x7 l1).bind fun q10 =>
  (gI q10 l0 3 1).bind fun x13 =>
  (pV q10 l0 3 1 (.int (irm (x13 + (1 : Int32)) (8 : Int32)))).bind fun w16 =>
  (gI w16 l0 3 2).bind fun x19 =>
  (pV w16 l0 3 2 (.int (imn (x19 + (1 : Int32)) (8 : Int32)))).bind fun w22 =>
  some w22
theorem EX3_push {K : CX} {l : Launch} {n0 k0 : Nat} {w : XW} {l0 : Nat} {l1 : Nat} {q : XW} (h0 : eX3_push w l0 l1 = some q) : WP K l mX3_push 2 47 n0 k0 none q 0 [some (.ref l0), some (.ref l1)] [] w := by
  unfold eX3_push at h0
  refine wp_aload_n dX3_push_0 rfl ?_
  obtain ⟨x1, e3, h2⟩ := Option.bind_eq_some_iff.mp h0
  clear h0
  refine wp_getR okX3 (k := 0) (by decide) tw133 dX3_push_1 e3 ?_
  refine wp_aload_n dX3_push_4 rfl ?_
  obtain ⟨x4, e6, h5⟩ := Option.bind_eq_some_iff.mp h2
  clear h2
  refine wp_getI okX3 (k := 1) (by decide) tw134 dX3_push_5 e6 ?_
  obtain ⟨x7, e9, h8⟩ := Option.bind_eq_some_iff.mp h5
  clear h5
  refine wp_aald (t := 0) rfl dX3_push_8 e9 ?_
  refine wp_aload_n dX3_push_9 rfl ?_
  obtain ⟨q10, e12, h11⟩ := Option.bind_eq_some_iff.mp h8
  clear h8
  refine wp_Vv (As := [.ref l1]) (S := []) okM_X5_copyFrom tw419 tw420 tw418 (OX5_copyFrom e12) rfl rfl rfl ⟨(Nat.le_of_ble_eq_true rfl), (Nat.le_of_ble_eq_true rfl)⟩ (Nat.le_of_ble_eq_true rfl) rfl dX3_push_10 (MX5_copyFrom e12) ?_
  refine wp_aload_n dX3_push_13 rfl ?_
  refine wp_aload_n dX3_push_14 rfl ?_
  obtain ⟨x13, e15, h14⟩ := Option.bind_eq_some_iff.mp h11
  clear h11
  refine wp_getI okX3 (k := 1) (by decide) tw134 dX3_push_15 e15 ?_
  refine wp_iconst (v := (1 : Int32)) dX3_push_18 (by decide) ?_
  refine wp_iadd dX3_push_19 ?_
  refine wp_bipush (v := (8 : Int32)) dX3_push_20 (by decide) ?_
  refine wp_irm dX3_push_22 (by decide) ?_
  obtain ⟨w16, e18, h17⟩ := Option.bind_eq_some_iff.mp h14
  clear h14
  refine wp_putV okX3 (k := 1) (by decide) rfl tw134 dX3_push_23 rfl rfl e18 ?_
  refine wp_aload_n dX3_push_26 rfl ?_
  refine wp_aload_n dX3_push_27 rfl ?_
  obtain ⟨x19, e21, h20⟩ := Option.bind_eq_some_iff.mp h17
  clear h17
  refine wp_getI okX3 (k := 2) (by decide) tw135 dX3_push_28 e21 ?_
  refine wp_iconst (v := (1 : Int32)) dX3_push_31 (by decide) ?_
  refine wp_iadd dX3_push_32 ?_
  refine wp_bipush (v := (8 : Int32)) dX3_push_33 (by decide) ?_
  refine wp_imn tw422 tw423 tw13 twMath_min ⟨(Nat.le_of_ble_eq_true rfl), (Nat.le_of_ble_eq_true rfl)⟩ rfl dX3_push_35 ?_
  obtain ⟨w22, e24, h23⟩ := Option.bind_eq_some_iff.mp h20
  clear h20
  refine wp_putV okX3 (k := 2) (by decide) rfl tw135 dX3_push_38 rfl rfl e24 ?_
  cases h23
  exact wp_vret rfl dX3_push_41
def fX3_push (w : XW) (l0 : Nat) (l1 : Nat) : Option XW := if isO w l0 3 = true then eX3_push w l0 l1 else none
theorem OX3_push {w : XW} {l0 : Nat} {l1 : Nat} {q : XW} (h : fX3_push w l0 l1 = some q) : isO w l0 3 = true := Decidable.byContradiction fun z => by unfold fX3_push at h; rw [if_neg z] at h; cases h
theorem MX3_push {K : CX} {l : Launch} {w : XW} {l0 : Nat} {l1 : Nat} {q : XW} (h : fX3_push w l0 l1 = some q) : MT K l mX3_push 2 47 [.ref l0, .ref l1] w none q := by
  have z := OX3_push h
  unfold fX3_push at h
  rw [if_pos z] at h
  exact MT.of (by decide) (Nat.le_of_ble_eq_true rfl) rfl (EX3_push h)
/-! FractionRun$State.multiplyByFraction(LFractionRun$Fractions;I)V: frames 1, words 20 -/
abbrev mX5_multiplyByFraction : MR := (⟨"FractionRun$State", "multiplyByFraction", "(LFractionRun$Fractions;I)V"⟩, prog_7_method_15_code, 5, none)
theorem dX5_multiplyByFraction_0 : decode prog_7_method_15_code 0 = .ok (.iload_n 2, 1) := by decide +kernel
theorem dX5_multiplyByFraction_1 : decode prog_7_method_15_code 1 = .ok (.bipush 6, 2) := by decide +kernel
theorem dX5_multiplyByFraction_3 : decode prog_7_method_15_code 3 = .ok (.imul, 1) := by decide +kernel
theorem dX5_multiplyByFraction_4 : decode prog_7_method_15_code 4 = .ok (.istore_n 3, 1) := by decide +kernel
theorem dX5_multiplyByFraction_5 : decode prog_7_method_15_code 5 = .ok (.iconst 0, 1) := by decide +kernel
theorem dX5_multiplyByFraction_6 : decode prog_7_method_15_code 6 = .ok (.istore 4, 2) := by decide +kernel
theorem dX5_multiplyByFraction_8 : decode prog_7_method_15_code 8 = .ok (.iload 4, 2) := by decide +kernel
theorem dX5_multiplyByFraction_10 : decode prog_7_method_15_code 10 = .ok (.bipush 6, 2) := by decide +kernel
theorem dX5_multiplyByFraction_12 : decode prog_7_method_15_code 12 = .ok (.if_icmp .ge 28, 3) := by decide +kernel
theorem dX5_multiplyByFraction_15 : decode prog_7_method_15_code 15 = .ok (.aload_n 0, 1) := by decide +kernel
theorem dX5_multiplyByFraction_16 : decode prog_7_method_15_code 16 = .ok (.getfield 9, 3) := by decide +kernel
theorem dX5_multiplyByFraction_19 : decode prog_7_method_15_code 19 = .ok (.iload 4, 2) := by decide +kernel
theorem dX5_multiplyByFraction_21 : decode prog_7_method_15_code 21 = .ok (.dup2, 1) := by decide +kernel
theorem dX5_multiplyByFraction_22 : decode prog_7_method_15_code 22 = .ok (.iaload, 1) := by decide +kernel
theorem dX5_multiplyByFraction_23 : decode prog_7_method_15_code 23 = .ok (.aload_n 1, 1) := by decide +kernel
theorem dX5_multiplyByFraction_24 : decode prog_7_method_15_code 24 = .ok (.getfield 52, 3) := by decide +kernel
theorem dX5_multiplyByFraction_27 : decode prog_7_method_15_code 27 = .ok (.iload_n 3, 1) := by decide +kernel
theorem dX5_multiplyByFraction_28 : decode prog_7_method_15_code 28 = .ok (.iload 4, 2) := by decide +kernel
theorem dX5_multiplyByFraction_30 : decode prog_7_method_15_code 30 = .ok (.iadd, 1) := by decide +kernel
theorem dX5_multiplyByFraction_31 : decode prog_7_method_15_code 31 = .ok (.iaload, 1) := by decide +kernel
theorem dX5_multiplyByFraction_32 : decode prog_7_method_15_code 32 = .ok (.iadd, 1) := by decide +kernel
theorem dX5_multiplyByFraction_33 : decode prog_7_method_15_code 33 = .ok (.iastore, 1) := by decide +kernel
theorem dX5_multiplyByFraction_34 : decode prog_7_method_15_code 34 = .ok (.iinc 4 1, 3) := by decide +kernel
theorem dX5_multiplyByFraction_37 : decode prog_7_method_15_code 37 = .ok (.goto (-29), 3) := by decide +kernel
theorem dX5_multiplyByFraction_40 : decode prog_7_method_15_code 40 = .ok (.return_, 1) := by decide +kernel
theorem okM_X5_multiplyByFraction : okM mX5_multiplyByFraction 2 := ⟨tw437, tw5, by decide, by decide, by decide +kernel⟩
abbrev KTX5_multiplyByFraction : Type := (XW → Nat → Nat → Int32 → Int32 → Option XW)
def hX5_multiplyByFraction_8 (k : KTX5_multiplyByFraction) (w : XW) (l0 : Nat) (l1 : Nat) (l3 : Int32) (l4 : Int32) : Option XW :=
  if (6 : Int32) ≤ l4 then
  some w
  else
  (gR w l0 5 0).bind fun x2 =>
  (aI w 0 x2 l4).bind fun x5 =>
  (gR w l1 1 3).bind fun x8 =>
  (aI w 0 x8 (l3 + l4)).bind fun x11 =>
  (sI w 0 x2 l4 (x5 + x11)).bind fun w14 =>
  k w14 l0 l1 l3 (l4 + (1 : Int32))
theorem HX5_multiplyByFraction_8 {K : CX} {l : Launch} {n0 k0 : Nat} {k : KTX5_multiplyByFraction} (hk0 : ∀ (w : XW) (l0 : Nat) (l1 : Nat) (l3 : Int32) (l4 : Int32) (q : XW), k w l0 l1 l3 l4 = some q → WP K l mX5_multiplyByFraction 1 20 n0 k0 none q 8 [some (.ref l0), some (.ref l1), none, some (.int l3), some (.int l4)] [] w) {w : XW} {l0 : Nat} {l1 : Nat} {l3 : Int32} {l4 : Int32} {q : XW} (h0 : hX5_multiplyByFraction_8 k w l0 l1 l3 l4 = some q) : WP K l mX5_multiplyByFraction 1 20 n0 k0 none q 8 [some (.ref l0), some (.ref l1), none, some (.int l3), some (.int l4)] [] w := by
  unfold hX5_multiplyByFraction_8 at h0
  refine wp_iload dX5_multiplyByFraction_8 rfl ?_
  refine wp_bipush (v := (6 : Int32)) dX5_multiplyByFraction_10 (by decide) ?_
  refine wp_icmp_ge (tgt := 40) dX5_multiplyByFraction_12 (by decide) (fun c1 => ?_) (fun c1 => ?_)
  · rw [if_pos c1] at h0
    cases h0
    exact wp_vret rfl dX5_multiplyByFraction_40
  · rw [if_neg c1] at h0
    refine wp_aload_n dX5_multiplyByFraction_15 rfl ?_
    obtain ⟨x2, e4, h3⟩ := Option.bind_eq_some_iff.mp h0
    clear h0
    refine wp_getR okX5 (k := 0) (by decide) tw92 dX5_multiplyByFraction_16 e4 ?_
    refine wp_iload dX5_multiplyByFraction_19 rfl ?_
    refine wp_dup2 dX5_multiplyByFraction_21 rfl rfl ?_
    obtain ⟨x5, e7, h6⟩ := Option.bind_eq_some_iff.mp h3
    clear h3
    refine wp_iald dX5_multiplyByFraction_22 e7 ?_
    refine wp_aload_n dX5_multiplyByFraction_23 rfl ?_
    obtain ⟨x8, e10, h9⟩ := Option.bind_eq_some_iff.mp h6
    clear h6
    refine wp_getR okX1 (k := 3) (by decide) tw66 dX5_multiplyByFraction_24 e10 ?_
    refine wp_iload_n dX5_multiplyByFraction_27 rfl ?_
    refine wp_iload dX5_multiplyByFraction_28 rfl ?_
    refine wp_iadd dX5_multiplyByFraction_30 ?_
    obtain ⟨x11, e13, h12⟩ := Option.bind_eq_some_iff.mp h9
    clear h9
    refine wp_iald dX5_multiplyByFraction_31 e13 ?_
    refine wp_iadd dX5_multiplyByFraction_32 ?_
    obtain ⟨w14, e16, h15⟩ := Option.bind_eq_some_iff.mp h12
    clear h12
    refine wp_iast dX5_multiplyByFraction_33 e16 ?_
    refine wp_iinc (v := (l4 + (1 : Int32))) (L1 := [some (.ref l0), some (.ref l1), none, some (.int l3), some (.int (l4 + (1 : Int32)))]) dX5_multiplyByFraction_34 (Nat.le_of_ble_eq_true rfl) rfl (congrArg (fun z => l4 + z) (by decide)) rfl ?_
    refine wp_goto (tgt := 8) dX5_multiplyByFraction_37 (by decide) ?_
    exact WP.wk (hk0 _ _ _ _ _ _ h15) (And.intro rfl (And.intro rfl (And.intro rfl (And.intro rfl trivial))))
def eX5_multiplyByFraction (k : KTX5_multiplyByFraction) (w : XW) (l0 : Nat) (l1 : Nat) (l2 : Int32) : Option XW :=
  k w l0 l1 (l2 * (6 : Int32)) (0 : Int32)
theorem EX5_multiplyByFraction {K : CX} {l : Launch} {n0 k0 : Nat} {k : KTX5_multiplyByFraction} (hk0 : ∀ (w : XW) (l0 : Nat) (l1 : Nat) (l3 : Int32) (l4 : Int32) (q : XW), k w l0 l1 l3 l4 = some q → WP K l mX5_multiplyByFraction 1 20 n0 k0 none q 8 [some (.ref l0), some (.ref l1), none, some (.int l3), some (.int l4)] [] w) {w : XW} {l0 : Nat} {l1 : Nat} {l2 : Int32} {q : XW} (h0 : eX5_multiplyByFraction k w l0 l1 l2 = some q) : WP K l mX5_multiplyByFraction 1 20 n0 k0 none q 0 [some (.ref l0), some (.ref l1), some (.int l2), none, none] [] w := by
  unfold eX5_multiplyByFraction at h0
  refine wp_iload_n dX5_multiplyByFraction_0 rfl ?_
  refine wp_bipush (v := (6 : Int32)) dX5_multiplyByFraction_1 (by decide) ?_
  refine wp_imul dX5_multiplyByFraction_3 ?_
  refine wp_istore_n (L1 := [some (.ref l0), some (.ref l1), some (.int l2), some (.int (l2 * (6 : Int32))), none]) dX5_multiplyByFraction_4 (Nat.le_of_ble_eq_true rfl) rfl ?_
  refine wp_iconst (v := (0 : Int32)) dX5_multiplyByFraction_5 (by decide) ?_
  refine wp_istore (L1 := [some (.ref l0), some (.ref l1), some (.int l2), some (.int (l2 * (6 : Int32))), some (.int (0 : Int32))]) dX5_multiplyByFraction_6 (Nat.le_of_ble_eq_true rfl) rfl ?_
  exact WP.wk (hk0 _ _ _ _ _ _ h0) (And.intro rfl (And.intro rfl (And.intro rfl (And.intro rfl trivial))))
def loX5_multiplyByFraction : Nat → KTX5_multiplyByFraction
  | 0 => fun _ _ _ _ _ => none
  | n + 1 => hX5_multiplyByFraction_8 (loX5_multiplyByFraction n)
theorem LOX5_multiplyByFraction {K : CX} {l : Launch} {n0 k0 : Nat} : ∀ n : Nat, (∀ (w : XW) (l0 : Nat) (l1 : Nat) (l3 : Int32) (l4 : Int32) (q : XW), (loX5_multiplyByFraction n) w l0 l1 l3 l4 = some q → WP K l mX5_multiplyByFraction 1 20 n0 k0 none q 8 [some (.ref l0), some (.ref l1), none, some (.int l3), some (.int l4)] [] w) := by
  intro n
  induction n with
  | zero => exact fun _ _ _ _ _ q h => (by cases h)
  | succ n ih => exact fun _ _ _ _ _ q h => HX5_multiplyByFraction_8 ih h
def fX5_multiplyByFraction (w : XW) (l0 : Nat) (l1 : Nat) (l2 : Int32) : Option XW := if isO w l0 5 = true then eX5_multiplyByFraction (loX5_multiplyByFraction FU) w l0 l1 l2 else none
theorem OX5_multiplyByFraction {w : XW} {l0 : Nat} {l1 : Nat} {l2 : Int32} {q : XW} (h : fX5_multiplyByFraction w l0 l1 l2 = some q) : isO w l0 5 = true := Decidable.byContradiction fun z => by unfold fX5_multiplyByFraction at h; rw [if_neg z] at h; cases h
theorem MX5_multiplyByFraction {K : CX} {l : Launch} {w : XW} {l0 : Nat} {l1 : Nat} {l2 : Int32} {q : XW} (h : fX5_multiplyByFraction w l0 l1 l2 = some q) : MT K l mX5_multiplyByFraction 1 20 [.ref l0, .ref l1, .int l2] w none q := by
  have z := OX5_multiplyByFraction h
  unfold fX5_multiplyByFraction at h
  rw [if_pos z] at h
  exact MT.of (by decide) (Nat.le_of_ble_eq_true rfl) rfl (EX5_multiplyByFraction (LOX5_multiplyByFraction FU) h)
/-! FractionRun$State.takeStep(LFractionRun$Fractions;)I: frames 3, words 71 -/
abbrev mX5_takeStep : MR := (⟨"FractionRun$State", "takeStep", "(LFractionRun$Fractions;)I"⟩, prog_7_method_14_code, 3, (some .int))
theorem dX5_takeStep_0 : decode prog_7_method_14_code 0 = .ok (.aload_n 0, 1) := by decide +kernel
theorem dX5_takeStep_1 : decode prog_7_method_14_code 1 = .ok (.aload_n 1, 1) := by decide +kernel
theorem dX5_takeStep_2 : decode prog_7_method_14_code 2 = .ok (.invokevirtual 63, 3) := by decide +kernel
theorem dX5_takeStep_5 : decode prog_7_method_14_code 5 = .ok (.istore_n 2, 1) := by decide +kernel
theorem dX5_takeStep_6 : decode prog_7_method_14_code 6 = .ok (.iload_n 2, 1) := by decide +kernel
theorem dX5_takeStep_7 : decode prog_7_method_14_code 7 = .ok (.bipush (-4), 2) := by decide +kernel
theorem dX5_takeStep_9 : decode prog_7_method_14_code 9 = .ok (.if_icmp .ne 6, 3) := by decide +kernel
theorem dX5_takeStep_12 : decode prog_7_method_14_code 12 = .ok (.bipush (-4), 2) := by decide +kernel
theorem dX5_takeStep_14 : decode prog_7_method_14_code 14 = .ok (.ireturn, 1) := by decide +kernel
theorem dX5_takeStep_15 : decode prog_7_method_14_code 15 = .ok (.aload_n 0, 1) := by decide +kernel
theorem dX5_takeStep_16 : decode prog_7_method_14_code 16 = .ok (.aload_n 1, 1) := by decide +kernel
theorem dX5_takeStep_17 : decode prog_7_method_14_code 17 = .ok (.iload_n 2, 1) := by decide +kernel
theorem dX5_takeStep_18 : decode prog_7_method_14_code 18 = .ok (.invokevirtual 67, 3) := by decide +kernel
theorem dX5_takeStep_21 : decode prog_7_method_14_code 21 = .ok (.aload_n 0, 1) := by decide +kernel
theorem dX5_takeStep_22 : decode prog_7_method_14_code 22 = .ok (.iconst 1, 1) := by decide +kernel
theorem dX5_takeStep_23 : decode prog_7_method_14_code 23 = .ok (.putfield 71, 3) := by decide +kernel
theorem dX5_takeStep_26 : decode prog_7_method_14_code 26 = .ok (.aload_n 1, 1) := by decide +kernel
theorem dX5_takeStep_27 : decode prog_7_method_14_code 27 = .ok (.getfield 49, 3) := by decide +kernel
theorem dX5_takeStep_30 : decode prog_7_method_14_code 30 = .ok (.iload_n 2, 1) := by decide +kernel
theorem dX5_takeStep_31 : decode prog_7_method_14_code 31 = .ok (.iaload, 1) := by decide +kernel
theorem dX5_takeStep_32 : decode prog_7_method_14_code 32 = .ok (.iconst 3, 1) := by decide +kernel
theorem dX5_takeStep_33 : decode prog_7_method_14_code 33 = .ok (.if_icmp .ne 23, 3) := by decide +kernel
theorem dX5_takeStep_36 : decode prog_7_method_14_code 36 = .ok (.aload_n 0, 1) := by decide +kernel
theorem dX5_takeStep_37 : decode prog_7_method_14_code 37 = .ok (.aload_n 1, 1) := by decide +kernel
theorem dX5_takeStep_38 : decode prog_7_method_14_code 38 = .ok (.iload_n 2, 1) := by decide +kernel
theorem dX5_takeStep_39 : decode prog_7_method_14_code 39 = .ok (.invokevirtual 55, 3) := by decide +kernel
theorem dX5_takeStep_42 : decode prog_7_method_14_code 42 = .ok (.ifCond .eq 14, 3) := by decide +kernel
theorem dX5_takeStep_45 : decode prog_7_method_14_code 45 = .ok (.aload_n 0, 1) := by decide +kernel
theorem dX5_takeStep_46 : decode prog_7_method_14_code 46 = .ok (.aload_n 1, 1) := by decide +kernel
theorem dX5_takeStep_47 : decode prog_7_method_14_code 47 = .ok (.iload_n 2, 1) := by decide +kernel
theorem dX5_takeStep_48 : decode prog_7_method_14_code 48 = .ok (.invokevirtual 67, 3) := by decide +kernel
theorem dX5_takeStep_51 : decode prog_7_method_14_code 51 = .ok (.aload_n 0, 1) := by decide +kernel
theorem dX5_takeStep_52 : decode prog_7_method_14_code 52 = .ok (.iconst 2, 1) := by decide +kernel
theorem dX5_takeStep_53 : decode prog_7_method_14_code 53 = .ok (.putfield 71, 3) := by decide +kernel
theorem dX5_takeStep_56 : decode prog_7_method_14_code 56 = .ok (.aload_n 0, 1) := by decide +kernel
theorem dX5_takeStep_57 : decode prog_7_method_14_code 57 = .ok (.dup, 1) := by decide +kernel
theorem dX5_takeStep_58 : decode prog_7_method_14_code 58 = .ok (.getfield 39, 3) := by decide +kernel
theorem dX5_takeStep_61 : decode prog_7_method_14_code 61 = .ok (.iconst 1, 1) := by decide +kernel
theorem dX5_takeStep_62 : decode prog_7_method_14_code 62 = .ok (.iload_n 2, 1) := by decide +kernel
theorem dX5_takeStep_63 : decode prog_7_method_14_code 63 = .ok (.ishl, 1) := by decide +kernel
theorem dX5_takeStep_64 : decode prog_7_method_14_code 64 = .ok (.ior, 1) := by decide +kernel
theorem dX5_takeStep_65 : decode prog_7_method_14_code 65 = .ok (.putfield 39, 3) := by decide +kernel
theorem dX5_takeStep_68 : decode prog_7_method_14_code 68 = .ok (.aload_n 0, 1) := by decide +kernel
theorem dX5_takeStep_69 : decode prog_7_method_14_code 69 = .ok (.aload_n 1, 1) := by decide +kernel
theorem dX5_takeStep_70 : decode prog_7_method_14_code 70 = .ok (.getfield 49, 3) := by decide +kernel
theorem dX5_takeStep_73 : decode prog_7_method_14_code 73 = .ok (.iload_n 2, 1) := by decide +kernel
theorem dX5_takeStep_74 : decode prog_7_method_14_code 74 = .ok (.iaload, 1) := by decide +kernel
theorem dX5_takeStep_75 : decode prog_7_method_14_code 75 = .ok (.iconst 5, 1) := by decide +kernel
theorem dX5_takeStep_76 : decode prog_7_method_14_code 76 = .ok (.if_icmp .ne 7, 3) := by decide +kernel
theorem dX5_takeStep_79 : decode prog_7_method_14_code 79 = .ok (.iconst 1, 1) := by decide +kernel
theorem dX5_takeStep_80 : decode prog_7_method_14_code 80 = .ok (.goto 4, 3) := by decide +kernel
theorem dX5_takeStep_83 : decode prog_7_method_14_code 83 = .ok (.iconst 0, 1) := by decide +kernel
theorem dX5_takeStep_84 : decode prog_7_method_14_code 84 = .ok (.putfield 45, 3) := by decide +kernel
theorem dX5_takeStep_87 : decode prog_7_method_14_code 87 = .ok (.aload_n 0, 1) := by decide +kernel
theorem dX5_takeStep_88 : decode prog_7_method_14_code 88 = .ok (.dup, 1) := by decide +kernel
theorem dX5_takeStep_89 : decode prog_7_method_14_code 89 = .ok (.getfield 42, 3) := by decide +kernel
theorem dX5_takeStep_92 : decode prog_7_method_14_code 92 = .ok (.iconst 1, 1) := by decide +kernel
theorem dX5_takeStep_93 : decode prog_7_method_14_code 93 = .ok (.iadd, 1) := by decide +kernel
theorem dX5_takeStep_94 : decode prog_7_method_14_code 94 = .ok (.putfield 42, 3) := by decide +kernel
theorem dX5_takeStep_97 : decode prog_7_method_14_code 97 = .ok (.iload_n 2, 1) := by decide +kernel
theorem dX5_takeStep_98 : decode prog_7_method_14_code 98 = .ok (.ireturn, 1) := by decide +kernel
theorem okM_X5_takeStep : okM mX5_takeStep 1 := ⟨tw433, tw5, by decide, by decide, by decide +kernel⟩
def bX5_takeStep_84 (w : XW) (l0 : Nat) (l2 : Int32) (s0 : Nat) (s1 : Int32) : Option (Int32 × XW) :=
  if s1 &&& 1 = s1 then
  (pV w s0 5 5 (.int s1)).bind fun w1 =>
  (gI w1 l0 5 4).bind fun x6 =>
  (pV w1 l0 5 4 (.int (x6 + (1 : Int32)))).bind fun w9 =>
  some (l2, w9)
  else none
theorem BX5_takeStep_84 {K : CX} {l : Launch} {n0 k0 : Nat} {w : XW} {l0 : Nat} {l2 : Int32} {s0 : Nat} {s1 : Int32} {q : Int32 × XW} (h0 : bX5_takeStep_84 w l0 l2 s0 s1 = some q) : WP K l mX5_takeStep 3 71 n0 k0 (some (.int q.1)) q.2 84 [some (.ref l0), none, some (.int l2)] [.int s1, .ref s0] w := by
  unfold bX5_takeStep_84 at h0
  have c2 : s1 &&& 1 = s1 := Decidable.byContradiction fun z => by rw [if_neg z] at h0; cases h0
  rw [if_pos c2] at h0
  obtain ⟨w1, e5, h4⟩ := Option.bind_eq_some_iff.mp h0
  clear h0
  refine wp_putV okX5 (k := 5) (by decide) rfl tw105 dX5_takeStep_84 (zb_n c2) (zb_f c2) e5 ?_
  refine wp_aload_n dX5_takeStep_87 rfl ?_
  refine wp_dup dX5_takeStep_88 rfl ?_
  obtain ⟨x6, e8, h7⟩ := Option.bind_eq_some_iff.mp h4
  clear h4
  refine wp_getI okX5 (k := 4) (by decide) tw103 dX5_takeStep_89 e8 ?_
  refine wp_iconst (v := (1 : Int32)) dX5_takeStep_92 (by decide) ?_
  refine wp_iadd dX5_takeStep_93 ?_
  obtain ⟨w9, e11, h10⟩ := Option.bind_eq_some_iff.mp h7
  clear h7
  refine wp_putV okX5 (k := 4) (by decide) rfl tw103 dX5_takeStep_94 rfl rfl e11 ?_
  refine wp_iload_n dX5_takeStep_97 rfl ?_
  cases h10
  exact wp_iret rfl dX5_takeStep_98
def bX5_takeStep_56 (w : XW) (l0 : Nat) (l1 : Nat) (l2 : Int32) : Option (Int32 × XW) :=
  (gI w l0 5 3).bind fun x1 =>
  (pV w l0 5 3 (.int (x1 ||| ((1 : Int32) <<< (l2 &&& 31))))).bind fun w4 =>
  (gR w4 l1 1 0).bind fun x7 =>
  (aI w4 0 x7 l2).bind fun x10 =>
  if x10 = (5 : Int32) then
  bX5_takeStep_84 w4 l0 l2 l0 (1 : Int32)
  else
  bX5_takeStep_84 w4 l0 l2 l0 (0 : Int32)
theorem BX5_takeStep_56 {K : CX} {l : Launch} {n0 k0 : Nat} {w : XW} {l0 : Nat} {l1 : Nat} {l2 : Int32} {q : Int32 × XW} (h0 : bX5_takeStep_56 w l0 l1 l2 = some q) : WP K l mX5_takeStep 3 71 n0 k0 (some (.int q.1)) q.2 56 [some (.ref l0), some (.ref l1), some (.int l2)] [] w := by
  unfold bX5_takeStep_56 at h0
  refine wp_aload_n dX5_takeStep_56 rfl ?_
  refine wp_dup dX5_takeStep_57 rfl ?_
  obtain ⟨x1, e3, h2⟩ := Option.bind_eq_some_iff.mp h0
  clear h0
  refine wp_getI okX5 (k := 3) (by decide) tw100 dX5_takeStep_58 e3 ?_
  refine wp_iconst (v := (1 : Int32)) dX5_takeStep_61 (by decide) ?_
  refine wp_iload_n dX5_takeStep_62 rfl ?_
  refine wp_ishl dX5_takeStep_63 ?_
  refine wp_ior dX5_takeStep_64 ?_
  obtain ⟨w4, e6, h5⟩ := Option.bind_eq_some_iff.mp h2
  clear h2
  refine wp_putV okX5 (k := 3) (by decide) rfl tw100 dX5_takeStep_65 rfl rfl e6 ?_
  refine wp_aload_n dX5_takeStep_68 rfl ?_
  refine wp_aload_n dX5_takeStep_69 rfl ?_
  obtain ⟨x7, e9, h8⟩ := Option.bind_eq_some_iff.mp h5
  clear h5
  refine wp_getR okX1 (k := 0) (by decide) tw60 dX5_takeStep_70 e9 ?_
  refine wp_iload_n dX5_takeStep_73 rfl ?_
  obtain ⟨x10, e12, h11⟩ := Option.bind_eq_some_iff.mp h8
  clear h8
  refine wp_iald dX5_takeStep_74 e12 ?_
  refine wp_iconst (v := (5 : Int32)) dX5_takeStep_75 (by decide) ?_
  refine wp_icmp_ne (tgt := 83) dX5_takeStep_76 (by decide) (fun c13 => ?_) (fun c13 => ?_)
  · rw [if_neg c13] at h11
    refine wp_iconst (v := (0 : Int32)) dX5_takeStep_83 (by decide) ?_
    exact WP.wk (BX5_takeStep_84 h11) (And.intro rfl (And.intro rfl trivial))
  · rw [if_pos c13] at h11
    refine wp_iconst (v := (1 : Int32)) dX5_takeStep_79 (by decide) ?_
    refine wp_goto (tgt := 84) dX5_takeStep_80 (by decide) ?_
    exact WP.wk (BX5_takeStep_84 h11) (And.intro rfl (And.intro rfl trivial))
def eX5_takeStep (w : XW) (l0 : Nat) (l1 : Nat) : Option (Int32 × XW) :=
  (fX5_nextFraction w l0 l1).bind fun q1 =>
  if q1.1 = (-4 : Int32) then
  some ((-4 : Int32), q1.2)
  else
  (fX5_multiplyByFraction q1.2 l0 l1 q1.1).bind fun q5 =>
  (pV q5 l0 5 6 (.int (1 : Int32))).bind fun w8 =>
  (gR w8 l1 1 0).bind fun x11 =>
  (aI w8 0 x11 q1.1).bind fun x14 =>
  if x14 = (3 : Int32) then
  (fX5_isUsable w8 l0 l1 q1.1).bind fun q18 =>
  if q18.1 = 0 then
  bX5_takeStep_56 q18.2 l0 l1 q1.1
  else
  (fX5_multiplyByFraction q18.2 l0 l1 q1.1).bind fun q22 =>
  (pV q22 l0 5 6 (.int (2 : Int32))).bind fun w25 =>
  bX5_takeStep_56 w25 l0 l1 q1.1
  else
  bX5_takeStep_56 w8 l0 l1 q1.1
theorem EX5_takeStep {K : CX} {l : Launch} {n0 k0 : Nat} {w : XW} {l0 : Nat} {l1 : Nat} {q : Int32 × XW} (h0 : eX5_takeStep w l0 l1 = some q) : WP K l mX5_takeStep 3 71 n0 k0 (some (.int q.1)) q.2 0 [some (.ref l0), some (.ref l1), none] [] w := by
  unfold eX5_takeStep at h0
  refine wp_aload_n dX5_takeStep_0 rfl ?_
  refine wp_aload_n dX5_takeStep_1 rfl ?_
  obtain ⟨q1, e3, h2⟩ := Option.bind_eq_some_iff.mp h0
  clear h0
  refine wp_Vi (As := [.ref l1]) (S := []) okM_X5_nextFraction tw410 tw411 tw409 (OX5_nextFraction e3) rfl rfl rfl ⟨(Nat.le_of_ble_eq_true rfl), (Nat.le_of_ble_eq_true rfl)⟩ (Nat.le_of_ble_eq_true rfl) rfl dX5_takeStep_2 (MX5_nextFraction e3) ?_
  refine wp_istore_n (L1 := [some (.ref l0), some (.ref l1), some (.int q1.1)]) dX5_takeStep_5 (Nat.le_of_ble_eq_true rfl) rfl ?_
  refine wp_iload_n dX5_takeStep_6 rfl ?_
  refine wp_bipush (v := (-4 : Int32)) dX5_takeStep_7 (by decide) ?_
  refine wp_icmp_ne (tgt := 15) dX5_takeStep_9 (by decide) (fun c4 => ?_) (fun c4 => ?_)
  · rw [if_neg c4] at h2
    refine wp_aload_n dX5_takeStep_15 rfl ?_
    refine wp_aload_n dX5_takeStep_16 rfl ?_
    refine wp_iload_n dX5_takeStep_17 rfl ?_
    obtain ⟨q5, e7, h6⟩ := Option.bind_eq_some_iff.mp h2
    clear h2
    refine wp_Vv (As := [.ref l1, .int q1.1]) (S := []) okM_X5_multiplyByFraction tw436 twP_X5_multiplyByFraction tw434 (OX5_multiplyByFraction e7) rfl rfl rfl ⟨(Nat.le_of_ble_eq_true rfl), (Nat.le_of_ble_eq_true rfl)⟩ (Nat.le_of_ble_eq_true rfl) rfl dX5_takeStep_18 (MX5_multiplyByFraction e7) ?_
    refine wp_aload_n dX5_takeStep_21 rfl ?_
    refine wp_iconst (v := (1 : Int32)) dX5_takeStep_22 (by decide) ?_
    obtain ⟨w8, e10, h9⟩ := Option.bind_eq_some_iff.mp h6
    clear h6
    refine wp_putV okX5 (k := 6) (by decide) rfl tw107 dX5_takeStep_23 rfl rfl e10 ?_
    refine wp_aload_n dX5_takeStep_26 rfl ?_
    obtain ⟨x11, e13, h12⟩ := Option.bind_eq_some_iff.mp h9
    clear h9
    refine wp_getR okX1 (k := 0) (by decide) tw60 dX5_takeStep_27 e13 ?_
    refine wp_iload_n dX5_takeStep_30 rfl ?_
    obtain ⟨x14, e16, h15⟩ := Option.bind_eq_some_iff.mp h12
    clear h12
    refine wp_iald dX5_takeStep_31 e16 ?_
    refine wp_iconst (v := (3 : Int32)) dX5_takeStep_32 (by decide) ?_
    refine wp_icmp_ne (tgt := 56) dX5_takeStep_33 (by decide) (fun c17 => ?_) (fun c17 => ?_)
    · rw [if_neg c17] at h15
      exact WP.wk (BX5_takeStep_56 h15) (And.intro rfl (And.intro rfl (And.intro rfl trivial)))
    · rw [if_pos c17] at h15
      refine wp_aload_n dX5_takeStep_36 rfl ?_
      refine wp_aload_n dX5_takeStep_37 rfl ?_
      refine wp_iload_n dX5_takeStep_38 rfl ?_
      obtain ⟨q18, e20, h19⟩ := Option.bind_eq_some_iff.mp h15
      clear h15
      refine wp_Vi (As := [.ref l1, .int q1.1]) (S := []) okM_X5_isUsable tw391 tw392 tw413 (OX5_isUsable e20) rfl rfl rfl ⟨(Nat.le_of_ble_eq_true rfl), (Nat.le_of_ble_eq_true rfl)⟩ (Nat.le_of_ble_eq_true rfl) rfl dX5_takeStep_39 (MX5_isUsable e20) ?_
      refine wp_if_eq (tgt := 56) dX5_takeStep_42 (by decide) (fun c21 => ?_) (fun c21 => ?_)
      · rw [if_pos c21] at h19
        exact WP.wk (BX5_takeStep_56 h19) (And.intro rfl (And.intro rfl (And.intro rfl trivial)))
      · rw [if_neg c21] at h19
        refine wp_aload_n dX5_takeStep_45 rfl ?_
        refine wp_aload_n dX5_takeStep_46 rfl ?_
        refine wp_iload_n dX5_takeStep_47 rfl ?_
        obtain ⟨q22, e24, h23⟩ := Option.bind_eq_some_iff.mp h19
        clear h19
        refine wp_Vv (As := [.ref l1, .int q1.1]) (S := []) okM_X5_multiplyByFraction tw436 twP_X5_multiplyByFraction tw434 (OX5_multiplyByFraction e24) rfl rfl rfl ⟨(Nat.le_of_ble_eq_true rfl), (Nat.le_of_ble_eq_true rfl)⟩ (Nat.le_of_ble_eq_true rfl) rfl dX5_takeStep_48 (MX5_multiplyByFraction e24) ?_
        refine wp_aload_n dX5_takeStep_51 rfl ?_
        refine wp_iconst (v := (2 : Int32)) dX5_takeStep_52 (by decide) ?_
        obtain ⟨w25, e27, h26⟩ := Option.bind_eq_some_iff.mp h23
        clear h23
        refine wp_putV okX5 (k := 6) (by decide) rfl tw107 dX5_takeStep_53 rfl rfl e27 ?_
        exact WP.wk (BX5_takeStep_56 h26) (And.intro rfl (And.intro rfl (And.intro rfl trivial)))
  · rw [if_pos c4] at h2
    refine wp_bipush (v := (-4 : Int32)) dX5_takeStep_12 (by decide) ?_
    cases h2
    exact wp_iret rfl dX5_takeStep_14
def fX5_takeStep (w : XW) (l0 : Nat) (l1 : Nat) : Option (Int32 × XW) := if isO w l0 5 = true then eX5_takeStep w l0 l1 else none
theorem OX5_takeStep {w : XW} {l0 : Nat} {l1 : Nat} {q : Int32 × XW} (h : fX5_takeStep w l0 l1 = some q) : isO w l0 5 = true := Decidable.byContradiction fun z => by unfold fX5_takeStep at h; rw [if_neg z] at h; cases h
theorem MX5_takeStep {K : CX} {l : Launch} {w : XW} {l0 : Nat} {l1 : Nat} {q : Int32 × XW} (h : fX5_takeStep w l0 l1 = some q) : MT K l mX5_takeStep 3 71 [.ref l0, .ref l1] w (some (.int q.1)) q.2 := by
  have z := OX5_takeStep h
  unfold fX5_takeStep at h
  rw [if_pos z] at h
  exact MT.of (by decide) (Nat.le_of_ble_eq_true rfl) rfl (EX5_takeStep h)
