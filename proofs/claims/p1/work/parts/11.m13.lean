/-! FractionRun$State.sortRow()V: frames 1, words 20 -/
abbrev mX5_sortRow : MR := (⟨"FractionRun$State", "sortRow", "()V"⟩, prog_7_method_21_code, 4, none)
theorem dX5_sortRow_0 : decode prog_7_method_21_code 0 = .ok (.iconst 0, 1) := by decide +kernel
theorem dX5_sortRow_1 : decode prog_7_method_21_code 1 = .ok (.istore_n 1, 1) := by decide +kernel
theorem dX5_sortRow_2 : decode prog_7_method_21_code 2 = .ok (.iconst 0, 1) := by decide +kernel
theorem dX5_sortRow_3 : decode prog_7_method_21_code 3 = .ok (.istore_n 2, 1) := by decide +kernel
theorem dX5_sortRow_4 : decode prog_7_method_21_code 4 = .ok (.iconst 0, 1) := by decide +kernel
theorem dX5_sortRow_5 : decode prog_7_method_21_code 5 = .ok (.istore_n 3, 1) := by decide +kernel
theorem dX5_sortRow_6 : decode prog_7_method_21_code 6 = .ok (.iload_n 3, 1) := by decide +kernel
theorem dX5_sortRow_7 : decode prog_7_method_21_code 7 = .ok (.aload_n 0, 1) := by decide +kernel
theorem dX5_sortRow_8 : decode prog_7_method_21_code 8 = .ok (.getfield 33, 3) := by decide +kernel
theorem dX5_sortRow_11 : decode prog_7_method_21_code 11 = .ok (.if_icmp .ge 20, 3) := by decide +kernel
theorem dX5_sortRow_14 : decode prog_7_method_21_code 14 = .ok (.iload_n 2, 1) := by decide +kernel
theorem dX5_sortRow_15 : decode prog_7_method_21_code 15 = .ok (.iconst 1, 1) := by decide +kernel
theorem dX5_sortRow_16 : decode prog_7_method_21_code 16 = .ok (.aload_n 0, 1) := by decide +kernel
theorem dX5_sortRow_17 : decode prog_7_method_21_code 17 = .ok (.getfield 15, 3) := by decide +kernel
theorem dX5_sortRow_20 : decode prog_7_method_21_code 20 = .ok (.iload_n 3, 1) := by decide +kernel
theorem dX5_sortRow_21 : decode prog_7_method_21_code 21 = .ok (.iaload, 1) := by decide +kernel
theorem dX5_sortRow_22 : decode prog_7_method_21_code 22 = .ok (.ishl, 1) := by decide +kernel
theorem dX5_sortRow_23 : decode prog_7_method_21_code 23 = .ok (.ior, 1) := by decide +kernel
theorem dX5_sortRow_24 : decode prog_7_method_21_code 24 = .ok (.istore_n 2, 1) := by decide +kernel
theorem dX5_sortRow_25 : decode prog_7_method_21_code 25 = .ok (.iinc 3 1, 3) := by decide +kernel
theorem dX5_sortRow_28 : decode prog_7_method_21_code 28 = .ok (.goto (-22), 3) := by decide +kernel
theorem dX5_sortRow_31 : decode prog_7_method_21_code 31 = .ok (.iconst 0, 1) := by decide +kernel
theorem dX5_sortRow_32 : decode prog_7_method_21_code 32 = .ok (.istore_n 3, 1) := by decide +kernel
theorem dX5_sortRow_33 : decode prog_7_method_21_code 33 = .ok (.iload_n 3, 1) := by decide +kernel
theorem dX5_sortRow_34 : decode prog_7_method_21_code 34 = .ok (.bipush 8, 2) := by decide +kernel
theorem dX5_sortRow_36 : decode prog_7_method_21_code 36 = .ok (.if_icmp .ge 28, 3) := by decide +kernel
theorem dX5_sortRow_39 : decode prog_7_method_21_code 39 = .ok (.iload_n 2, 1) := by decide +kernel
theorem dX5_sortRow_40 : decode prog_7_method_21_code 40 = .ok (.iload_n 3, 1) := by decide +kernel
theorem dX5_sortRow_41 : decode prog_7_method_21_code 41 = .ok (.ishr, 1) := by decide +kernel
theorem dX5_sortRow_42 : decode prog_7_method_21_code 42 = .ok (.iconst 1, 1) := by decide +kernel
theorem dX5_sortRow_43 : decode prog_7_method_21_code 43 = .ok (.iand, 1) := by decide +kernel
theorem dX5_sortRow_44 : decode prog_7_method_21_code 44 = .ok (.iconst 1, 1) := by decide +kernel
theorem dX5_sortRow_45 : decode prog_7_method_21_code 45 = .ok (.if_icmp .ne 13, 3) := by decide +kernel
theorem dX5_sortRow_48 : decode prog_7_method_21_code 48 = .ok (.aload_n 0, 1) := by decide +kernel
theorem dX5_sortRow_49 : decode prog_7_method_21_code 49 = .ok (.getfield 15, 3) := by decide +kernel
theorem dX5_sortRow_52 : decode prog_7_method_21_code 52 = .ok (.iload_n 1, 1) := by decide +kernel
theorem dX5_sortRow_53 : decode prog_7_method_21_code 53 = .ok (.iload_n 3, 1) := by decide +kernel
theorem dX5_sortRow_54 : decode prog_7_method_21_code 54 = .ok (.iastore, 1) := by decide +kernel
theorem dX5_sortRow_55 : decode prog_7_method_21_code 55 = .ok (.iinc 1 1, 3) := by decide +kernel
theorem dX5_sortRow_58 : decode prog_7_method_21_code 58 = .ok (.iinc 3 1, 3) := by decide +kernel
theorem dX5_sortRow_61 : decode prog_7_method_21_code 61 = .ok (.goto (-28), 3) := by decide +kernel
theorem dX5_sortRow_64 : decode prog_7_method_21_code 64 = .ok (.return_, 1) := by decide +kernel
theorem okM_X5_sortRow : okM mX5_sortRow 0 := ⟨tw544, tw5, by decide, by decide, by decide +kernel⟩
abbrev KTX5_sortRow : Type := (XW → Nat → Int32 → Int32 → Int32 → Option XW) × (XW → Nat → Int32 → Int32 → Int32 → Option XW)
def bX5_sortRow_58 (k : KTX5_sortRow) (w : XW) (l0 : Nat) (l1 : Int32) (l2 : Int32) (l3 : Int32) : Option XW :=
  k.2 w l0 l1 l2 (l3 + (1 : Int32))
theorem BX5_sortRow_58 {K : CX} {l : Launch} {n0 k0 : Nat} {k : KTX5_sortRow} (hk0 : ∀ (w : XW) (l0 : Nat) (l1 : Int32) (l2 : Int32) (l3 : Int32) (q : XW), k.1 w l0 l1 l2 l3 = some q → WP K l mX5_sortRow 1 20 n0 k0 none q 6 [some (.ref l0), some (.int l1), some (.int l2), some (.int l3)] [] w) (hk1 : ∀ (w : XW) (l0 : Nat) (l1 : Int32) (l2 : Int32) (l3 : Int32) (q : XW), k.2 w l0 l1 l2 l3 = some q → WP K l mX5_sortRow 1 20 n0 k0 none q 33 [some (.ref l0), some (.int l1), some (.int l2), some (.int l3)] [] w) {w : XW} {l0 : Nat} {l1 : Int32} {l2 : Int32} {l3 : Int32} {q : XW} (h0 : bX5_sortRow_58 k w l0 l1 l2 l3 = some q) : WP K l mX5_sortRow 1 20 n0 k0 none q 58 [some (.ref l0), some (.int l1), some (.int l2), some (.int l3)] [] w := by
  unfold bX5_sortRow_58 at h0
  refine wp_iinc (v := (l3 + (1 : Int32))) (L1 := [some (.ref l0), some (.int l1), some (.int l2), some (.int (l3 + (1 : Int32)))]) dX5_sortRow_58 (Nat.le_of_ble_eq_true rfl) rfl (congrArg (fun z => l3 + z) (by decide)) rfl ?_
  refine wp_goto (tgt := 33) dX5_sortRow_61 (by decide) ?_
  exact WP.wk (hk1 _ _ _ _ _ _ h0) (And.intro rfl (And.intro rfl (And.intro rfl (And.intro rfl trivial))))
def hX5_sortRow_33 (k : KTX5_sortRow) (w : XW) (l0 : Nat) (l1 : Int32) (l2 : Int32) (l3 : Int32) : Option XW :=
  if (8 : Int32) ≤ l3 then
  some w
  else
  if ((l2 >>> (l3 &&& 31)) &&& (1 : Int32)) = (1 : Int32) then
  (gR w l0 5 1).bind fun x3 =>
  (sI w 0 x3 l1 l3).bind fun w6 =>
  bX5_sortRow_58 k w6 l0 (l1 + (1 : Int32)) l2 l3
  else
  bX5_sortRow_58 k w l0 l1 l2 l3
theorem HX5_sortRow_33 {K : CX} {l : Launch} {n0 k0 : Nat} {k : KTX5_sortRow} (hk0 : ∀ (w : XW) (l0 : Nat) (l1 : Int32) (l2 : Int32) (l3 : Int32) (q : XW), k.1 w l0 l1 l2 l3 = some q → WP K l mX5_sortRow 1 20 n0 k0 none q 6 [some (.ref l0), some (.int l1), some (.int l2), some (.int l3)] [] w) (hk1 : ∀ (w : XW) (l0 : Nat) (l1 : Int32) (l2 : Int32) (l3 : Int32) (q : XW), k.2 w l0 l1 l2 l3 = some q → WP K l mX5_sortRow 1 20 n0 k0 none q 33 [some (.ref l0), some (.int l1), some (.int l2), some (.int l3)] [] w) {w : XW} {l0 : Nat} {l1 : Int32} {l2 : Int32} {l3 : Int32} {q : XW} (h0 : hX5_sortRow_33 k w l0 l1 l2 l3 = some q) : WP K l mX5_sortRow 1 20 n0 k0 none q 33 [some (.ref l0), some (.int l1), some (.int l2), some (.int l3)] [] w := by
  unfold hX5_sortRow_33 at h0
  refine wp_iload_n dX5_sortRow_33 rfl ?_
  refine wp_bipush (v := (8 : Int32)) dX5_sortRow_34 (by decide) ?_
  refine wp_icmp_ge (tgt := 64) dX5_sortRow_36 (by decide) (fun c1 => ?_) (fun c1 => ?_)
  · rw [if_pos c1] at h0
    cases h0
    exact wp_vret rfl dX5_sortRow_64
  · rw [if_neg c1] at h0
    refine wp_iload_n dX5_sortRow_39 rfl ?_
    refine wp_iload_n dX5_sortRow_40 rfl ?_
    refine wp_ishr dX5_sortRow_41 ?_
    refine wp_iconst (v := (1 : Int32)) dX5_sortRow_42 (by decide) ?_
    refine wp_iand dX5_sortRow_43 ?_
    refine wp_iconst (v := (1 : Int32)) dX5_sortRow_44 (by decide) ?_
    refine wp_icmp_ne (tgt := 58) dX5_sortRow_45 (by decide) (fun c2 => ?_) (fun c2 => ?_)
    · rw [if_neg c2] at h0
      exact WP.wk (BX5_sortRow_58 hk0 hk1 h0) (And.intro rfl (And.intro rfl (And.intro rfl (And.intro rfl trivial))))
    · rw [if_pos c2] at h0
      refine wp_aload_n dX5_sortRow_48 rfl ?_
      obtain ⟨x3, e5, h4⟩ := Option.bind_eq_some_iff.mp h0
      clear h0
      refine wp_getR okX5 (k := 1) (by decide) tw95 dX5_sortRow_49 e5 ?_
      refine wp_iload_n dX5_sortRow_52 rfl ?_
      refine wp_iload_n dX5_sortRow_53 rfl ?_
      obtain ⟨w6, e8, h7⟩ := Option.bind_eq_some_iff.mp h4
      clear h4
      refine wp_iast dX5_sortRow_54 e8 ?_
      refine wp_iinc (v := (l1 + (1 : Int32))) (L1 := [some (.ref l0), some (.int (l1 + (1 : Int32))), some (.int l2), some (.int l3)]) dX5_sortRow_55 (Nat.le_of_ble_eq_true rfl) rfl (congrArg (fun z => l1 + z) (by decide)) rfl ?_
      exact WP.wk (BX5_sortRow_58 hk0 hk1 h7) (And.intro rfl (And.intro rfl (And.intro rfl (And.intro rfl trivial))))
def hX5_sortRow_6 (k : KTX5_sortRow) (w : XW) (l0 : Nat) (l1 : Int32) (l2 : Int32) (l3 : Int32) : Option XW :=
  (gI w l0 5 2).bind fun x1 =>
  if x1 ≤ l3 then
  k.2 w l0 l1 l2 (0 : Int32)
  else
  (gR w l0 5 1).bind fun x5 =>
  (aI w 0 x5 l3).bind fun x8 =>
  k.1 w l0 l1 (l2 ||| ((1 : Int32) <<< (x8 &&& 31))) (l3 + (1 : Int32))
theorem HX5_sortRow_6 {K : CX} {l : Launch} {n0 k0 : Nat} {k : KTX5_sortRow} (hk0 : ∀ (w : XW) (l0 : Nat) (l1 : Int32) (l2 : Int32) (l3 : Int32) (q : XW), k.1 w l0 l1 l2 l3 = some q → WP K l mX5_sortRow 1 20 n0 k0 none q 6 [some (.ref l0), some (.int l1), some (.int l2), some (.int l3)] [] w) (hk1 : ∀ (w : XW) (l0 : Nat) (l1 : Int32) (l2 : Int32) (l3 : Int32) (q : XW), k.2 w l0 l1 l2 l3 = some q → WP K l mX5_sortRow 1 20 n0 k0 none q 33 [some (.ref l0), some (.int l1), some (.int l2), some (.int l3)] [] w) {w : XW} {l0 : Nat} {l1 : Int32} {l2 : Int32} {l3 : Int32} {q : XW} (h0 : hX5_sortRow_6 k w l0 l1 l2 l3 = some q) : WP K l mX5_sortRow 1 20 n0 k0 none q 6 [some (.ref l0), some (.int l1), some (.int l2), some (.int l3)] [] w := by
  unfold hX5_sortRow_6 at h0
  refine wp_iload_n dX5_sortRow_6 rfl ?_
  refine wp_aload_n dX5_sortRow_7 rfl ?_
  obtain ⟨x1, e3, h2⟩ := Option.bind_eq_some_iff.mp h0
  clear h0
  refine wp_getI okX5 (k := 2) (by decide) tw97 dX5_sortRow_8 e3 ?_
  refine wp_icmp_ge (tgt := 31) dX5_sortRow_11 (by decide) (fun c4 => ?_) (fun c4 => ?_)
  · rw [if_pos c4] at h2
    refine wp_iconst (v := (0 : Int32)) dX5_sortRow_31 (by decide) ?_
    refine wp_istore_n (L1 := [some (.ref l0), some (.int l1), some (.int l2), some (.int (0 : Int32))]) dX5_sortRow_32 (Nat.le_of_ble_eq_true rfl) rfl ?_
    exact WP.wk (hk1 _ _ _ _ _ _ h2) (And.intro rfl (And.intro rfl (And.intro rfl (And.intro rfl trivial))))
  · rw [if_neg c4] at h2
    refine wp_iload_n dX5_sortRow_14 rfl ?_
    refine wp_iconst (v := (1 : Int32)) dX5_sortRow_15 (by decide) ?_
    refine wp_aload_n dX5_sortRow_16 rfl ?_
    obtain ⟨x5, e7, h6⟩ := Option.bind_eq_some_iff.mp h2
    clear h2
    refine wp_getR okX5 (k := 1) (by decide) tw95 dX5_sortRow_17 e7 ?_
    refine wp_iload_n dX5_sortRow_20 rfl ?_
    obtain ⟨x8, e10, h9⟩ := Option.bind_eq_some_iff.mp h6
    clear h6
    refine wp_iald dX5_sortRow_21 e10 ?_
    refine wp_ishl dX5_sortRow_22 ?_
    refine wp_ior dX5_sortRow_23 ?_
    refine wp_istore_n (L1 := [some (.ref l0), some (.int l1), some (.int (l2 ||| ((1 : Int32) <<< (x8 &&& 31)))), some (.int l3)]) dX5_sortRow_24 (Nat.le_of_ble_eq_true rfl) rfl ?_
    refine wp_iinc (v := (l3 + (1 : Int32))) (L1 := [some (.ref l0), some (.int l1), some (.int (l2 ||| ((1 : Int32) <<< (x8 &&& 31)))), some (.int (l3 + (1 : Int32)))]) dX5_sortRow_25 (Nat.le_of_ble_eq_true rfl) rfl (congrArg (fun z => l3 + z) (by decide)) rfl ?_
    refine wp_goto (tgt := 6) dX5_sortRow_28 (by decide) ?_
    exact WP.wk (hk0 _ _ _ _ _ _ h9) (And.intro rfl (And.intro rfl (And.intro rfl (And.intro rfl trivial))))
def eX5_sortRow (k : KTX5_sortRow) (w : XW) (l0 : Nat) : Option XW :=
  k.1 w l0 (0 : Int32) (0 : Int32) (0 : Int32)
theorem EX5_sortRow {K : CX} {l : Launch} {n0 k0 : Nat} {k : KTX5_sortRow} (hk0 : ∀ (w : XW) (l0 : Nat) (l1 : Int32) (l2 : Int32) (l3 : Int32) (q : XW), k.1 w l0 l1 l2 l3 = some q → WP K l mX5_sortRow 1 20 n0 k0 none q 6 [some (.ref l0), some (.int l1), some (.int l2), some (.int l3)] [] w) (hk1 : ∀ (w : XW) (l0 : Nat) (l1 : Int32) (l2 : Int32) (l3 : Int32) (q : XW), k.2 w l0 l1 l2 l3 = some q → WP K l mX5_sortRow 1 20 n0 k0 none q 33 [some (.ref l0), some (.int l1), some (.int l2), some (.int l3)] [] w) {w : XW} {l0 : Nat} {q : XW} (h0 : eX5_sortRow k w l0 = some q) : WP K l mX5_sortRow 1 20 n0 k0 none q 0 [some (.ref l0), none, none, none] [] w := by
  unfold eX5_sortRow at h0
  refine wp_iconst (v := (0 : Int32)) dX5_sortRow_0 (by decide) ?_
  refine wp_istore_n (L1 := [some (.ref l0), some (.int (0 : Int32)), none, none]) dX5_sortRow_1 (Nat.le_of_ble_eq_true rfl) rfl ?_
  refine wp_iconst (v := (0 : Int32)) dX5_sortRow_2 (by decide) ?_
  refine wp_istore_n (L1 := [some (.ref l0), some (.int (0 : Int32)), some (.int (0 : Int32)), none]) dX5_sortRow_3 (Nat.le_of_ble_eq_true rfl) rfl ?_
  refine wp_iconst (v := (0 : Int32)) dX5_sortRow_4 (by decide) ?_
  refine wp_istore_n (L1 := [some (.ref l0), some (.int (0 : Int32)), some (.int (0 : Int32)), some (.int (0 : Int32))]) dX5_sortRow_5 (Nat.le_of_ble_eq_true rfl) rfl ?_
  exact WP.wk (hk0 _ _ _ _ _ _ h0) (And.intro rfl (And.intro rfl (And.intro rfl (And.intro rfl trivial))))
def loX5_sortRow : Nat → KTX5_sortRow
  | 0 => (fun _ _ _ _ _ => none, fun _ _ _ _ _ => none)
  | n + 1 => (hX5_sortRow_6 (loX5_sortRow n), hX5_sortRow_33 (loX5_sortRow n))
theorem LOX5_sortRow {K : CX} {l : Launch} {n0 k0 : Nat} : ∀ n : Nat, (∀ (w : XW) (l0 : Nat) (l1 : Int32) (l2 : Int32) (l3 : Int32) (q : XW), (loX5_sortRow n).1 w l0 l1 l2 l3 = some q → WP K l mX5_sortRow 1 20 n0 k0 none q 6 [some (.ref l0), some (.int l1), some (.int l2), some (.int l3)] [] w) ∧ (∀ (w : XW) (l0 : Nat) (l1 : Int32) (l2 : Int32) (l3 : Int32) (q : XW), (loX5_sortRow n).2 w l0 l1 l2 l3 = some q → WP K l mX5_sortRow 1 20 n0 k0 none q 33 [some (.ref l0), some (.int l1), some (.int l2), some (.int l3)] [] w) := by
  intro n
  induction n with
  | zero => exact ⟨fun _ _ _ _ _ q h => (by cases h), fun _ _ _ _ _ q h => (by cases h)⟩
  | succ n ih => exact ⟨fun _ _ _ _ _ q h => HX5_sortRow_6 ih.1 ih.2 h, fun _ _ _ _ _ q h => HX5_sortRow_33 ih.1 ih.2 h⟩
def fX5_sortRow (w : XW) (l0 : Nat) : Option XW := if isO w l0 5 = true then eX5_sortRow (loX5_sortRow FU) w l0 else none
theorem OX5_sortRow {w : XW} {l0 : Nat} {q : XW} (h : fX5_sortRow w l0 = some q) : isO w l0 5 = true := Decidable.byContradiction fun z => by unfold fX5_sortRow at h; rw [if_neg z] at h; cases h
theorem MX5_sortRow {K : CX} {l : Launch} {w : XW} {l0 : Nat} {q : XW} (h : fX5_sortRow w l0 = some q) : MT K l mX5_sortRow 1 20 [.ref l0] w none q := by
  have z := OX5_sortRow h
  unfold fX5_sortRow at h
  rw [if_pos z] at h
  exact MT.of (by decide) (Nat.le_of_ble_eq_true rfl) rfl (EX5_sortRow (LOX5_sortRow FU).1 (LOX5_sortRow FU).2 h)
/-! FractionRun$State.swap(II)V: frames 1, words 20 -/
abbrev mX5_swap : MR := (⟨"FractionRun$State", "swap", "(II)V"⟩, prog_7_method_23_code, 4, none)
theorem dX5_swap_0 : decode prog_7_method_23_code 0 = .ok (.aload_n 0, 1) := by decide +kernel
theorem dX5_swap_1 : decode prog_7_method_23_code 1 = .ok (.getfield 15, 3) := by decide +kernel
theorem dX5_swap_4 : decode prog_7_method_23_code 4 = .ok (.iload_n 1, 1) := by decide +kernel
theorem dX5_swap_5 : decode prog_7_method_23_code 5 = .ok (.iaload, 1) := by decide +kernel
theorem dX5_swap_6 : decode prog_7_method_23_code 6 = .ok (.istore_n 3, 1) := by decide +kernel
theorem dX5_swap_7 : decode prog_7_method_23_code 7 = .ok (.aload_n 0, 1) := by decide +kernel
theorem dX5_swap_8 : decode prog_7_method_23_code 8 = .ok (.getfield 15, 3) := by decide +kernel
theorem dX5_swap_11 : decode prog_7_method_23_code 11 = .ok (.iload_n 1, 1) := by decide +kernel
theorem dX5_swap_12 : decode prog_7_method_23_code 12 = .ok (.aload_n 0, 1) := by decide +kernel
theorem dX5_swap_13 : decode prog_7_method_23_code 13 = .ok (.getfield 15, 3) := by decide +kernel
theorem dX5_swap_16 : decode prog_7_method_23_code 16 = .ok (.iload_n 2, 1) := by decide +kernel
theorem dX5_swap_17 : decode prog_7_method_23_code 17 = .ok (.iaload, 1) := by decide +kernel
theorem dX5_swap_18 : decode prog_7_method_23_code 18 = .ok (.iastore, 1) := by decide +kernel
theorem dX5_swap_19 : decode prog_7_method_23_code 19 = .ok (.aload_n 0, 1) := by decide +kernel
theorem dX5_swap_20 : decode prog_7_method_23_code 20 = .ok (.getfield 15, 3) := by decide +kernel
theorem dX5_swap_23 : decode prog_7_method_23_code 23 = .ok (.iload_n 2, 1) := by decide +kernel
theorem dX5_swap_24 : decode prog_7_method_23_code 24 = .ok (.iload_n 3, 1) := by decide +kernel
theorem dX5_swap_25 : decode prog_7_method_23_code 25 = .ok (.iastore, 1) := by decide +kernel
theorem dX5_swap_26 : decode prog_7_method_23_code 26 = .ok (.return_, 1) := by decide +kernel
theorem okM_X5_swap : okM mX5_swap 2 := ⟨tw553, tw5, by decide, by decide, by decide +kernel⟩
def eX5_swap (w : XW) (l0 : Nat) (l1 : Int32) (l2 : Int32) : Option XW :=
  (gR w l0 5 1).bind fun x1 =>
  (aI w 0 x1 l1).bind fun x4 =>
  (gR w l0 5 1).bind fun x7 =>
  (gR w l0 5 1).bind fun x10 =>
  (aI w 0 x10 l2).bind fun x13 =>
  (sI w 0 x7 l1 x13).bind fun w16 =>
  (gR w16 l0 5 1).bind fun x19 =>
  (sI w16 0 x19 l2 x4).bind fun w22 =>
  some w22
theorem EX5_swap {K : CX} {l : Launch} {n0 k0 : Nat} {w : XW} {l0 : Nat} {l1 : Int32} {l2 : Int32} {q : XW} (h0 : eX5_swap w l0 l1 l2 = some q) : WP K l mX5_swap 1 20 n0 k0 none q 0 [some (.ref l0), some (.int l1), some (.int l2), none] [] w := by
  unfold eX5_swap at h0
  refine wp_aload_n dX5_swap_0 rfl ?_
  obtain ⟨x1, e3, h2⟩ := Option.bind_eq_some_iff.mp h0
  clear h0
  refine wp_getR okX5 (k := 1) (by decide) tw95 dX5_swap_1 e3 ?_
  refine wp_iload_n dX5_swap_4 rfl ?_
  obtain ⟨x4, e6, h5⟩ := Option.bind_eq_some_iff.mp h2
  clear h2
  refine wp_iald dX5_swap_5 e6 ?_
  refine wp_istore_n (L1 := [some (.ref l0), some (.int l1), some (.int l2), some (.int x4)]) dX5_swap_6 (Nat.le_of_ble_eq_true rfl) rfl ?_
  refine wp_aload_n dX5_swap_7 rfl ?_
  obtain ⟨x7, e9, h8⟩ := Option.bind_eq_some_iff.mp h5
  clear h5
  refine wp_getR okX5 (k := 1) (by decide) tw95 dX5_swap_8 e9 ?_
  refine wp_iload_n dX5_swap_11 rfl ?_
  refine wp_aload_n dX5_swap_12 rfl ?_
  obtain ⟨x10, e12, h11⟩ := Option.bind_eq_some_iff.mp h8
  clear h8
  refine wp_getR okX5 (k := 1) (by decide) tw95 dX5_swap_13 e12 ?_
  refine wp_iload_n dX5_swap_16 rfl ?_
  obtain ⟨x13, e15, h14⟩ := Option.bind_eq_some_iff.mp h11
  clear h11
  refine wp_iald dX5_swap_17 e15 ?_
  obtain ⟨w16, e18, h17⟩ := Option.bind_eq_some_iff.mp h14
  clear h14
  refine wp_iast dX5_swap_18 e18 ?_
  refine wp_aload_n dX5_swap_19 rfl ?_
  obtain ⟨x19, e21, h20⟩ := Option.bind_eq_some_iff.mp h17
  clear h17
  refine wp_getR okX5 (k := 1) (by decide) tw95 dX5_swap_20 e21 ?_
  refine wp_iload_n dX5_swap_23 rfl ?_
  refine wp_iload_n dX5_swap_24 rfl ?_
  obtain ⟨w22, e24, h23⟩ := Option.bind_eq_some_iff.mp h20
  clear h20
  refine wp_iast dX5_swap_25 e24 ?_
  cases h23
  exact wp_vret rfl dX5_swap_26
def fX5_swap (w : XW) (l0 : Nat) (l1 : Int32) (l2 : Int32) : Option XW := if isO w l0 5 = true then eX5_swap w l0 l1 l2 else none
theorem OX5_swap {w : XW} {l0 : Nat} {l1 : Int32} {l2 : Int32} {q : XW} (h : fX5_swap w l0 l1 l2 = some q) : isO w l0 5 = true := Decidable.byContradiction fun z => by unfold fX5_swap at h; rw [if_neg z] at h; cases h
theorem MX5_swap {K : CX} {l : Launch} {w : XW} {l0 : Nat} {l1 : Int32} {l2 : Int32} {q : XW} (h : fX5_swap w l0 l1 l2 = some q) : MT K l mX5_swap 1 20 [.ref l0, .int l1, .int l2] w none q := by
  have z := OX5_swap h
  unfold fX5_swap at h
  rw [if_pos z] at h
  exact MT.of (by decide) (Nat.le_of_ble_eq_true rfl) rfl (EX5_swap h)
/-! FractionRun$State.toNextOrder()Z: frames 2, words 43 -/
abbrev mX5_toNextOrder : MR := (⟨"FractionRun$State", "toNextOrder", "()Z"⟩, prog_7_method_22_code, 5, (some .boolean))
theorem dX5_toNextOrder_0 : decode prog_7_method_22_code 0 = .ok (.aload_n 0, 1) := by decide +kernel
theorem dX5_toNextOrder_1 : decode prog_7_method_22_code 1 = .ok (.getfield 33, 3) := by decide +kernel
theorem dX5_toNextOrder_4 : decode prog_7_method_22_code 4 = .ok (.iconst 2, 1) := by decide +kernel
theorem dX5_toNextOrder_5 : decode prog_7_method_22_code 5 = .ok (.isub, 1) := by decide +kernel
theorem dX5_toNextOrder_6 : decode prog_7_method_22_code 6 = .ok (.istore_n 1, 1) := by decide +kernel
theorem dX5_toNextOrder_7 : decode prog_7_method_22_code 7 = .ok (.iload_n 1, 1) := by decide +kernel
theorem dX5_toNextOrder_8 : decode prog_7_method_22_code 8 = .ok (.ifCond .lt 26, 3) := by decide +kernel
theorem dX5_toNextOrder_11 : decode prog_7_method_22_code 11 = .ok (.aload_n 0, 1) := by decide +kernel
theorem dX5_toNextOrder_12 : decode prog_7_method_22_code 12 = .ok (.getfield 15, 3) := by decide +kernel
theorem dX5_toNextOrder_15 : decode prog_7_method_22_code 15 = .ok (.iload_n 1, 1) := by decide +kernel
theorem dX5_toNextOrder_16 : decode prog_7_method_22_code 16 = .ok (.iaload, 1) := by decide +kernel
theorem dX5_toNextOrder_17 : decode prog_7_method_22_code 17 = .ok (.aload_n 0, 1) := by decide +kernel
theorem dX5_toNextOrder_18 : decode prog_7_method_22_code 18 = .ok (.getfield 15, 3) := by decide +kernel
theorem dX5_toNextOrder_21 : decode prog_7_method_22_code 21 = .ok (.iload_n 1, 1) := by decide +kernel
theorem dX5_toNextOrder_22 : decode prog_7_method_22_code 22 = .ok (.iconst 1, 1) := by decide +kernel
theorem dX5_toNextOrder_23 : decode prog_7_method_22_code 23 = .ok (.iadd, 1) := by decide +kernel
theorem dX5_toNextOrder_24 : decode prog_7_method_22_code 24 = .ok (.iaload, 1) := by decide +kernel
theorem dX5_toNextOrder_25 : decode prog_7_method_22_code 25 = .ok (.if_icmp .le 9, 3) := by decide +kernel
theorem dX5_toNextOrder_28 : decode prog_7_method_22_code 28 = .ok (.iinc 1 (-1), 3) := by decide +kernel
theorem dX5_toNextOrder_31 : decode prog_7_method_22_code 31 = .ok (.goto (-24), 3) := by decide +kernel
theorem dX5_toNextOrder_34 : decode prog_7_method_22_code 34 = .ok (.iload_n 1, 1) := by decide +kernel
theorem dX5_toNextOrder_35 : decode prog_7_method_22_code 35 = .ok (.ifCond .ge 5, 3) := by decide +kernel
theorem dX5_toNextOrder_38 : decode prog_7_method_22_code 38 = .ok (.iconst 0, 1) := by decide +kernel
theorem dX5_toNextOrder_39 : decode prog_7_method_22_code 39 = .ok (.ireturn, 1) := by decide +kernel
theorem dX5_toNextOrder_40 : decode prog_7_method_22_code 40 = .ok (.aload_n 0, 1) := by decide +kernel
theorem dX5_toNextOrder_41 : decode prog_7_method_22_code 41 = .ok (.getfield 33, 3) := by decide +kernel
theorem dX5_toNextOrder_44 : decode prog_7_method_22_code 44 = .ok (.iconst 1, 1) := by decide +kernel
theorem dX5_toNextOrder_45 : decode prog_7_method_22_code 45 = .ok (.isub, 1) := by decide +kernel
theorem dX5_toNextOrder_46 : decode prog_7_method_22_code 46 = .ok (.istore_n 2, 1) := by decide +kernel
theorem dX5_toNextOrder_47 : decode prog_7_method_22_code 47 = .ok (.iload_n 2, 1) := by decide +kernel
theorem dX5_toNextOrder_48 : decode prog_7_method_22_code 48 = .ok (.iload_n 1, 1) := by decide +kernel
theorem dX5_toNextOrder_49 : decode prog_7_method_22_code 49 = .ok (.if_icmp .le 24, 3) := by decide +kernel
theorem dX5_toNextOrder_52 : decode prog_7_method_22_code 52 = .ok (.aload_n 0, 1) := by decide +kernel
theorem dX5_toNextOrder_53 : decode prog_7_method_22_code 53 = .ok (.getfield 15, 3) := by decide +kernel
theorem dX5_toNextOrder_56 : decode prog_7_method_22_code 56 = .ok (.iload_n 2, 1) := by decide +kernel
theorem dX5_toNextOrder_57 : decode prog_7_method_22_code 57 = .ok (.iaload, 1) := by decide +kernel
theorem dX5_toNextOrder_58 : decode prog_7_method_22_code 58 = .ok (.aload_n 0, 1) := by decide +kernel
theorem dX5_toNextOrder_59 : decode prog_7_method_22_code 59 = .ok (.getfield 15, 3) := by decide +kernel
theorem dX5_toNextOrder_62 : decode prog_7_method_22_code 62 = .ok (.iload_n 1, 1) := by decide +kernel
theorem dX5_toNextOrder_63 : decode prog_7_method_22_code 63 = .ok (.iaload, 1) := by decide +kernel
theorem dX5_toNextOrder_64 : decode prog_7_method_22_code 64 = .ok (.if_icmp .ge 9, 3) := by decide +kernel
theorem dX5_toNextOrder_67 : decode prog_7_method_22_code 67 = .ok (.iinc 2 (-1), 3) := by decide +kernel
theorem dX5_toNextOrder_70 : decode prog_7_method_22_code 70 = .ok (.goto (-23), 3) := by decide +kernel
theorem dX5_toNextOrder_73 : decode prog_7_method_22_code 73 = .ok (.aload_n 0, 1) := by decide +kernel
theorem dX5_toNextOrder_74 : decode prog_7_method_22_code 74 = .ok (.iload_n 1, 1) := by decide +kernel
theorem dX5_toNextOrder_75 : decode prog_7_method_22_code 75 = .ok (.iload_n 2, 1) := by decide +kernel
theorem dX5_toNextOrder_76 : decode prog_7_method_22_code 76 = .ok (.invokevirtual 85, 3) := by decide +kernel
theorem dX5_toNextOrder_79 : decode prog_7_method_22_code 79 = .ok (.iload_n 1, 1) := by decide +kernel
theorem dX5_toNextOrder_80 : decode prog_7_method_22_code 80 = .ok (.iconst 1, 1) := by decide +kernel
theorem dX5_toNextOrder_81 : decode prog_7_method_22_code 81 = .ok (.iadd, 1) := by decide +kernel
theorem dX5_toNextOrder_82 : decode prog_7_method_22_code 82 = .ok (.istore_n 3, 1) := by decide +kernel
theorem dX5_toNextOrder_83 : decode prog_7_method_22_code 83 = .ok (.aload_n 0, 1) := by decide +kernel
theorem dX5_toNextOrder_84 : decode prog_7_method_22_code 84 = .ok (.getfield 33, 3) := by decide +kernel
theorem dX5_toNextOrder_87 : decode prog_7_method_22_code 87 = .ok (.iconst 1, 1) := by decide +kernel
theorem dX5_toNextOrder_88 : decode prog_7_method_22_code 88 = .ok (.isub, 1) := by decide +kernel
theorem dX5_toNextOrder_89 : decode prog_7_method_22_code 89 = .ok (.istore 4, 2) := by decide +kernel
theorem dX5_toNextOrder_91 : decode prog_7_method_22_code 91 = .ok (.iload_n 3, 1) := by decide +kernel
theorem dX5_toNextOrder_92 : decode prog_7_method_22_code 92 = .ok (.iload 4, 2) := by decide +kernel
theorem dX5_toNextOrder_94 : decode prog_7_method_22_code 94 = .ok (.if_icmp .ge 19, 3) := by decide +kernel
theorem dX5_toNextOrder_97 : decode prog_7_method_22_code 97 = .ok (.aload_n 0, 1) := by decide +kernel
theorem dX5_toNextOrder_98 : decode prog_7_method_22_code 98 = .ok (.iload_n 3, 1) := by decide +kernel
theorem dX5_toNextOrder_99 : decode prog_7_method_22_code 99 = .ok (.iload 4, 2) := by decide +kernel
theorem dX5_toNextOrder_101 : decode prog_7_method_22_code 101 = .ok (.invokevirtual 85, 3) := by decide +kernel
theorem dX5_toNextOrder_104 : decode prog_7_method_22_code 104 = .ok (.iinc 3 1, 3) := by decide +kernel
theorem dX5_toNextOrder_107 : decode prog_7_method_22_code 107 = .ok (.iinc 4 (-1), 3) := by decide +kernel
theorem dX5_toNextOrder_110 : decode prog_7_method_22_code 110 = .ok (.goto (-19), 3) := by decide +kernel
theorem dX5_toNextOrder_113 : decode prog_7_method_22_code 113 = .ok (.iconst 1, 1) := by decide +kernel
theorem dX5_toNextOrder_114 : decode prog_7_method_22_code 114 = .ok (.ireturn, 1) := by decide +kernel
theorem okM_X5_toNextOrder : okM mX5_toNextOrder 0 := ⟨tw549, tw5, by decide, by decide, by decide +kernel⟩
abbrev KTX5_toNextOrder : Type := (XW → Nat → Int32 → Option (Int32 × XW)) × (XW → Nat → Int32 → Int32 → Option (Int32 × XW)) × (XW → Nat → Int32 → Int32 → Option (Int32 × XW))
def bX5_toNextOrder_73 (k : KTX5_toNextOrder) (w : XW) (l0 : Nat) (l1 : Int32) (l2 : Int32) : Option (Int32 × XW) :=
  (fX5_swap w l0 l1 l2).bind fun q1 =>
  (gI q1 l0 5 2).bind fun x4 =>
  k.2.2 q1 l0 (l1 + (1 : Int32)) (x4 - (1 : Int32))
theorem BX5_toNextOrder_73 {K : CX} {l : Launch} {n0 k0 : Nat} {k : KTX5_toNextOrder} (hk0 : ∀ (w : XW) (l0 : Nat) (l1 : Int32) (q : Int32 × XW), k.1 w l0 l1 = some q → WP K l mX5_toNextOrder 2 43 n0 k0 (some (.int q.1)) q.2 7 [some (.ref l0), some (.int l1), none, none, none] [] w) (hk1 : ∀ (w : XW) (l0 : Nat) (l1 : Int32) (l2 : Int32) (q : Int32 × XW), k.2.1 w l0 l1 l2 = some q → WP K l mX5_toNextOrder 2 43 n0 k0 (some (.int q.1)) q.2 47 [some (.ref l0), some (.int l1), some (.int l2), none, none] [] w) (hk2 : ∀ (w : XW) (l0 : Nat) (l3 : Int32) (l4 : Int32) (q : Int32 × XW), k.2.2 w l0 l3 l4 = some q → WP K l mX5_toNextOrder 2 43 n0 k0 (some (.int q.1)) q.2 91 [some (.ref l0), none, none, some (.int l3), some (.int l4)] [] w) {w : XW} {l0 : Nat} {l1 : Int32} {l2 : Int32} {q : Int32 × XW} (h0 : bX5_toNextOrder_73 k w l0 l1 l2 = some q) : WP K l mX5_toNextOrder 2 43 n0 k0 (some (.int q.1)) q.2 73 [some (.ref l0), some (.int l1), some (.int l2), none, none] [] w := by
  unfold bX5_toNextOrder_73 at h0
  refine wp_aload_n dX5_toNextOrder_73 rfl ?_
  refine wp_iload_n dX5_toNextOrder_74 rfl ?_
  refine wp_iload_n dX5_toNextOrder_75 rfl ?_
  obtain ⟨q1, e3, h2⟩ := Option.bind_eq_some_iff.mp h0
  clear h0
  refine wp_Vv (As := [.int l1, .int l2]) (S := []) okM_X5_swap tw552 twP_X5_swap tw550 (OX5_swap e3) rfl rfl rfl ⟨(Nat.le_of_ble_eq_true rfl), (Nat.le_of_ble_eq_true rfl)⟩ (Nat.le_of_ble_eq_true rfl) rfl dX5_toNextOrder_76 (MX5_swap e3) ?_
  refine wp_iload_n dX5_toNextOrder_79 rfl ?_
  refine wp_iconst (v := (1 : Int32)) dX5_toNextOrder_80 (by decide) ?_
  refine wp_iadd dX5_toNextOrder_81 ?_
  refine wp_istore_n (L1 := [some (.ref l0), some (.int l1), some (.int l2), some (.int (l1 + (1 : Int32))), none]) dX5_toNextOrder_82 (Nat.le_of_ble_eq_true rfl) rfl ?_
  refine wp_aload_n dX5_toNextOrder_83 rfl ?_
  obtain ⟨x4, e6, h5⟩ := Option.bind_eq_some_iff.mp h2
  clear h2
  refine wp_getI okX5 (k := 2) (by decide) tw97 dX5_toNextOrder_84 e6 ?_
  refine wp_iconst (v := (1 : Int32)) dX5_toNextOrder_87 (by decide) ?_
  refine wp_isub dX5_toNextOrder_88 ?_
  refine wp_istore (L1 := [some (.ref l0), some (.int l1), some (.int l2), some (.int (l1 + (1 : Int32))), some (.int (x4 - (1 : Int32)))]) dX5_toNextOrder_89 (Nat.le_of_ble_eq_true rfl) rfl ?_
  exact WP.wk (hk2 _ _ _ _ _ h5) (And.intro rfl (And.intro rfl (And.intro rfl trivial)))
def bX5_toNextOrder_34 (k : KTX5_toNextOrder) (w : XW) (l0 : Nat) (l1 : Int32) : Option (Int32 × XW) :=
  if 0 ≤ l1 then
  (gI w l0 5 2).bind fun x2 =>
  k.2.1 w l0 l1 (x2 - (1 : Int32))
  else
  some ((0 : Int32), w)
theorem BX5_toNextOrder_34 {K : CX} {l : Launch} {n0 k0 : Nat} {k : KTX5_toNextOrder} (hk0 : ∀ (w : XW) (l0 : Nat) (l1 : Int32) (q : Int32 × XW), k.1 w l0 l1 = some q → WP K l mX5_toNextOrder 2 43 n0 k0 (some (.int q.1)) q.2 7 [some (.ref l0), some (.int l1), none, none, none] [] w) (hk1 : ∀ (w : XW) (l0 : Nat) (l1 : Int32) (l2 : Int32) (q : Int32 × XW), k.2.1 w l0 l1 l2 = some q → WP K l mX5_toNextOrder 2 43 n0 k0 (some (.int q.1)) q.2 47 [some (.ref l0), some (.int l1), some (.int l2), none, none] [] w) (hk2 : ∀ (w : XW) (l0 : Nat) (l3 : Int32) (l4 : Int32) (q : Int32 × XW), k.2.2 w l0 l3 l4 = some q → WP K l mX5_toNextOrder 2 43 n0 k0 (some (.int q.1)) q.2 91 [some (.ref l0), none, none, some (.int l3), some (.int l4)] [] w) {w : XW} {l0 : Nat} {l1 : Int32} {q : Int32 × XW} (h0 : bX5_toNextOrder_34 k w l0 l1 = some q) : WP K l mX5_toNextOrder 2 43 n0 k0 (some (.int q.1)) q.2 34 [some (.ref l0), some (.int l1), none, none, none] [] w := by
  unfold bX5_toNextOrder_34 at h0
  refine wp_iload_n dX5_toNextOrder_34 rfl ?_
  refine wp_if_ge (tgt := 40) dX5_toNextOrder_35 (by decide) (fun c1 => ?_) (fun c1 => ?_)
  · rw [if_pos c1] at h0
    refine wp_aload_n dX5_toNextOrder_40 rfl ?_
    obtain ⟨x2, e4, h3⟩ := Option.bind_eq_some_iff.mp h0
    clear h0
    refine wp_getI okX5 (k := 2) (by decide) tw97 dX5_toNextOrder_41 e4 ?_
    refine wp_iconst (v := (1 : Int32)) dX5_toNextOrder_44 (by decide) ?_
    refine wp_isub dX5_toNextOrder_45 ?_
    refine wp_istore_n (L1 := [some (.ref l0), some (.int l1), some (.int (x2 - (1 : Int32))), none, none]) dX5_toNextOrder_46 (Nat.le_of_ble_eq_true rfl) rfl ?_
    exact WP.wk (hk1 _ _ _ _ _ h3) (And.intro rfl (And.intro rfl (And.intro rfl trivial)))
  · rw [if_neg c1] at h0
    refine wp_iconst (v := (0 : Int32)) dX5_toNextOrder_38 (by decide) ?_
    cases h0
    exact wp_zret (x := (0 : Int32)) rfl narrow_b0 dX5_toNextOrder_39
def hX5_toNextOrder_91 (k : KTX5_toNextOrder) (w : XW) (l0 : Nat) (l3 : Int32) (l4 : Int32) : Option (Int32 × XW) :=
  if l4 ≤ l3 then
  some ((1 : Int32), w)
  else
  (fX5_swap w l0 l3 l4).bind fun q2 =>
  k.2.2 q2 l0 (l3 + (1 : Int32)) (l4 + (-1 : Int32))
theorem HX5_toNextOrder_91 {K : CX} {l : Launch} {n0 k0 : Nat} {k : KTX5_toNextOrder} (hk0 : ∀ (w : XW) (l0 : Nat) (l1 : Int32) (q : Int32 × XW), k.1 w l0 l1 = some q → WP K l mX5_toNextOrder 2 43 n0 k0 (some (.int q.1)) q.2 7 [some (.ref l0), some (.int l1), none, none, none] [] w) (hk1 : ∀ (w : XW) (l0 : Nat) (l1 : Int32) (l2 : Int32) (q : Int32 × XW), k.2.1 w l0 l1 l2 = some q → WP K l mX5_toNextOrder 2 43 n0 k0 (some (.int q.1)) q.2 47 [some (.ref l0), some (.int l1), some (.int l2), none, none] [] w) (hk2 : ∀ (w : XW) (l0 : Nat) (l3 : Int32) (l4 : Int32) (q : Int32 × XW), k.2.2 w l0 l3 l4 = some q → WP K l mX5_toNextOrder 2 43 n0 k0 (some (.int q.1)) q.2 91 [some (.ref l0), none, none, some (.int l3), some (.int l4)] [] w) {w : XW} {l0 : Nat} {l3 : Int32} {l4 : Int32} {q : Int32 × XW} (h0 : hX5_toNextOrder_91 k w l0 l3 l4 = some q) : WP K l mX5_toNextOrder 2 43 n0 k0 (some (.int q.1)) q.2 91 [some (.ref l0), none, none, some (.int l3), some (.int l4)] [] w := by
  unfold hX5_toNextOrder_91 at h0
  refine wp_iload_n dX5_toNextOrder_91 rfl ?_
  refine wp_iload dX5_toNextOrder_92 rfl ?_
  refine wp_icmp_ge (tgt := 113) dX5_toNextOrder_94 (by decide) (fun c1 => ?_) (fun c1 => ?_)
  · rw [if_pos c1] at h0
    refine wp_iconst (v := (1 : Int32)) dX5_toNextOrder_113 (by decide) ?_
    cases h0
    exact wp_zret (x := (1 : Int32)) rfl narrow_b1 dX5_toNextOrder_114
  · rw [if_neg c1] at h0
    refine wp_aload_n dX5_toNextOrder_97 rfl ?_
    refine wp_iload_n dX5_toNextOrder_98 rfl ?_
    refine wp_iload dX5_toNextOrder_99 rfl ?_
    obtain ⟨q2, e4, h3⟩ := Option.bind_eq_some_iff.mp h0
    clear h0
    refine wp_Vv (As := [.int l3, .int l4]) (S := []) okM_X5_swap tw552 twP_X5_swap tw550 (OX5_swap e4) rfl rfl rfl ⟨(Nat.le_of_ble_eq_true rfl), (Nat.le_of_ble_eq_true rfl)⟩ (Nat.le_of_ble_eq_true rfl) rfl dX5_toNextOrder_101 (MX5_swap e4) ?_
    refine wp_iinc (v := (l3 + (1 : Int32))) (L1 := [some (.ref l0), none, none, some (.int (l3 + (1 : Int32))), some (.int l4)]) dX5_toNextOrder_104 (Nat.le_of_ble_eq_true rfl) rfl (congrArg (fun z => l3 + z) (by decide)) rfl ?_
    refine wp_iinc (v := (l4 + (-1 : Int32))) (L1 := [some (.ref l0), none, none, some (.int (l3 + (1 : Int32))), some (.int (l4 + (-1 : Int32)))]) dX5_toNextOrder_107 (Nat.le_of_ble_eq_true rfl) rfl (congrArg (fun z => l4 + z) (by decide)) rfl ?_
    refine wp_goto (tgt := 91) dX5_toNextOrder_110 (by decide) ?_
    exact WP.wk (hk2 _ _ _ _ _ h3) (And.intro rfl (And.intro rfl (And.intro rfl trivial)))
def hX5_toNextOrder_47 (k : KTX5_toNextOrder) (w : XW) (l0 : Nat) (l1 : Int32) (l2 : Int32) : Option (Int32 × XW) :=
  if l2 ≤ l1 then
  bX5_toNextOrder_73 k w l0 l1 l2
  else
  (gR w l0 5 1).bind fun x2 =>
  (aI w 0 x2 l2).bind fun x5 =>
  (gR w l0 5 1).bind fun x8 =>
  (aI w 0 x8 l1).bind fun x11 =>
  if x11 ≤ x5 then
  bX5_toNextOrder_73 k w l0 l1 l2
  else
  k.2.1 w l0 l1 (l2 + (-1 : Int32))
theorem HX5_toNextOrder_47 {K : CX} {l : Launch} {n0 k0 : Nat} {k : KTX5_toNextOrder} (hk0 : ∀ (w : XW) (l0 : Nat) (l1 : Int32) (q : Int32 × XW), k.1 w l0 l1 = some q → WP K l mX5_toNextOrder 2 43 n0 k0 (some (.int q.1)) q.2 7 [some (.ref l0), some (.int l1), none, none, none] [] w) (hk1 : ∀ (w : XW) (l0 : Nat) (l1 : Int32) (l2 : Int32) (q : Int32 × XW), k.2.1 w l0 l1 l2 = some q → WP K l mX5_toNextOrder 2 43 n0 k0 (some (.int q.1)) q.2 47 [some (.ref l0), some (.int l1), some (.int l2), none, none] [] w) (hk2 : ∀ (w : XW) (l0 : Nat) (l3 : Int32) (l4 : Int32) (q : Int32 × XW), k.2.2 w l0 l3 l4 = some q → WP K l mX5_toNextOrder 2 43 n0 k0 (some (.int q.1)) q.2 91 [some (.ref l0), none, none, some (.int l3), some (.int l4)] [] w) {w : XW} {l0 : Nat} {l1 : Int32} {l2 : Int32} {q : Int32 × XW} (h0 : hX5_toNextOrder_47 k w l0 l1 l2 = some q) : WP K l mX5_toNextOrder 2 43 n0 k0 (some (.int q.1)) q.2 47 [some (.ref l0), some (.int l1), some (.int l2), none, none] [] w := by
  unfold hX5_toNextOrder_47 at h0
  refine wp_iload_n dX5_toNextOrder_47 rfl ?_
  refine wp_iload_n dX5_toNextOrder_48 rfl ?_
  refine wp_icmp_le (tgt := 73) dX5_toNextOrder_49 (by decide) (fun c1 => ?_) (fun c1 => ?_)
  · rw [if_pos c1] at h0
    exact WP.wk (BX5_toNextOrder_73 hk0 hk1 hk2 h0) (And.intro rfl (And.intro rfl (And.intro rfl trivial)))
  · rw [if_neg c1] at h0
    refine wp_aload_n dX5_toNextOrder_52 rfl ?_
    obtain ⟨x2, e4, h3⟩ := Option.bind_eq_some_iff.mp h0
    clear h0
    refine wp_getR okX5 (k := 1) (by decide) tw95 dX5_toNextOrder_53 e4 ?_
    refine wp_iload_n dX5_toNextOrder_56 rfl ?_
    obtain ⟨x5, e7, h6⟩ := Option.bind_eq_some_iff.mp h3
    clear h3
    refine wp_iald dX5_toNextOrder_57 e7 ?_
    refine wp_aload_n dX5_toNextOrder_58 rfl ?_
    obtain ⟨x8, e10, h9⟩ := Option.bind_eq_some_iff.mp h6
    clear h6
    refine wp_getR okX5 (k := 1) (by decide) tw95 dX5_toNextOrder_59 e10 ?_
    refine wp_iload_n dX5_toNextOrder_62 rfl ?_
    obtain ⟨x11, e13, h12⟩ := Option.bind_eq_some_iff.mp h9
    clear h9
    refine wp_iald dX5_toNextOrder_63 e13 ?_
    refine wp_icmp_ge (tgt := 73) dX5_toNextOrder_64 (by decide) (fun c14 => ?_) (fun c14 => ?_)
    · rw [if_pos c14] at h12
      exact WP.wk (BX5_toNextOrder_73 hk0 hk1 hk2 h12) (And.intro rfl (And.intro rfl (And.intro rfl trivial)))
    · rw [if_neg c14] at h12
      refine wp_iinc (v := (l2 + (-1 : Int32))) (L1 := [some (.ref l0), some (.int l1), some (.int (l2 + (-1 : Int32))), none, none]) dX5_toNextOrder_67 (Nat.le_of_ble_eq_true rfl) rfl (congrArg (fun z => l2 + z) (by decide)) rfl ?_
      refine wp_goto (tgt := 47) dX5_toNextOrder_70 (by decide) ?_
      exact WP.wk (hk1 _ _ _ _ _ h12) (And.intro rfl (And.intro rfl (And.intro rfl trivial)))
def hX5_toNextOrder_7 (k : KTX5_toNextOrder) (w : XW) (l0 : Nat) (l1 : Int32) : Option (Int32 × XW) :=
  if l1 < 0 then
  bX5_toNextOrder_34 k w l0 l1
  else
  (gR w l0 5 1).bind fun x2 =>
  (aI w 0 x2 l1).bind fun x5 =>
  (gR w l0 5 1).bind fun x8 =>
  (aI w 0 x8 (l1 + (1 : Int32))).bind fun x11 =>
  if x5 ≤ x11 then
  bX5_toNextOrder_34 k w l0 l1
  else
  k.1 w l0 (l1 + (-1 : Int32))
theorem HX5_toNextOrder_7 {K : CX} {l : Launch} {n0 k0 : Nat} {k : KTX5_toNextOrder} (hk0 : ∀ (w : XW) (l0 : Nat) (l1 : Int32) (q : Int32 × XW), k.1 w l0 l1 = some q → WP K l mX5_toNextOrder 2 43 n0 k0 (some (.int q.1)) q.2 7 [some (.ref l0), some (.int l1), none, none, none] [] w) (hk1 : ∀ (w : XW) (l0 : Nat) (l1 : Int32) (l2 : Int32) (q : Int32 × XW), k.2.1 w l0 l1 l2 = some q → WP K l mX5_toNextOrder 2 43 n0 k0 (some (.int q.1)) q.2 47 [some (.ref l0), some (.int l1), some (.int l2), none, none] [] w) (hk2 : ∀ (w : XW) (l0 : Nat) (l3 : Int32) (l4 : Int32) (q : Int32 × XW), k.2.2 w l0 l3 l4 = some q → WP K l mX5_toNextOrder 2 43 n0 k0 (some (.int q.1)) q.2 91 [some (.ref l0), none, none, some (.int l3), some (.int l4)] [] w) {w : XW} {l0 : Nat} {l1 : Int32} {q : Int32 × XW} (h0 : hX5_toNextOrder_7 k w l0 l1 = some q) : WP K l mX5_toNextOrder 2 43 n0 k0 (some (.int q.1)) q.2 7 [some (.ref l0), some (.int l1), none, none, none] [] w := by
  unfold hX5_toNextOrder_7 at h0
  refine wp_iload_n dX5_toNextOrder_7 rfl ?_
  refine wp_if_lt (tgt := 34) dX5_toNextOrder_8 (by decide) (fun c1 => ?_) (fun c1 => ?_)
  · rw [if_pos c1] at h0
    exact WP.wk (BX5_toNextOrder_34 hk0 hk1 hk2 h0) (And.intro rfl (And.intro rfl trivial))
  · rw [if_neg c1] at h0
    refine wp_aload_n dX5_toNextOrder_11 rfl ?_
    obtain ⟨x2, e4, h3⟩ := Option.bind_eq_some_iff.mp h0
    clear h0
    refine wp_getR okX5 (k := 1) (by decide) tw95 dX5_toNextOrder_12 e4 ?_
    refine wp_iload_n dX5_toNextOrder_15 rfl ?_
    obtain ⟨x5, e7, h6⟩ := Option.bind_eq_some_iff.mp h3
    clear h3
    refine wp_iald dX5_toNextOrder_16 e7 ?_
    refine wp_aload_n dX5_toNextOrder_17 rfl ?_
    obtain ⟨x8, e10, h9⟩ := Option.bind_eq_some_iff.mp h6
    clear h6
    refine wp_getR okX5 (k := 1) (by decide) tw95 dX5_toNextOrder_18 e10 ?_
    refine wp_iload_n dX5_toNextOrder_21 rfl ?_
    refine wp_iconst (v := (1 : Int32)) dX5_toNextOrder_22 (by decide) ?_
    refine wp_iadd dX5_toNextOrder_23 ?_
    obtain ⟨x11, e13, h12⟩ := Option.bind_eq_some_iff.mp h9
    clear h9
    refine wp_iald dX5_toNextOrder_24 e13 ?_
    refine wp_icmp_le (tgt := 34) dX5_toNextOrder_25 (by decide) (fun c14 => ?_) (fun c14 => ?_)
    · rw [if_pos c14] at h12
      exact WP.wk (BX5_toNextOrder_34 hk0 hk1 hk2 h12) (And.intro rfl (And.intro rfl trivial))
    · rw [if_neg c14] at h12
      refine wp_iinc (v := (l1 + (-1 : Int32))) (L1 := [some (.ref l0), some (.int (l1 + (-1 : Int32))), none, none, none]) dX5_toNextOrder_28 (Nat.le_of_ble_eq_true rfl) rfl (congrArg (fun z => l1 + z) (by decide)) rfl ?_
      refine wp_goto (tgt := 7) dX5_toNextOrder_31 (by decide) ?_
      exact WP.wk (hk0 _ _ _ _ h12) (And.intro rfl (And.intro rfl trivial))
def eX5_toNextOrder (k : KTX5_toNextOrder) (w : XW) (l0 : Nat) : Option (Int32 × XW) :=
  (gI w l0 5 2).bind fun x1 =>
  k.1 w l0 (x1 - (2 : Int32))
theorem EX5_toNextOrder {K : CX} {l : Launch} {n0 k0 : Nat} {k : KTX5_toNextOrder} (hk0 : ∀ (w : XW) (l0 : Nat) (l1 : Int32) (q : Int32 × XW), k.1 w l0 l1 = some q → WP K l mX5_toNextOrder 2 43 n0 k0 (some (.int q.1)) q.2 7 [some (.ref l0), some (.int l1), none, none, none] [] w) (hk1 : ∀ (w : XW) (l0 : Nat) (l1 : Int32) (l2 : Int32) (q : Int32 × XW), k.2.1 w l0 l1 l2 = some q → WP K l mX5_toNextOrder 2 43 n0 k0 (some (.int q.1)) q.2 47 [some (.ref l0), some (.int l1), some (.int l2), none, none] [] w) (hk2 : ∀ (w : XW) (l0 : Nat) (l3 : Int32) (l4 : Int32) (q : Int32 × XW), k.2.2 w l0 l3 l4 = some q → WP K l mX5_toNextOrder 2 43 n0 k0 (some (.int q.1)) q.2 91 [some (.ref l0), none, none, some (.int l3), some (.int l4)] [] w) {w : XW} {l0 : Nat} {q : Int32 × XW} (h0 : eX5_toNextOrder k w l0 = some q) : WP K l mX5_toNextOrder 2 43 n0 k0 (some (.int q.1)) q.2 0 [some (.ref l0), none, none, none, none] [] w := by
  unfold eX5_toNextOrder at h0
  refine wp_aload_n dX5_toNextOrder_0 rfl ?_
  obtain ⟨x1, e3, h2⟩ := Option.bind_eq_some_iff.mp h0
  clear h0
  refine wp_getI okX5 (k := 2) (by decide) tw97 dX5_toNextOrder_1 e3 ?_
  refine wp_iconst (v := (2 : Int32)) dX5_toNextOrder_4 (by decide) ?_
  refine wp_isub dX5_toNextOrder_5 ?_
  refine wp_istore_n (L1 := [some (.ref l0), some (.int (x1 - (2 : Int32))), none, none, none]) dX5_toNextOrder_6 (Nat.le_of_ble_eq_true rfl) rfl ?_
  exact WP.wk (hk0 _ _ _ _ h2) (And.intro rfl (And.intro rfl trivial))
def loX5_toNextOrder : Nat → KTX5_toNextOrder
  | 0 => (fun _ _ _ => none, fun _ _ _ _ => none, fun _ _ _ _ => none)
  | n + 1 => (hX5_toNextOrder_7 (loX5_toNextOrder n), hX5_toNextOrder_47 (loX5_toNextOrder n), hX5_toNextOrder_91 (loX5_toNextOrder n))
theorem LOX5_toNextOrder {K : CX} {l : Launch} {n0 k0 : Nat} : ∀ n : Nat, (∀ (w : XW) (l0 : Nat) (l1 : Int32) (q : Int32 × XW), (loX5_toNextOrder n).1 w l0 l1 = some q → WP K l mX5_toNextOrder 2 43 n0 k0 (some (.int q.1)) q.2 7 [some (.ref l0), some (.int l1), none, none, none] [] w) ∧ (∀ (w : XW) (l0 : Nat) (l1 : Int32) (l2 : Int32) (q : Int32 × XW), (loX5_toNextOrder n).2.1 w l0 l1 l2 = some q → WP K l mX5_toNextOrder 2 43 n0 k0 (some (.int q.1)) q.2 47 [some (.ref l0), some (.int l1), some (.int l2), none, none] [] w) ∧ (∀ (w : XW) (l0 : Nat) (l3 : Int32) (l4 : Int32) (q : Int32 × XW), (loX5_toNextOrder n).2.2 w l0 l3 l4 = some q → WP K l mX5_toNextOrder 2 43 n0 k0 (some (.int q.1)) q.2 91 [some (.ref l0), none, none, some (.int l3), some (.int l4)] [] w) := by
  intro n
  induction n with
  | zero => exact ⟨fun _ _ _ q h => (by cases h), fun _ _ _ _ q h => (by cases h), fun _ _ _ _ q h => (by cases h)⟩
  | succ n ih => exact ⟨fun _ _ _ q h => HX5_toNextOrder_7 ih.1 ih.2.1 ih.2.2 h, fun _ _ _ _ q h => HX5_toNextOrder_47 ih.1 ih.2.1 ih.2.2 h, fun _ _ _ _ q h => HX5_toNextOrder_91 ih.1 ih.2.1 ih.2.2 h⟩
def fX5_toNextOrder (w : XW) (l0 : Nat) : Option (Int32 × XW) := if isO w l0 5 = true then eX5_toNextOrder (loX5_toNextOrder FU) w l0 else none
theorem OX5_toNextOrder {w : XW} {l0 : Nat} {q : Int32 × XW} (h : fX5_toNextOrder w l0 = some q) : isO w l0 5 = true := Decidable.byContradiction fun z => by unfold fX5_toNextOrder at h; rw [if_neg z] at h; cases h
theorem MX5_toNextOrder {K : CX} {l : Launch} {w : XW} {l0 : Nat} {q : Int32 × XW} (h : fX5_toNextOrder w l0 = some q) : MT K l mX5_toNextOrder 2 43 [.ref l0] w (some (.int q.1)) q.2 := by
  have z := OX5_toNextOrder h
  unfold fX5_toNextOrder at h
  rw [if_pos z] at h
  exact MT.of (by decide) (Nat.le_of_ble_eq_true rfl) rfl (EX5_toNextOrder (LOX5_toNextOrder FU).1 (LOX5_toNextOrder FU).2.1 (LOX5_toNextOrder FU).2.2 h)
/-! FractionRun.findBestOrder()I: frames 6, words 139 -/
abbrev mX7_findBestOrder : MR := (⟨"FractionRun", "findBestOrder", "()I"⟩, prog_1_method_37_code, 6, (some .int))
theorem dX7_findBestOrder_0 : decode prog_1_method_37_code 0 = .ok (.aload_n 0, 1) := by decide +kernel
theorem dX7_findBestOrder_1 : decode prog_1_method_37_code 1 = .ok (.getfield 43, 3) := by decide +kernel
theorem dX7_findBestOrder_4 : decode prog_1_method_37_code 4 = .ok (.aload_n 0, 1) := by decide +kernel
theorem dX7_findBestOrder_5 : decode prog_1_method_37_code 5 = .ok (.getfield 36, 3) := by decide +kernel
theorem dX7_findBestOrder_8 : decode prog_1_method_37_code 8 = .ok (.invokevirtual 189, 3) := by decide +kernel
theorem dX7_findBestOrder_11 : decode prog_1_method_37_code 11 = .ok (.aload_n 0, 1) := by decide +kernel
theorem dX7_findBestOrder_12 : decode prog_1_method_37_code 12 = .ok (.getfield 43, 3) := by decide +kernel
theorem dX7_findBestOrder_15 : decode prog_1_method_37_code 15 = .ok (.iconst 0, 1) := by decide +kernel
theorem dX7_findBestOrder_16 : decode prog_1_method_37_code 16 = .ok (.putfield 272, 3) := by decide +kernel
theorem dX7_findBestOrder_19 : decode prog_1_method_37_code 19 = .ok (.aload_n 0, 1) := by decide +kernel
theorem dX7_findBestOrder_20 : decode prog_1_method_37_code 20 = .ok (.getfield 43, 3) := by decide +kernel
theorem dX7_findBestOrder_23 : decode prog_1_method_37_code 23 = .ok (.invokevirtual 276, 3) := by decide +kernel
theorem dX7_findBestOrder_26 : decode prog_1_method_37_code 26 = .ok (.bipush (-4), 2) := by decide +kernel
theorem dX7_findBestOrder_28 : decode prog_1_method_37_code 28 = .ok (.istore_n 1, 1) := by decide +kernel
theorem dX7_findBestOrder_29 : decode prog_1_method_37_code 29 = .ok (.sipush 200, 3) := by decide +kernel
theorem dX7_findBestOrder_32 : decode prog_1_method_37_code 32 = .ok (.istore_n 2, 1) := by decide +kernel
theorem dX7_findBestOrder_33 : decode prog_1_method_37_code 33 = .ok (.iconst 1, 1) := by decide +kernel
theorem dX7_findBestOrder_34 : decode prog_1_method_37_code 34 = .ok (.istore_n 3, 1) := by decide +kernel
theorem dX7_findBestOrder_35 : decode prog_1_method_37_code 35 = .ok (.iconst 0, 1) := by decide +kernel
theorem dX7_findBestOrder_36 : decode prog_1_method_37_code 36 = .ok (.istore 4, 2) := by decide +kernel
theorem dX7_findBestOrder_38 : decode prog_1_method_37_code 38 = .ok (.iload 4, 2) := by decide +kernel
theorem dX7_findBestOrder_40 : decode prog_1_method_37_code 40 = .ok (.bipush 120, 2) := by decide +kernel
theorem dX7_findBestOrder_42 : decode prog_1_method_37_code 42 = .ok (.if_icmp .ge 83, 3) := by decide +kernel
theorem dX7_findBestOrder_45 : decode prog_1_method_37_code 45 = .ok (.iload_n 3, 1) := by decide +kernel
theorem dX7_findBestOrder_46 : decode prog_1_method_37_code 46 = .ok (.ifCond .eq 79, 3) := by decide +kernel
theorem dX7_findBestOrder_49 : decode prog_1_method_37_code 49 = .ok (.iload_n 2, 1) := by decide +kernel
theorem dX7_findBestOrder_50 : decode prog_1_method_37_code 50 = .ok (.ifCond .lt 75, 3) := by decide +kernel
theorem dX7_findBestOrder_53 : decode prog_1_method_37_code 53 = .ok (.aload_n 0, 1) := by decide +kernel
theorem dX7_findBestOrder_54 : decode prog_1_method_37_code 54 = .ok (.getfield 40, 3) := by decide +kernel
theorem dX7_findBestOrder_57 : decode prog_1_method_37_code 57 = .ok (.aload_n 0, 1) := by decide +kernel
theorem dX7_findBestOrder_58 : decode prog_1_method_37_code 58 = .ok (.getfield 43, 3) := by decide +kernel
theorem dX7_findBestOrder_61 : decode prog_1_method_37_code 61 = .ok (.invokevirtual 189, 3) := by decide +kernel
theorem dX7_findBestOrder_64 : decode prog_1_method_37_code 64 = .ok (.aload_n 0, 1) := by decide +kernel
theorem dX7_findBestOrder_65 : decode prog_1_method_37_code 65 = .ok (.getfield 40, 3) := by decide +kernel
theorem dX7_findBestOrder_68 : decode prog_1_method_37_code 68 = .ok (.aload_n 0, 1) := by decide +kernel
theorem dX7_findBestOrder_69 : decode prog_1_method_37_code 69 = .ok (.getfield 26, 3) := by decide +kernel
theorem dX7_findBestOrder_72 : decode prog_1_method_37_code 72 = .ok (.iload_n 2, 1) := by decide +kernel
theorem dX7_findBestOrder_73 : decode prog_1_method_37_code 73 = .ok (.invokevirtual 195, 3) := by decide +kernel
theorem dX7_findBestOrder_76 : decode prog_1_method_37_code 76 = .ok (.istore 5, 2) := by decide +kernel
theorem dX7_findBestOrder_78 : decode prog_1_method_37_code 78 = .ok (.iload 5, 2) := by decide +kernel
theorem dX7_findBestOrder_80 : decode prog_1_method_37_code 80 = .ok (.bipush (-4), 2) := by decide +kernel
theorem dX7_findBestOrder_82 : decode prog_1_method_37_code 82 = .ok (.if_icmp .eq 29, 3) := by decide +kernel
theorem dX7_findBestOrder_85 : decode prog_1_method_37_code 85 = .ok (.iload 5, 2) := by decide +kernel
theorem dX7_findBestOrder_87 : decode prog_1_method_37_code 87 = .ok (.istore_n 1, 1) := by decide +kernel
theorem dX7_findBestOrder_88 : decode prog_1_method_37_code 88 = .ok (.iload 5, 2) := by decide +kernel
theorem dX7_findBestOrder_90 : decode prog_1_method_37_code 90 = .ok (.iconst 1, 1) := by decide +kernel
theorem dX7_findBestOrder_91 : decode prog_1_method_37_code 91 = .ok (.isub, 1) := by decide +kernel
theorem dX7_findBestOrder_92 : decode prog_1_method_37_code 92 = .ok (.istore_n 2, 1) := by decide +kernel
theorem dX7_findBestOrder_93 : decode prog_1_method_37_code 93 = .ok (.aload_n 0, 1) := by decide +kernel
theorem dX7_findBestOrder_94 : decode prog_1_method_37_code 94 = .ok (.getfield 43, 3) := by decide +kernel
theorem dX7_findBestOrder_97 : decode prog_1_method_37_code 97 = .ok (.getfield 221, 3) := by decide +kernel
theorem dX7_findBestOrder_100 : decode prog_1_method_37_code 100 = .ok (.iconst 0, 1) := by decide +kernel
theorem dX7_findBestOrder_101 : decode prog_1_method_37_code 101 = .ok (.aload_n 0, 1) := by decide +kernel
theorem dX7_findBestOrder_102 : decode prog_1_method_37_code 102 = .ok (.getfield 77, 3) := by decide +kernel
theorem dX7_findBestOrder_105 : decode prog_1_method_37_code 105 = .ok (.iconst 0, 1) := by decide +kernel
theorem dX7_findBestOrder_106 : decode prog_1_method_37_code 106 = .ok (.bipush 8, 2) := by decide +kernel
theorem dX7_findBestOrder_108 : decode prog_1_method_37_code 108 = .ok (.invokestatic 279, 3) := by decide +kernel
theorem dX7_findBestOrder_111 : decode prog_1_method_37_code 111 = .ok (.aload_n 0, 1) := by decide +kernel
theorem dX7_findBestOrder_112 : decode prog_1_method_37_code 112 = .ok (.getfield 43, 3) := by decide +kernel
theorem dX7_findBestOrder_115 : decode prog_1_method_37_code 115 = .ok (.invokevirtual 285, 3) := by decide +kernel
theorem dX7_findBestOrder_118 : decode prog_1_method_37_code 118 = .ok (.istore_n 3, 1) := by decide +kernel
theorem dX7_findBestOrder_119 : decode prog_1_method_37_code 119 = .ok (.iinc 4 1, 3) := by decide +kernel
theorem dX7_findBestOrder_122 : decode prog_1_method_37_code 122 = .ok (.goto (-84), 3) := by decide +kernel
theorem dX7_findBestOrder_125 : decode prog_1_method_37_code 125 = .ok (.iload_n 1, 1) := by decide +kernel
theorem dX7_findBestOrder_126 : decode prog_1_method_37_code 126 = .ok (.ireturn, 1) := by decide +kernel
theorem okM_X7_findBestOrder : okM mX7_findBestOrder 0 := ⟨tw540, tw1, by decide, by decide, by decide +kernel⟩
abbrev KTX7_findBestOrder : Type := (XW → Nat → Int32 → Int32 → Int32 → Int32 → Option (Int32 × XW))
def bX7_findBestOrder_125 (k : KTX7_findBestOrder) (w : XW) (l1 : Int32) : Option (Int32 × XW) :=
  some (l1, w)
theorem BX7_findBestOrder_125 {K : CX} {l : Launch} {n0 k0 : Nat} {k : KTX7_findBestOrder} (hk0 : ∀ (w : XW) (l0 : Nat) (l1 : Int32) (l2 : Int32) (l3 : Int32) (l4 : Int32) (q : Int32 × XW), k w l0 l1 l2 l3 l4 = some q → WP K l mX7_findBestOrder 6 139 n0 k0 (some (.int q.1)) q.2 38 [some (.ref l0), some (.int l1), some (.int l2), some (.int l3), some (.int l4), none] [] w) {w : XW} {l1 : Int32} {q : Int32 × XW} (h0 : bX7_findBestOrder_125 k w l1 = some q) : WP K l mX7_findBestOrder 6 139 n0 k0 (some (.int q.1)) q.2 125 [none, some (.int l1), none, none, none, none] [] w := by
  unfold bX7_findBestOrder_125 at h0
  refine wp_iload_n dX7_findBestOrder_125 rfl ?_
  cases h0
  exact wp_iret rfl dX7_findBestOrder_126
def bX7_findBestOrder_111 (k : KTX7_findBestOrder) (w : XW) (l0 : Nat) (l1 : Int32) (l2 : Int32) (l4 : Int32) : Option (Int32 × XW) :=
  (gR w l0 7 6).bind fun x1 =>
  (fX5_toNextOrder w x1).bind fun q4 =>
  k q4.2 l0 l1 l2 q4.1 (l4 + (1 : Int32))
theorem BX7_findBestOrder_111 {K : CX} {l : Launch} {n0 k0 : Nat} {k : KTX7_findBestOrder} (hk0 : ∀ (w : XW) (l0 : Nat) (l1 : Int32) (l2 : Int32) (l3 : Int32) (l4 : Int32) (q : Int32 × XW), k w l0 l1 l2 l3 l4 = some q → WP K l mX7_findBestOrder 6 139 n0 k0 (some (.int q.1)) q.2 38 [some (.ref l0), some (.int l1), some (.int l2), some (.int l3), some (.int l4), none] [] w) {w : XW} {l0 : Nat} {l1 : Int32} {l2 : Int32} {l4 : Int32} {q : Int32 × XW} (h0 : bX7_findBestOrder_111 k w l0 l1 l2 l4 = some q) : WP K l mX7_findBestOrder 6 139 n0 k0 (some (.int q.1)) q.2 111 [some (.ref l0), some (.int l1), some (.int l2), none, some (.int l4), none] [] w := by
  unfold bX7_findBestOrder_111 at h0
  refine wp_aload_n dX7_findBestOrder_111 rfl ?_
  obtain ⟨x1, e3, h2⟩ := Option.bind_eq_some_iff.mp h0
  clear h0
  refine wp_getR okX7 (k := 6) (by decide) tw304 dX7_findBestOrder_112 e3 ?_
  obtain ⟨q4, e6, h5⟩ := Option.bind_eq_some_iff.mp h2
  clear h2
  refine wp_Vi (As := []) (S := []) okM_X5_toNextOrder tw547 tw548 tw546 (OX5_toNextOrder e6) rfl rfl rfl ⟨(Nat.le_of_ble_eq_true rfl), (Nat.le_of_ble_eq_true rfl)⟩ (Nat.le_of_ble_eq_true rfl) rfl dX7_findBestOrder_115 (MX5_toNextOrder e6) ?_
  refine wp_istore_n (L1 := [some (.ref l0), some (.int l1), some (.int l2), some (.int q4.1), some (.int l4), none]) dX7_findBestOrder_118 (Nat.le_of_ble_eq_true rfl) rfl ?_
  refine wp_iinc (v := (l4 + (1 : Int32))) (L1 := [some (.ref l0), some (.int l1), some (.int l2), some (.int q4.1), some (.int (l4 + (1 : Int32))), none]) dX7_findBestOrder_119 (Nat.le_of_ble_eq_true rfl) rfl (congrArg (fun z => l4 + z) (by decide)) rfl ?_
  refine wp_goto (tgt := 38) dX7_findBestOrder_122 (by decide) ?_
  exact WP.wk (hk0 _ _ _ _ _ _ _ h5) (And.intro rfl (And.intro rfl (And.intro rfl (And.intro rfl (And.intro rfl trivial)))))
def hX7_findBestOrder_38 (k : KTX7_findBestOrder) (w : XW) (l0 : Nat) (l1 : Int32) (l2 : Int32) (l3 : Int32) (l4 : Int32) : Option (Int32 × XW) :=
  if (120 : Int32) ≤ l4 then
  bX7_findBestOrder_125 k w l1
  else
  if l3 = 0 then
  bX7_findBestOrder_125 k w l1
  else
  if l2 < 0 then
  bX7_findBestOrder_125 k w l1
  else
  (gR w l0 7 5).bind fun x4 =>
  (gR w l0 7 6).bind fun x7 =>
  (fX5_copyFrom w x4 x7).bind fun q10 =>
  (gR q10 l0 7 5).bind fun x13 =>
  (gR q10 l0 7 2).bind fun x16 =>
  (fX5_stepsToRest q10 x13 x16 l2).bind fun q19 =>
  if q19.1 = (-4 : Int32) then
  bX7_findBestOrder_111 k q19.2 l0 l1 l2 l4
  else
  (gR q19.2 l0 7 6).bind fun x23 =>
  (gR q19.2 x23 5 1).bind fun x26 =>
  (gR q19.2 l0 7 14).bind fun x29 =>
  (cpI q19.2 0 x26 (0 : Int32) x29 (0 : Int32) (8 : Int32)).bind fun w32 =>
  bX7_findBestOrder_111 k w32 l0 q19.1 (q19.1 - (1 : Int32)) l4
theorem HX7_findBestOrder_38 {K : CX} {l : Launch} {n0 k0 : Nat} {k : KTX7_findBestOrder} (hk0 : ∀ (w : XW) (l0 : Nat) (l1 : Int32) (l2 : Int32) (l3 : Int32) (l4 : Int32) (q : Int32 × XW), k w l0 l1 l2 l3 l4 = some q → WP K l mX7_findBestOrder 6 139 n0 k0 (some (.int q.1)) q.2 38 [some (.ref l0), some (.int l1), some (.int l2), some (.int l3), some (.int l4), none] [] w) {w : XW} {l0 : Nat} {l1 : Int32} {l2 : Int32} {l3 : Int32} {l4 : Int32} {q : Int32 × XW} (h0 : hX7_findBestOrder_38 k w l0 l1 l2 l3 l4 = some q) : WP K l mX7_findBestOrder 6 139 n0 k0 (some (.int q.1)) q.2 38 [some (.ref l0), some (.int l1), some (.int l2), some (.int l3), some (.int l4), none] [] w := by
  unfold hX7_findBestOrder_38 at h0
  refine wp_iload dX7_findBestOrder_38 rfl ?_
  refine wp_bipush (v := (120 : Int32)) dX7_findBestOrder_40 (by decide) ?_
  refine wp_icmp_ge (tgt := 125) dX7_findBestOrder_42 (by decide) (fun c1 => ?_) (fun c1 => ?_)
  · rw [if_pos c1] at h0
    exact WP.wk (BX7_findBestOrder_125 hk0 h0) (And.intro rfl trivial)
  · rw [if_neg c1] at h0
    refine wp_iload_n dX7_findBestOrder_45 rfl ?_
    refine wp_if_eq (tgt := 125) dX7_findBestOrder_46 (by decide) (fun c2 => ?_) (fun c2 => ?_)
    · rw [if_pos c2] at h0
      exact WP.wk (BX7_findBestOrder_125 hk0 h0) (And.intro rfl trivial)
    · rw [if_neg c2] at h0
      refine wp_iload_n dX7_findBestOrder_49 rfl ?_
      refine wp_if_lt (tgt := 125) dX7_findBestOrder_50 (by decide) (fun c3 => ?_) (fun c3 => ?_)
      · rw [if_pos c3] at h0
        exact WP.wk (BX7_findBestOrder_125 hk0 h0) (And.intro rfl trivial)
      · rw [if_neg c3] at h0
        refine wp_aload_n dX7_findBestOrder_53 rfl ?_
        obtain ⟨x4, e6, h5⟩ := Option.bind_eq_some_iff.mp h0
        clear h0
        refine wp_getR okX7 (k := 5) (by decide) tw303 dX7_findBestOrder_54 e6 ?_
        refine wp_aload_n dX7_findBestOrder_57 rfl ?_
        obtain ⟨x7, e9, h8⟩ := Option.bind_eq_some_iff.mp h5
        clear h5
        refine wp_getR okX7 (k := 6) (by decide) tw304 dX7_findBestOrder_58 e9 ?_
        obtain ⟨q10, e12, h11⟩ := Option.bind_eq_some_iff.mp h8
        clear h8
        refine wp_Vv (As := [.ref x7]) (S := []) okM_X5_copyFrom tw419 tw420 tw474 (OX5_copyFrom e12) rfl rfl rfl ⟨(Nat.le_of_ble_eq_true rfl), (Nat.le_of_ble_eq_true rfl)⟩ (Nat.le_of_ble_eq_true rfl) rfl dX7_findBestOrder_61 (MX5_copyFrom e12) ?_
        refine wp_aload_n dX7_findBestOrder_64 rfl ?_
        obtain ⟨x13, e15, h14⟩ := Option.bind_eq_some_iff.mp h11
        clear h11
        refine wp_getR okX7 (k := 5) (by decide) tw303 dX7_findBestOrder_65 e15 ?_
        refine wp_aload_n dX7_findBestOrder_68 rfl ?_
        obtain ⟨x16, e18, h17⟩ := Option.bind_eq_some_iff.mp h14
        clear h14
        refine wp_getR okX7 (k := 2) (by decide) tw300 dX7_findBestOrder_69 e18 ?_
        refine wp_iload_n dX7_findBestOrder_72 rfl ?_
        obtain ⟨q19, e21, h20⟩ := Option.bind_eq_some_iff.mp h17
        clear h17
        refine wp_Vi (As := [.ref x16, .int l2]) (S := []) okM_X5_stepsToRest tw485 tw486 tw484 (OX5_stepsToRest e21) rfl rfl rfl ⟨(Nat.le_of_ble_eq_true rfl), (Nat.le_of_ble_eq_true rfl)⟩ (Nat.le_of_ble_eq_true rfl) rfl dX7_findBestOrder_73 (MX5_stepsToRest e21) ?_
        refine wp_istore (L1 := [some (.ref l0), some (.int l1), some (.int l2), some (.int l3), some (.int l4), some (.int q19.1)]) dX7_findBestOrder_76 (Nat.le_of_ble_eq_true rfl) rfl ?_
        refine wp_iload dX7_findBestOrder_78 rfl ?_
        refine wp_bipush (v := (-4 : Int32)) dX7_findBestOrder_80 (by decide) ?_
        refine wp_icmp_eq (tgt := 111) dX7_findBestOrder_82 (by decide) (fun c22 => ?_) (fun c22 => ?_)
        · rw [if_pos c22] at h20
          exact WP.wk (BX7_findBestOrder_111 hk0 h20) (And.intro rfl (And.intro rfl (And.intro rfl (And.intro rfl trivial))))
        · rw [if_neg c22] at h20
          refine wp_iload dX7_findBestOrder_85 rfl ?_
          refine wp_istore_n (L1 := [some (.ref l0), some (.int q19.1), some (.int l2), some (.int l3), some (.int l4), some (.int q19.1)]) dX7_findBestOrder_87 (Nat.le_of_ble_eq_true rfl) rfl ?_
          refine wp_iload dX7_findBestOrder_88 rfl ?_
          refine wp_iconst (v := (1 : Int32)) dX7_findBestOrder_90 (by decide) ?_
          refine wp_isub dX7_findBestOrder_91 ?_
          refine wp_istore_n (L1 := [some (.ref l0), some (.int q19.1), some (.int (q19.1 - (1 : Int32))), some (.int l3), some (.int l4), some (.int q19.1)]) dX7_findBestOrder_92 (Nat.le_of_ble_eq_true rfl) rfl ?_
          refine wp_aload_n dX7_findBestOrder_93 rfl ?_
          obtain ⟨x23, e25, h24⟩ := Option.bind_eq_some_iff.mp h20
          clear h20
          refine wp_getR okX7 (k := 6) (by decide) tw304 dX7_findBestOrder_94 e25 ?_
          obtain ⟨x26, e28, h27⟩ := Option.bind_eq_some_iff.mp h24
          clear h24
          refine wp_getR okX5 (k := 1) (by decide) tw96 dX7_findBestOrder_97 e28 ?_
          refine wp_iconst (v := (0 : Int32)) dX7_findBestOrder_100 (by decide) ?_
          refine wp_aload_n dX7_findBestOrder_101 rfl ?_
          obtain ⟨x29, e31, h30⟩ := Option.bind_eq_some_iff.mp h27
          clear h27
          refine wp_getR okX7 (k := 14) (by decide) tw312 dX7_findBestOrder_102 e31 ?_
          refine wp_iconst (v := (0 : Int32)) dX7_findBestOrder_105 (by decide) ?_
          refine wp_bipush (v := (8 : Int32)) dX7_findBestOrder_106 (by decide) ?_
          obtain ⟨w32, e34, h33⟩ := Option.bind_eq_some_iff.mp h30
          clear h30
          refine wp_copy (t := 0) rfl (Or.inl rfl) tw545 tw293 tw292 tw14 ⟨(Nat.le_of_ble_eq_true rfl), (Nat.le_of_ble_eq_true rfl)⟩ rfl dX7_findBestOrder_108 e34 ?_
          exact WP.wk (BX7_findBestOrder_111 hk0 h33) (And.intro rfl (And.intro rfl (And.intro rfl (And.intro rfl trivial))))
def eX7_findBestOrder (k : KTX7_findBestOrder) (w : XW) (l0 : Nat) : Option (Int32 × XW) :=
  (gR w l0 7 6).bind fun x1 =>
  (gR w l0 7 4).bind fun x4 =>
  (fX5_copyFrom w x1 x4).bind fun q7 =>
  (gR q7 l0 7 6).bind fun x10 =>
  (pV q7 x10 5 5 (.int (0 : Int32))).bind fun w13 =>
  (gR w13 l0 7 6).bind fun x16 =>
  (fX5_sortRow w13 x16).bind fun q19 =>
  k q19 l0 (-4 : Int32) (200 : Int32) (1 : Int32) (0 : Int32)
theorem EX7_findBestOrder {K : CX} {l : Launch} {n0 k0 : Nat} {k : KTX7_findBestOrder} (hk0 : ∀ (w : XW) (l0 : Nat) (l1 : Int32) (l2 : Int32) (l3 : Int32) (l4 : Int32) (q : Int32 × XW), k w l0 l1 l2 l3 l4 = some q → WP K l mX7_findBestOrder 6 139 n0 k0 (some (.int q.1)) q.2 38 [some (.ref l0), some (.int l1), some (.int l2), some (.int l3), some (.int l4), none] [] w) {w : XW} {l0 : Nat} {q : Int32 × XW} (h0 : eX7_findBestOrder k w l0 = some q) : WP K l mX7_findBestOrder 6 139 n0 k0 (some (.int q.1)) q.2 0 [some (.ref l0), none, none, none, none, none] [] w := by
  unfold eX7_findBestOrder at h0
  refine wp_aload_n dX7_findBestOrder_0 rfl ?_
  obtain ⟨x1, e3, h2⟩ := Option.bind_eq_some_iff.mp h0
  clear h0
  refine wp_getR okX7 (k := 6) (by decide) tw304 dX7_findBestOrder_1 e3 ?_
  refine wp_aload_n dX7_findBestOrder_4 rfl ?_
  obtain ⟨x4, e6, h5⟩ := Option.bind_eq_some_iff.mp h2
  clear h2
  refine wp_getR okX7 (k := 4) (by decide) tw302 dX7_findBestOrder_5 e6 ?_
  obtain ⟨q7, e9, h8⟩ := Option.bind_eq_some_iff.mp h5
  clear h5
  refine wp_Vv (As := [.ref x4]) (S := []) okM_X5_copyFrom tw419 tw420 tw474 (OX5_copyFrom e9) rfl rfl rfl ⟨(Nat.le_of_ble_eq_true rfl), (Nat.le_of_ble_eq_true rfl)⟩ (Nat.le_of_ble_eq_true rfl) rfl dX7_findBestOrder_8 (MX5_copyFrom e9) ?_
  refine wp_aload_n dX7_findBestOrder_11 rfl ?_
  obtain ⟨x10, e12, h11⟩ := Option.bind_eq_some_iff.mp h8
  clear h8
  refine wp_getR okX7 (k := 6) (by decide) tw304 dX7_findBestOrder_12 e12 ?_
  refine wp_iconst (v := (0 : Int32)) dX7_findBestOrder_15 (by decide) ?_
  obtain ⟨w13, e15, h14⟩ := Option.bind_eq_some_iff.mp h11
  clear h11
  refine wp_putV okX5 (k := 5) (by decide) rfl tw106 dX7_findBestOrder_16 rfl rfl e15 ?_
  refine wp_aload_n dX7_findBestOrder_19 rfl ?_
  obtain ⟨x16, e18, h17⟩ := Option.bind_eq_some_iff.mp h14
  clear h14
  refine wp_getR okX7 (k := 6) (by decide) tw304 dX7_findBestOrder_20 e18 ?_
  obtain ⟨q19, e21, h20⟩ := Option.bind_eq_some_iff.mp h17
  clear h17
  refine wp_Vv (As := []) (S := []) okM_X5_sortRow tw542 tw543 tw541 (OX5_sortRow e21) rfl rfl rfl ⟨(Nat.le_of_ble_eq_true rfl), (Nat.le_of_ble_eq_true rfl)⟩ (Nat.le_of_ble_eq_true rfl) rfl dX7_findBestOrder_23 (MX5_sortRow e21) ?_
  refine wp_bipush (v := (-4 : Int32)) dX7_findBestOrder_26 (by decide) ?_
  refine wp_istore_n (L1 := [some (.ref l0), some (.int (-4 : Int32)), none, none, none, none]) dX7_findBestOrder_28 (Nat.le_of_ble_eq_true rfl) rfl ?_
  refine wp_sipush (v := (200 : Int32)) dX7_findBestOrder_29 (by decide) ?_
  refine wp_istore_n (L1 := [some (.ref l0), some (.int (-4 : Int32)), some (.int (200 : Int32)), none, none, none]) dX7_findBestOrder_32 (Nat.le_of_ble_eq_true rfl) rfl ?_
  refine wp_iconst (v := (1 : Int32)) dX7_findBestOrder_33 (by decide) ?_
  refine wp_istore_n (L1 := [some (.ref l0), some (.int (-4 : Int32)), some (.int (200 : Int32)), some (.int (1 : Int32)), none, none]) dX7_findBestOrder_34 (Nat.le_of_ble_eq_true rfl) rfl ?_
  refine wp_iconst (v := (0 : Int32)) dX7_findBestOrder_35 (by decide) ?_
  refine wp_istore (L1 := [some (.ref l0), some (.int (-4 : Int32)), some (.int (200 : Int32)), some (.int (1 : Int32)), some (.int (0 : Int32)), none]) dX7_findBestOrder_36 (Nat.le_of_ble_eq_true rfl) rfl ?_
  exact WP.wk (hk0 _ _ _ _ _ _ _ h20) (And.intro rfl (And.intro rfl (And.intro rfl (And.intro rfl (And.intro rfl trivial)))))
def loX7_findBestOrder : Nat → KTX7_findBestOrder
  | 0 => fun _ _ _ _ _ _ => none
  | n + 1 => hX7_findBestOrder_38 (loX7_findBestOrder n)
theorem LOX7_findBestOrder {K : CX} {l : Launch} {n0 k0 : Nat} : ∀ n : Nat, (∀ (w : XW) (l0 : Nat) (l1 : Int32) (l2 : Int32) (l3 : Int32) (l4 : Int32) (q : Int32 × XW), (loX7_findBestOrder n) w l0 l1 l2 l3 l4 = some q → WP K l mX7_findBestOrder 6 139 n0 k0 (some (.int q.1)) q.2 38 [some (.ref l0), some (.int l1), some (.int l2), some (.int l3), some (.int l4), none] [] w) := by
  intro n
  induction n with
  | zero => exact fun _ _ _ _ _ _ q h => (by cases h)
  | succ n ih => exact fun _ _ _ _ _ _ q h => HX7_findBestOrder_38 ih h
def fX7_findBestOrder (w : XW) (l0 : Nat) : Option (Int32 × XW) := if isO w l0 7 = true then eX7_findBestOrder (loX7_findBestOrder FU) w l0 else none
theorem OX7_findBestOrder {w : XW} {l0 : Nat} {q : Int32 × XW} (h : fX7_findBestOrder w l0 = some q) : isO w l0 7 = true := Decidable.byContradiction fun z => by unfold fX7_findBestOrder at h; rw [if_neg z] at h; cases h
theorem MX7_findBestOrder {K : CX} {l : Launch} {w : XW} {l0 : Nat} {q : Int32 × XW} (h : fX7_findBestOrder w l0 = some q) : MT K l mX7_findBestOrder 6 139 [.ref l0] w (some (.int q.1)) q.2 := by
  have z := OX7_findBestOrder h
  unfold fX7_findBestOrder at h
  rw [if_pos z] at h
  exact MT.of (by decide) (Nat.le_of_ble_eq_true rfl) rfl (EX7_findBestOrder (LOX7_findBestOrder FU) h)
/-! FractionRun.order(I)I: frames 7, words 164 -/
abbrev mX7_order : MR := (⟨"FractionRun", "order", "(I)I"⟩, prog_1_method_20_code, 3, (some .int))
theorem dX7_order_0 : decode prog_1_method_20_code 0 = .ok (.iload_n 1, 1) := by decide +kernel
theorem dX7_order_1 : decode prog_1_method_20_code 1 = .ok (.iconst (-1), 1) := by decide +kernel
theorem dX7_order_2 : decode prog_1_method_20_code 2 = .ok (.if_icmp .lt 9, 3) := by decide +kernel
theorem dX7_order_5 : decode prog_1_method_20_code 5 = .ok (.iload_n 1, 1) := by decide +kernel
theorem dX7_order_6 : decode prog_1_method_20_code 6 = .ok (.bipush 8, 2) := by decide +kernel
theorem dX7_order_8 : decode prog_1_method_20_code 8 = .ok (.if_icmp .lt 5, 3) := by decide +kernel
theorem dX7_order_11 : decode prog_1_method_20_code 11 = .ok (.iconst (-1), 1) := by decide +kernel
theorem dX7_order_12 : decode prog_1_method_20_code 12 = .ok (.ireturn, 1) := by decide +kernel
theorem dX7_order_13 : decode prog_1_method_20_code 13 = .ok (.aload_n 0, 1) := by decide +kernel
theorem dX7_order_14 : decode prog_1_method_20_code 14 = .ok (.getfield 36, 3) := by decide +kernel
theorem dX7_order_17 : decode prog_1_method_20_code 17 = .ok (.getfield 175, 3) := by decide +kernel
theorem dX7_order_20 : decode prog_1_method_20_code 20 = .ok (.iconst 5, 1) := by decide +kernel
theorem dX7_order_21 : decode prog_1_method_20_code 21 = .ok (.if_icmp .le 6, 3) := by decide +kernel
theorem dX7_order_24 : decode prog_1_method_20_code 24 = .ok (.bipush (-4), 2) := by decide +kernel
theorem dX7_order_26 : decode prog_1_method_20_code 26 = .ok (.ireturn, 1) := by decide +kernel
theorem dX7_order_27 : decode prog_1_method_20_code 27 = .ok (.aload_n 0, 1) := by decide +kernel
theorem dX7_order_28 : decode prog_1_method_20_code 28 = .ok (.invokevirtual 224, 3) := by decide +kernel
theorem dX7_order_31 : decode prog_1_method_20_code 31 = .ok (.istore_n 2, 1) := by decide +kernel
theorem dX7_order_32 : decode prog_1_method_20_code 32 = .ok (.iload_n 2, 1) := by decide +kernel
theorem dX7_order_33 : decode prog_1_method_20_code 33 = .ok (.bipush (-4), 2) := by decide +kernel
theorem dX7_order_35 : decode prog_1_method_20_code 35 = .ok (.if_icmp .eq 14, 3) := by decide +kernel
theorem dX7_order_38 : decode prog_1_method_20_code 38 = .ok (.iload_n 1, 1) := by decide +kernel
theorem dX7_order_39 : decode prog_1_method_20_code 39 = .ok (.aload_n 0, 1) := by decide +kernel
theorem dX7_order_40 : decode prog_1_method_20_code 40 = .ok (.getfield 36, 3) := by decide +kernel
theorem dX7_order_43 : decode prog_1_method_20_code 43 = .ok (.getfield 175, 3) := by decide +kernel
theorem dX7_order_46 : decode prog_1_method_20_code 46 = .ok (.if_icmp .lt 6, 3) := by decide +kernel
theorem dX7_order_49 : decode prog_1_method_20_code 49 = .ok (.bipush (-4), 2) := by decide +kernel
theorem dX7_order_51 : decode prog_1_method_20_code 51 = .ok (.ireturn, 1) := by decide +kernel
theorem dX7_order_52 : decode prog_1_method_20_code 52 = .ok (.iload_n 1, 1) := by decide +kernel
theorem dX7_order_53 : decode prog_1_method_20_code 53 = .ok (.iconst (-1), 1) := by decide +kernel
theorem dX7_order_54 : decode prog_1_method_20_code 54 = .ok (.if_icmp .ne 7, 3) := by decide +kernel
theorem dX7_order_57 : decode prog_1_method_20_code 57 = .ok (.iload_n 2, 1) := by decide +kernel
theorem dX7_order_58 : decode prog_1_method_20_code 58 = .ok (.goto 9, 3) := by decide +kernel
theorem dX7_order_61 : decode prog_1_method_20_code 61 = .ok (.aload_n 0, 1) := by decide +kernel
theorem dX7_order_62 : decode prog_1_method_20_code 62 = .ok (.getfield 77, 3) := by decide +kernel
theorem dX7_order_65 : decode prog_1_method_20_code 65 = .ok (.iload_n 1, 1) := by decide +kernel
theorem dX7_order_66 : decode prog_1_method_20_code 66 = .ok (.iaload, 1) := by decide +kernel
theorem dX7_order_67 : decode prog_1_method_20_code 67 = .ok (.ireturn, 1) := by decide +kernel
theorem okM_X7_order : okM mX7_order 1 := ⟨tw536, tw1, by decide, by decide, by decide +kernel⟩
def bX7_order_67 (w : XW) (s0 : Int32) : Option (Int32 × XW) :=
  some (s0, w)
theorem BX7_order_67 {K : CX} {l : Launch} {n0 k0 : Nat} {w : XW} {s0 : Int32} {q : Int32 × XW} (h0 : bX7_order_67 w s0 = some q) : WP K l mX7_order 7 164 n0 k0 (some (.int q.1)) q.2 67 [none, none, none] [.int s0] w := by
  unfold bX7_order_67 at h0
  cases h0
  exact wp_iret rfl dX7_order_67
def bX7_order_49 (w : XW) : Option (Int32 × XW) :=
  some ((-4 : Int32), w)
theorem BX7_order_49 {K : CX} {l : Launch} {n0 k0 : Nat} {w : XW} {q : Int32 × XW} (h0 : bX7_order_49 w = some q) : WP K l mX7_order 7 164 n0 k0 (some (.int q.1)) q.2 49 [none, none, none] [] w := by
  unfold bX7_order_49 at h0
  refine wp_bipush (v := (-4 : Int32)) dX7_order_49 (by decide) ?_
  cases h0
  exact wp_iret rfl dX7_order_51
def bX7_order_11 (w : XW) : Option (Int32 × XW) :=
  some ((-1 : Int32), w)
theorem BX7_order_11 {K : CX} {l : Launch} {n0 k0 : Nat} {w : XW} {q : Int32 × XW} (h0 : bX7_order_11 w = some q) : WP K l mX7_order 7 164 n0 k0 (some (.int q.1)) q.2 11 [none, none, none] [] w := by
  unfold bX7_order_11 at h0
  refine wp_iconst (v := (-1 : Int32)) dX7_order_11 (by decide) ?_
  cases h0
  exact wp_iret rfl dX7_order_12
def eX7_order (w : XW) (l0 : Nat) (l1 : Int32) : Option (Int32 × XW) :=
  if l1 < (-1 : Int32) then
  bX7_order_11 w
  else
  if l1 < (8 : Int32) then
  (gR w l0 7 4).bind fun x3 =>
  (gI w x3 5 2).bind fun x6 =>
  if x6 ≤ (5 : Int32) then
  (fX7_findBestOrder w l0).bind fun q10 =>
  if q10.1 = (-4 : Int32) then
  bX7_order_49 q10.2
  else
  (gR q10.2 l0 7 4).bind fun x14 =>
  (gI q10.2 x14 5 2).bind fun x17 =>
  if l1 < x17 then
  if l1 = (-1 : Int32) then
  bX7_order_67 q10.2 q10.1
  else
  (gR q10.2 l0 7 14).bind fun x22 =>
  (aI q10.2 0 x22 l1).bind fun x25 =>
  bX7_order_67 q10.2 x25
  else
  bX7_order_49 q10.2
  else
  some ((-4 : Int32), w)
  else
  bX7_order_11 w
theorem EX7_order {K : CX} {l : Launch} {n0 k0 : Nat} {w : XW} {l0 : Nat} {l1 : Int32} {q : Int32 × XW} (h0 : eX7_order w l0 l1 = some q) : WP K l mX7_order 7 164 n0 k0 (some (.int q.1)) q.2 0 [some (.ref l0), some (.int l1), none] [] w := by
  unfold eX7_order at h0
  refine wp_iload_n dX7_order_0 rfl ?_
  refine wp_iconst (v := (-1 : Int32)) dX7_order_1 (by decide) ?_
  refine wp_icmp_lt (tgt := 11) dX7_order_2 (by decide) (fun c1 => ?_) (fun c1 => ?_)
  · rw [if_pos c1] at h0
    exact WP.wk (BX7_order_11 h0) trivial
  · rw [if_neg c1] at h0
    refine wp_iload_n dX7_order_5 rfl ?_
    refine wp_bipush (v := (8 : Int32)) dX7_order_6 (by decide) ?_
    refine wp_icmp_lt (tgt := 13) dX7_order_8 (by decide) (fun c2 => ?_) (fun c2 => ?_)
    · rw [if_pos c2] at h0
      refine wp_aload_n dX7_order_13 rfl ?_
      obtain ⟨x3, e5, h4⟩ := Option.bind_eq_some_iff.mp h0
      clear h0
      refine wp_getR okX7 (k := 4) (by decide) tw302 dX7_order_14 e5 ?_
      obtain ⟨x6, e8, h7⟩ := Option.bind_eq_some_iff.mp h4
      clear h4
      refine wp_getI okX5 (k := 2) (by decide) tw98 dX7_order_17 e8 ?_
      refine wp_iconst (v := (5 : Int32)) dX7_order_20 (by decide) ?_
      refine wp_icmp_le (tgt := 27) dX7_order_21 (by decide) (fun c9 => ?_) (fun c9 => ?_)
      · rw [if_pos c9] at h7
        refine wp_aload_n dX7_order_27 rfl ?_
        obtain ⟨q10, e12, h11⟩ := Option.bind_eq_some_iff.mp h7
        clear h7
        refine wp_Vi (As := []) (S := []) okM_X7_findBestOrder tw539 twP_X7_findBestOrder tw537 (OX7_findBestOrder e12) rfl rfl rfl ⟨(Nat.le_of_ble_eq_true rfl), (Nat.le_of_ble_eq_true rfl)⟩ (Nat.le_of_ble_eq_true rfl) rfl dX7_order_28 (MX7_findBestOrder e12) ?_
        refine wp_istore_n (L1 := [some (.ref l0), some (.int l1), some (.int q10.1)]) dX7_order_31 (Nat.le_of_ble_eq_true rfl) rfl ?_
        refine wp_iload_n dX7_order_32 rfl ?_
        refine wp_bipush (v := (-4 : Int32)) dX7_order_33 (by decide) ?_
        refine wp_icmp_eq (tgt := 49) dX7_order_35 (by decide) (fun c13 => ?_) (fun c13 => ?_)
        · rw [if_pos c13] at h11
          exact WP.wk (BX7_order_49 h11) trivial
        · rw [if_neg c13] at h11
          refine wp_iload_n dX7_order_38 rfl ?_
          refine wp_aload_n dX7_order_39 rfl ?_
          obtain ⟨x14, e16, h15⟩ := Option.bind_eq_some_iff.mp h11
          clear h11
          refine wp_getR okX7 (k := 4) (by decide) tw302 dX7_order_40 e16 ?_
          obtain ⟨x17, e19, h18⟩ := Option.bind_eq_some_iff.mp h15
          clear h15
          refine wp_getI okX5 (k := 2) (by decide) tw98 dX7_order_43 e19 ?_
          refine wp_icmp_lt (tgt := 52) dX7_order_46 (by decide) (fun c20 => ?_) (fun c20 => ?_)
          · rw [if_pos c20] at h18
            refine wp_iload_n dX7_order_52 rfl ?_
            refine wp_iconst (v := (-1 : Int32)) dX7_order_53 (by decide) ?_
            refine wp_icmp_ne (tgt := 61) dX7_order_54 (by decide) (fun c21 => ?_) (fun c21 => ?_)
            · rw [if_neg c21] at h18
              refine wp_aload_n dX7_order_61 rfl ?_
              obtain ⟨x22, e24, h23⟩ := Option.bind_eq_some_iff.mp h18
              clear h18
              refine wp_getR okX7 (k := 14) (by decide) tw312 dX7_order_62 e24 ?_
              refine wp_iload_n dX7_order_65 rfl ?_
              obtain ⟨x25, e27, h26⟩ := Option.bind_eq_some_iff.mp h23
              clear h23
              refine wp_iald dX7_order_66 e27 ?_
              exact WP.wk (BX7_order_67 h26) trivial
            · rw [if_pos c21] at h18
              refine wp_iload_n dX7_order_57 rfl ?_
              refine wp_goto (tgt := 67) dX7_order_58 (by decide) ?_
              exact WP.wk (BX7_order_67 h18) trivial
          · rw [if_neg c20] at h18
            exact WP.wk (BX7_order_49 h18) trivial
      · rw [if_neg c9] at h7
        refine wp_bipush (v := (-4 : Int32)) dX7_order_24 (by decide) ?_
        cases h7
        exact wp_iret rfl dX7_order_26
    · rw [if_neg c2] at h0
      exact WP.wk (BX7_order_11 h0) trivial
def fX7_order (w : XW) (l0 : Nat) (l1 : Int32) : Option (Int32 × XW) := if isO w l0 7 = true then eX7_order w l0 l1 else none
theorem OX7_order {w : XW} {l0 : Nat} {l1 : Int32} {q : Int32 × XW} (h : fX7_order w l0 l1 = some q) : isO w l0 7 = true := Decidable.byContradiction fun z => by unfold fX7_order at h; rw [if_neg z] at h; cases h
theorem MX7_order {K : CX} {l : Launch} {w : XW} {l0 : Nat} {l1 : Int32} {q : Int32 × XW} (h : fX7_order w l0 l1 = some q) : MT K l mX7_order 7 164 [.ref l0, .int l1] w (some (.int q.1)) q.2 := by
  have z := OX7_order h
  unfold fX7_order at h
  rw [if_pos z] at h
  exact MT.of (by decide) (Nat.le_of_ble_eq_true rfl) rfl (EX7_order h)
/-! FractionRunModel.orders(III)V: frames 2, words 41 -/
abbrev mX8_orders : MR := (⟨"FractionRunModel", "orders", "(III)V"⟩, prog_10_method_49_code, 10, none)
theorem dX8_orders_0 : decode prog_10_method_49_code 0 = .ok (.iconst 0, 1) := by decide +kernel
theorem dX8_orders_1 : decode prog_10_method_49_code 1 = .ok (.istore 4, 2) := by decide +kernel
theorem dX8_orders_3 : decode prog_10_method_49_code 3 = .ok (.iload_n 2, 1) := by decide +kernel
theorem dX8_orders_4 : decode prog_10_method_49_code 4 = .ok (.istore 5, 2) := by decide +kernel
theorem dX8_orders_6 : decode prog_10_method_49_code 6 = .ok (.iconst 1, 1) := by decide +kernel
theorem dX8_orders_7 : decode prog_10_method_49_code 7 = .ok (.istore 6, 2) := by decide +kernel
theorem dX8_orders_9 : decode prog_10_method_49_code 9 = .ok (.iconst 2, 1) := by decide +kernel
theorem dX8_orders_10 : decode prog_10_method_49_code 10 = .ok (.istore 7, 2) := by decide +kernel
theorem dX8_orders_12 : decode prog_10_method_49_code 12 = .ok (.iload 7, 2) := by decide +kernel
theorem dX8_orders_14 : decode prog_10_method_49_code 14 = .ok (.iload_n 3, 1) := by decide +kernel
theorem dX8_orders_15 : decode prog_10_method_49_code 15 = .ok (.if_icmp .ge 16, 3) := by decide +kernel
theorem dX8_orders_18 : decode prog_10_method_49_code 18 = .ok (.iload 6, 2) := by decide +kernel
theorem dX8_orders_20 : decode prog_10_method_49_code 20 = .ok (.iload 7, 2) := by decide +kernel
theorem dX8_orders_22 : decode prog_10_method_49_code 22 = .ok (.imul, 1) := by decide +kernel
theorem dX8_orders_23 : decode prog_10_method_49_code 23 = .ok (.istore 6, 2) := by decide +kernel
theorem dX8_orders_25 : decode prog_10_method_49_code 25 = .ok (.iinc 7 1, 3) := by decide +kernel
theorem dX8_orders_28 : decode prog_10_method_49_code 28 = .ok (.goto (-16), 3) := by decide +kernel
theorem dX8_orders_31 : decode prog_10_method_49_code 31 = .ok (.iconst 0, 1) := by decide +kernel
theorem dX8_orders_32 : decode prog_10_method_49_code 32 = .ok (.istore 7, 2) := by decide +kernel
theorem dX8_orders_34 : decode prog_10_method_49_code 34 = .ok (.iload 7, 2) := by decide +kernel
theorem dX8_orders_36 : decode prog_10_method_49_code 36 = .ok (.iload_n 3, 1) := by decide +kernel
theorem dX8_orders_37 : decode prog_10_method_49_code 37 = .ok (.if_icmp .ge 122, 3) := by decide +kernel
theorem dX8_orders_40 : decode prog_10_method_49_code 40 = .ok (.iload 5, 2) := by decide +kernel
theorem dX8_orders_42 : decode prog_10_method_49_code 42 = .ok (.iload 6, 2) := by decide +kernel
theorem dX8_orders_44 : decode prog_10_method_49_code 44 = .ok (.idiv, 1) := by decide +kernel
theorem dX8_orders_45 : decode prog_10_method_49_code 45 = .ok (.istore 8, 2) := by decide +kernel
theorem dX8_orders_47 : decode prog_10_method_49_code 47 = .ok (.iload 5, 2) := by decide +kernel
theorem dX8_orders_49 : decode prog_10_method_49_code 49 = .ok (.iload 6, 2) := by decide +kernel
theorem dX8_orders_51 : decode prog_10_method_49_code 51 = .ok (.irem, 1) := by decide +kernel
theorem dX8_orders_52 : decode prog_10_method_49_code 52 = .ok (.istore 5, 2) := by decide +kernel
theorem dX8_orders_54 : decode prog_10_method_49_code 54 = .ok (.iload 7, 2) := by decide +kernel
theorem dX8_orders_56 : decode prog_10_method_49_code 56 = .ok (.iload_n 3, 1) := by decide +kernel
theorem dX8_orders_57 : decode prog_10_method_49_code 57 = .ok (.iconst 1, 1) := by decide +kernel
theorem dX8_orders_58 : decode prog_10_method_49_code 58 = .ok (.isub, 1) := by decide +kernel
theorem dX8_orders_59 : decode prog_10_method_49_code 59 = .ok (.if_icmp .ge 19, 3) := by decide +kernel
theorem dX8_orders_62 : decode prog_10_method_49_code 62 = .ok (.iload 6, 2) := by decide +kernel
theorem dX8_orders_64 : decode prog_10_method_49_code 64 = .ok (.iconst 1, 1) := by decide +kernel
theorem dX8_orders_65 : decode prog_10_method_49_code 65 = .ok (.iload_n 3, 1) := by decide +kernel
theorem dX8_orders_66 : decode prog_10_method_49_code 66 = .ok (.iconst 1, 1) := by decide +kernel
theorem dX8_orders_67 : decode prog_10_method_49_code 67 = .ok (.isub, 1) := by decide +kernel
theorem dX8_orders_68 : decode prog_10_method_49_code 68 = .ok (.iload 7, 2) := by decide +kernel
theorem dX8_orders_70 : decode prog_10_method_49_code 70 = .ok (.isub, 1) := by decide +kernel
theorem dX8_orders_71 : decode prog_10_method_49_code 71 = .ok (.invokestatic 203, 3) := by decide +kernel
theorem dX8_orders_74 : decode prog_10_method_49_code 74 = .ok (.idiv, 1) := by decide +kernel
theorem dX8_orders_75 : decode prog_10_method_49_code 75 = .ok (.goto 4, 3) := by decide +kernel
theorem dX8_orders_78 : decode prog_10_method_49_code 78 = .ok (.iconst 1, 1) := by decide +kernel
theorem dX8_orders_79 : decode prog_10_method_49_code 79 = .ok (.istore 6, 2) := by decide +kernel
theorem dX8_orders_81 : decode prog_10_method_49_code 81 = .ok (.iconst 0, 1) := by decide +kernel
theorem dX8_orders_82 : decode prog_10_method_49_code 82 = .ok (.istore 9, 2) := by decide +kernel
theorem dX8_orders_84 : decode prog_10_method_49_code 84 = .ok (.iload 4, 2) := by decide +kernel
theorem dX8_orders_86 : decode prog_10_method_49_code 86 = .ok (.iload 9, 2) := by decide +kernel
theorem dX8_orders_88 : decode prog_10_method_49_code 88 = .ok (.invokestatic 135, 3) := by decide +kernel
theorem dX8_orders_91 : decode prog_10_method_49_code 91 = .ok (.ifCond .ne 8, 3) := by decide +kernel
theorem dX8_orders_94 : decode prog_10_method_49_code 94 = .ok (.iload 8, 2) := by decide +kernel
theorem dX8_orders_96 : decode prog_10_method_49_code 96 = .ok (.ifCond .le 29, 3) := by decide +kernel
theorem dX8_orders_99 : decode prog_10_method_49_code 99 = .ok (.iload 8, 2) := by decide +kernel
theorem dX8_orders_101 : decode prog_10_method_49_code 101 = .ok (.iload 4, 2) := by decide +kernel
theorem dX8_orders_103 : decode prog_10_method_49_code 103 = .ok (.iload 9, 2) := by decide +kernel
theorem dX8_orders_105 : decode prog_10_method_49_code 105 = .ok (.invokestatic 135, 3) := by decide +kernel
theorem dX8_orders_108 : decode prog_10_method_49_code 108 = .ok (.ifCond .eq 7, 3) := by decide +kernel
theorem dX8_orders_111 : decode prog_10_method_49_code 111 = .ok (.iconst 0, 1) := by decide +kernel
theorem dX8_orders_112 : decode prog_10_method_49_code 112 = .ok (.goto 4, 3) := by decide +kernel
theorem dX8_orders_115 : decode prog_10_method_49_code 115 = .ok (.iconst 1, 1) := by decide +kernel
theorem dX8_orders_116 : decode prog_10_method_49_code 116 = .ok (.isub, 1) := by decide +kernel
theorem dX8_orders_117 : decode prog_10_method_49_code 117 = .ok (.istore 8, 2) := by decide +kernel
theorem dX8_orders_119 : decode prog_10_method_49_code 119 = .ok (.iinc 9 1, 3) := by decide +kernel
theorem dX8_orders_122 : decode prog_10_method_49_code 122 = .ok (.goto (-38), 3) := by decide +kernel
theorem dX8_orders_125 : decode prog_10_method_49_code 125 = .ok (.iload 4, 2) := by decide +kernel
theorem dX8_orders_127 : decode prog_10_method_49_code 127 = .ok (.iconst 1, 1) := by decide +kernel
theorem dX8_orders_128 : decode prog_10_method_49_code 128 = .ok (.iload 9, 2) := by decide +kernel
theorem dX8_orders_130 : decode prog_10_method_49_code 130 = .ok (.ishl, 1) := by decide +kernel
theorem dX8_orders_131 : decode prog_10_method_49_code 131 = .ok (.ior, 1) := by decide +kernel
theorem dX8_orders_132 : decode prog_10_method_49_code 132 = .ok (.istore 4, 2) := by decide +kernel
theorem dX8_orders_134 : decode prog_10_method_49_code 134 = .ok (.aload_n 0, 1) := by decide +kernel
theorem dX8_orders_135 : decode prog_10_method_49_code 135 = .ok (.getfield 25, 3) := by decide +kernel
theorem dX8_orders_138 : decode prog_10_method_49_code 138 = .ok (.iload_n 1, 1) := by decide +kernel
theorem dX8_orders_139 : decode prog_10_method_49_code 139 = .ok (.bipush 6, 2) := by decide +kernel
theorem dX8_orders_141 : decode prog_10_method_49_code 141 = .ok (.iadd, 1) := by decide +kernel
theorem dX8_orders_142 : decode prog_10_method_49_code 142 = .ok (.iload 7, 2) := by decide +kernel
theorem dX8_orders_144 : decode prog_10_method_49_code 144 = .ok (.iadd, 1) := by decide +kernel
theorem dX8_orders_145 : decode prog_10_method_49_code 145 = .ok (.aload_n 0, 1) := by decide +kernel
theorem dX8_orders_146 : decode prog_10_method_49_code 146 = .ok (.getfield 41, 3) := by decide +kernel
theorem dX8_orders_149 : decode prog_10_method_49_code 149 = .ok (.iload 9, 2) := by decide +kernel
theorem dX8_orders_151 : decode prog_10_method_49_code 151 = .ok (.iaload, 1) := by decide +kernel
theorem dX8_orders_152 : decode prog_10_method_49_code 152 = .ok (.iastore, 1) := by decide +kernel
theorem dX8_orders_153 : decode prog_10_method_49_code 153 = .ok (.iinc 7 1, 3) := by decide +kernel
theorem dX8_orders_156 : decode prog_10_method_49_code 156 = .ok (.goto (-122), 3) := by decide +kernel
theorem dX8_orders_159 : decode prog_10_method_49_code 159 = .ok (.aload_n 0, 1) := by decide +kernel
theorem dX8_orders_160 : decode prog_10_method_49_code 160 = .ok (.getfield 25, 3) := by decide +kernel
theorem dX8_orders_163 : decode prog_10_method_49_code 163 = .ok (.iload_n 1, 1) := by decide +kernel
theorem dX8_orders_164 : decode prog_10_method_49_code 164 = .ok (.bipush 17, 2) := by decide +kernel
theorem dX8_orders_166 : decode prog_10_method_49_code 166 = .ok (.iadd, 1) := by decide +kernel
theorem dX8_orders_167 : decode prog_10_method_49_code 167 = .ok (.iconst 0, 1) := by decide +kernel
theorem dX8_orders_168 : decode prog_10_method_49_code 168 = .ok (.iastore, 1) := by decide +kernel
theorem dX8_orders_169 : decode prog_10_method_49_code 169 = .ok (.return_, 1) := by decide +kernel
theorem okM_X8_orders : okM mX8_orders 3 := ⟨tw967, tw15, by decide, by decide, by decide +kernel⟩
abbrev KTX8_orders : Type := (XW → Nat → Int32 → Int32 → Int32 → Int32 → Int32 → Int32 → Option XW) × (XW → Nat → Int32 → Int32 → Int32 → Int32 → Int32 → Int32 → Option XW) × (XW → Nat → Int32 → Int32 → Int32 → Int32 → Int32 → Int32 → Int32 → Int32 → Option XW)
def bX8_orders_116 (k : KTX8_orders) (w : XW) (l0 : Nat) (l1 : Int32) (l3 : Int32) (l4 : Int32) (l5 : Int32) (l6 : Int32) (l7 : Int32) (l9 : Int32) (s0 : Int32) (s1 : Int32) : Option XW :=
  k.2.2 w l0 l1 l3 l4 l5 l6 l7 (s0 - s1) (l9 + (1 : Int32))
theorem BX8_orders_116 {K : CX} {l : Launch} {n0 k0 : Nat} {k : KTX8_orders} (hk0 : ∀ (w : XW) (l0 : Nat) (l1 : Int32) (l3 : Int32) (l4 : Int32) (l5 : Int32) (l6 : Int32) (l7 : Int32) (q : XW), k.1 w l0 l1 l3 l4 l5 l6 l7 = some q → WP K l mX8_orders 2 41 n0 k0 none q 12 [some (.ref l0), some (.int l1), none, some (.int l3), some (.int l4), some (.int l5), some (.int l6), some (.int l7), none, none] [] w) (hk1 : ∀ (w : XW) (l0 : Nat) (l1 : Int32) (l3 : Int32) (l4 : Int32) (l5 : Int32) (l6 : Int32) (l7 : Int32) (q : XW), k.2.1 w l0 l1 l3 l4 l5 l6 l7 = some q → WP K l mX8_orders 2 41 n0 k0 none q 34 [some (.ref l0), some (.int l1), none, some (.int l3), some (.int l4), some (.int l5), some (.int l6), some (.int l7), none, none] [] w) (hk2 : ∀ (w : XW) (l0 : Nat) (l1 : Int32) (l3 : Int32) (l4 : Int32) (l5 : Int32) (l6 : Int32) (l7 : Int32) (l8 : Int32) (l9 : Int32) (q : XW), k.2.2 w l0 l1 l3 l4 l5 l6 l7 l8 l9 = some q → WP K l mX8_orders 2 41 n0 k0 none q 84 [some (.ref l0), some (.int l1), none, some (.int l3), some (.int l4), some (.int l5), some (.int l6), some (.int l7), some (.int l8), some (.int l9)] [] w) {w : XW} {l0 : Nat} {l1 : Int32} {l3 : Int32} {l4 : Int32} {l5 : Int32} {l6 : Int32} {l7 : Int32} {l9 : Int32} {s0 : Int32} {s1 : Int32} {q : XW} (h0 : bX8_orders_116 k w l0 l1 l3 l4 l5 l6 l7 l9 s0 s1 = some q) : WP K l mX8_orders 2 41 n0 k0 none q 116 [some (.ref l0), some (.int l1), none, some (.int l3), some (.int l4), some (.int l5), some (.int l6), some (.int l7), none, some (.int l9)] [.int s1, .int s0] w := by
  unfold bX8_orders_116 at h0
  refine wp_isub dX8_orders_116 ?_
  refine wp_istore (L1 := [some (.ref l0), some (.int l1), none, some (.int l3), some (.int l4), some (.int l5), some (.int l6), some (.int l7), some (.int (s0 - s1)), some (.int l9)]) dX8_orders_117 (Nat.le_of_ble_eq_true rfl) rfl ?_
  refine wp_iinc (v := (l9 + (1 : Int32))) (L1 := [some (.ref l0), some (.int l1), none, some (.int l3), some (.int l4), some (.int l5), some (.int l6), some (.int l7), some (.int (s0 - s1)), some (.int (l9 + (1 : Int32)))]) dX8_orders_119 (Nat.le_of_ble_eq_true rfl) rfl (congrArg (fun z => l9 + z) (by decide)) rfl ?_
  refine wp_goto (tgt := 84) dX8_orders_122 (by decide) ?_
  exact WP.wk (hk2 _ _ _ _ _ _ _ _ _ _ _ h0) (And.intro rfl (And.intro rfl (And.intro rfl (And.intro rfl (And.intro rfl (And.intro rfl (And.intro rfl (And.intro rfl (And.intro rfl trivial)))))))))
def bX8_orders_99 (k : KTX8_orders) (w : XW) (l0 : Nat) (l1 : Int32) (l3 : Int32) (l4 : Int32) (l5 : Int32) (l6 : Int32) (l7 : Int32) (l8 : Int32) (l9 : Int32) : Option XW :=
  (fX8_has w l4 l9).bind fun q1 =>
  if q1.1 = 0 then
  bX8_orders_116 k q1.2 l0 l1 l3 l4 l5 l6 l7 l9 l8 (1 : Int32)
  else
  bX8_orders_116 k q1.2 l0 l1 l3 l4 l5 l6 l7 l9 l8 (0 : Int32)
theorem BX8_orders_99 {K : CX} {l : Launch} {n0 k0 : Nat} {k : KTX8_orders} (hk0 : ∀ (w : XW) (l0 : Nat) (l1 : Int32) (l3 : Int32) (l4 : Int32) (l5 : Int32) (l6 : Int32) (l7 : Int32) (q : XW), k.1 w l0 l1 l3 l4 l5 l6 l7 = some q → WP K l mX8_orders 2 41 n0 k0 none q 12 [some (.ref l0), some (.int l1), none, some (.int l3), some (.int l4), some (.int l5), some (.int l6), some (.int l7), none, none] [] w) (hk1 : ∀ (w : XW) (l0 : Nat) (l1 : Int32) (l3 : Int32) (l4 : Int32) (l5 : Int32) (l6 : Int32) (l7 : Int32) (q : XW), k.2.1 w l0 l1 l3 l4 l5 l6 l7 = some q → WP K l mX8_orders 2 41 n0 k0 none q 34 [some (.ref l0), some (.int l1), none, some (.int l3), some (.int l4), some (.int l5), some (.int l6), some (.int l7), none, none] [] w) (hk2 : ∀ (w : XW) (l0 : Nat) (l1 : Int32) (l3 : Int32) (l4 : Int32) (l5 : Int32) (l6 : Int32) (l7 : Int32) (l8 : Int32) (l9 : Int32) (q : XW), k.2.2 w l0 l1 l3 l4 l5 l6 l7 l8 l9 = some q → WP K l mX8_orders 2 41 n0 k0 none q 84 [some (.ref l0), some (.int l1), none, some (.int l3), some (.int l4), some (.int l5), some (.int l6), some (.int l7), some (.int l8), some (.int l9)] [] w) {w : XW} {l0 : Nat} {l1 : Int32} {l3 : Int32} {l4 : Int32} {l5 : Int32} {l6 : Int32} {l7 : Int32} {l8 : Int32} {l9 : Int32} {q : XW} (h0 : bX8_orders_99 k w l0 l1 l3 l4 l5 l6 l7 l8 l9 = some q) : WP K l mX8_orders 2 41 n0 k0 none q 99 [some (.ref l0), some (.int l1), none, some (.int l3), some (.int l4), some (.int l5), some (.int l6), some (.int l7), some (.int l8), some (.int l9)] [] w := by
  unfold bX8_orders_99 at h0
  refine wp_iload dX8_orders_99 rfl ?_
  refine wp_iload dX8_orders_101 rfl ?_
  refine wp_iload dX8_orders_103 rfl ?_
  obtain ⟨q1, e3, h2⟩ := Option.bind_eq_some_iff.mp h0
  clear h0
  refine wp_Si (As := [.int l4, .int l9]) (S := [.int l8]) okM_X8_has tw851 tw850 rfl ⟨(Nat.le_of_ble_eq_true rfl), (Nat.le_of_ble_eq_true rfl)⟩ (Nat.le_of_ble_eq_true rfl) rfl dX8_orders_105 (MX8_has e3) ?_
  refine wp_if_eq (tgt := 115) dX8_orders_108 (by decide) (fun c4 => ?_) (fun c4 => ?_)
  · rw [if_pos c4] at h2
    refine wp_iconst (v := (1 : Int32)) dX8_orders_115 (by decide) ?_
    exact WP.wk (BX8_orders_116 hk0 hk1 hk2 h2) (And.intro rfl (And.intro rfl (And.intro rfl (And.intro rfl (And.intro rfl (And.intro rfl (And.intro rfl (And.intro rfl trivial))))))))
  · rw [if_neg c4] at h2
    refine wp_iconst (v := (0 : Int32)) dX8_orders_111 (by decide) ?_
    refine wp_goto (tgt := 116) dX8_orders_112 (by decide) ?_
    exact WP.wk (BX8_orders_116 hk0 hk1 hk2 h2) (And.intro rfl (And.intro rfl (And.intro rfl (And.intro rfl (And.intro rfl (And.intro rfl (And.intro rfl (And.intro rfl trivial))))))))
def bX8_orders_79 (k : KTX8_orders) (w : XW) (l0 : Nat) (l1 : Int32) (l3 : Int32) (l4 : Int32) (l5 : Int32) (l7 : Int32) (l8 : Int32) (s0 : Int32) : Option XW :=
  k.2.2 w l0 l1 l3 l4 l5 s0 l7 l8 (0 : Int32)
theorem BX8_orders_79 {K : CX} {l : Launch} {n0 k0 : Nat} {k : KTX8_orders} (hk0 : ∀ (w : XW) (l0 : Nat) (l1 : Int32) (l3 : Int32) (l4 : Int32) (l5 : Int32) (l6 : Int32) (l7 : Int32) (q : XW), k.1 w l0 l1 l3 l4 l5 l6 l7 = some q → WP K l mX8_orders 2 41 n0 k0 none q 12 [some (.ref l0), some (.int l1), none, some (.int l3), some (.int l4), some (.int l5), some (.int l6), some (.int l7), none, none] [] w) (hk1 : ∀ (w : XW) (l0 : Nat) (l1 : Int32) (l3 : Int32) (l4 : Int32) (l5 : Int32) (l6 : Int32) (l7 : Int32) (q : XW), k.2.1 w l0 l1 l3 l4 l5 l6 l7 = some q → WP K l mX8_orders 2 41 n0 k0 none q 34 [some (.ref l0), some (.int l1), none, some (.int l3), some (.int l4), some (.int l5), some (.int l6), some (.int l7), none, none] [] w) (hk2 : ∀ (w : XW) (l0 : Nat) (l1 : Int32) (l3 : Int32) (l4 : Int32) (l5 : Int32) (l6 : Int32) (l7 : Int32) (l8 : Int32) (l9 : Int32) (q : XW), k.2.2 w l0 l1 l3 l4 l5 l6 l7 l8 l9 = some q → WP K l mX8_orders 2 41 n0 k0 none q 84 [some (.ref l0), some (.int l1), none, some (.int l3), some (.int l4), some (.int l5), some (.int l6), some (.int l7), some (.int l8), some (.int l9)] [] w) {w : XW} {l0 : Nat} {l1 : Int32} {l3 : Int32} {l4 : Int32} {l5 : Int32} {l7 : Int32} {l8 : Int32} {s0 : Int32} {q : XW} (h0 : bX8_orders_79 k w l0 l1 l3 l4 l5 l7 l8 s0 = some q) : WP K l mX8_orders 2 41 n0 k0 none q 79 [some (.ref l0), some (.int l1), none, some (.int l3), some (.int l4), some (.int l5), none, some (.int l7), some (.int l8), none] [.int s0] w := by
  unfold bX8_orders_79 at h0
  refine wp_istore (L1 := [some (.ref l0), some (.int l1), none, some (.int l3), some (.int l4), some (.int l5), some (.int s0), some (.int l7), some (.int l8), none]) dX8_orders_79 (Nat.le_of_ble_eq_true rfl) rfl ?_
  refine wp_iconst (v := (0 : Int32)) dX8_orders_81 (by decide) ?_
  refine wp_istore (L1 := [some (.ref l0), some (.int l1), none, some (.int l3), some (.int l4), some (.int l5), some (.int s0), some (.int l7), some (.int l8), some (.int (0 : Int32))]) dX8_orders_82 (Nat.le_of_ble_eq_true rfl) rfl ?_
  exact WP.wk (hk2 _ _ _ _ _ _ _ _ _ _ _ h0) (And.intro rfl (And.intro rfl (And.intro rfl (And.intro rfl (And.intro rfl (And.intro rfl (And.intro rfl (And.intro rfl (And.intro rfl trivial)))))))))
def hX8_orders_84 (k : KTX8_orders) (w : XW) (l0 : Nat) (l1 : Int32) (l3 : Int32) (l4 : Int32) (l5 : Int32) (l6 : Int32) (l7 : Int32) (l8 : Int32) (l9 : Int32) : Option XW :=
  (fX8_has w l4 l9).bind fun q1 =>
  if q1.1 = 0 then
  if l8 ≤ 0 then
  (gR q1.2 l0 8 7).bind fun x6 =>
  (gR q1.2 l0 8 20).bind fun x9 =>
  (aI q1.2 0 x9 l9).bind fun x12 =>
  (sI q1.2 0 x6 ((l1 + (6 : Int32)) + l7) x12).bind fun w15 =>
  k.2.1 w15 l0 l1 l3 (l4 ||| ((1 : Int32) <<< (l9 &&& 31))) l5 l6 (l7 + (1 : Int32))
  else
  bX8_orders_99 k q1.2 l0 l1 l3 l4 l5 l6 l7 l8 l9
  else
  bX8_orders_99 k q1.2 l0 l1 l3 l4 l5 l6 l7 l8 l9
theorem HX8_orders_84 {K : CX} {l : Launch} {n0 k0 : Nat} {k : KTX8_orders} (hk0 : ∀ (w : XW) (l0 : Nat) (l1 : Int32) (l3 : Int32) (l4 : Int32) (l5 : Int32) (l6 : Int32) (l7 : Int32) (q : XW), k.1 w l0 l1 l3 l4 l5 l6 l7 = some q → WP K l mX8_orders 2 41 n0 k0 none q 12 [some (.ref l0), some (.int l1), none, some (.int l3), some (.int l4), some (.int l5), some (.int l6), some (.int l7), none, none] [] w) (hk1 : ∀ (w : XW) (l0 : Nat) (l1 : Int32) (l3 : Int32) (l4 : Int32) (l5 : Int32) (l6 : Int32) (l7 : Int32) (q : XW), k.2.1 w l0 l1 l3 l4 l5 l6 l7 = some q → WP K l mX8_orders 2 41 n0 k0 none q 34 [some (.ref l0), some (.int l1), none, some (.int l3), some (.int l4), some (.int l5), some (.int l6), some (.int l7), none, none] [] w) (hk2 : ∀ (w : XW) (l0 : Nat) (l1 : Int32) (l3 : Int32) (l4 : Int32) (l5 : Int32) (l6 : Int32) (l7 : Int32) (l8 : Int32) (l9 : Int32) (q : XW), k.2.2 w l0 l1 l3 l4 l5 l6 l7 l8 l9 = some q → WP K l mX8_orders 2 41 n0 k0 none q 84 [some (.ref l0), some (.int l1), none, some (.int l3), some (.int l4), some (.int l5), some (.int l6), some (.int l7), some (.int l8), some (.int l9)] [] w) {w : XW} {l0 : Nat} {l1 : Int32} {l3 : Int32} {l4 : Int32} {l5 : Int32} {l6 : Int32} {l7 : Int32} {l8 : Int32} {l9 : Int32} {q : XW} (h0 : hX8_orders_84 k w l0 l1 l3 l4 l5 l6 l7 l8 l9 = some q) : WP K l mX8_orders 2 41 n0 k0 none q 84 [some (.ref l0), some (.int l1), none, some (.int l3), some (.int l4), some (.int l5), some (.int l6), some (.int l7), some (.int l8), some (.int l9)] [] w := by
  unfold hX8_orders_84 at h0
  refine wp_iload dX8_orders_84 rfl ?_
  refine wp_iload dX8_orders_86 rfl ?_
  obtain ⟨q1, e3, h2⟩ := Option.bind_eq_some_iff.mp h0
  clear h0
  refine wp_Si (As := [.int l4, .int l9]) (S := []) okM_X8_has tw851 tw850 rfl ⟨(Nat.le_of_ble_eq_true rfl), (Nat.le_of_ble_eq_true rfl)⟩ (Nat.le_of_ble_eq_true rfl) rfl dX8_orders_88 (MX8_has e3) ?_
  refine wp_if_ne (tgt := 99) dX8_orders_91 (by decide) (fun c4 => ?_) (fun c4 => ?_)
  · rw [if_neg c4] at h2
    exact WP.wk (BX8_orders_99 hk0 hk1 hk2 h2) (And.intro rfl (And.intro rfl (And.intro rfl (And.intro rfl (And.intro rfl (And.intro rfl (And.intro rfl (And.intro rfl (And.intro rfl trivial)))))))))
  · rw [if_pos c4] at h2
    refine wp_iload dX8_orders_94 rfl ?_
    refine wp_if_le (tgt := 125) dX8_orders_96 (by decide) (fun c5 => ?_) (fun c5 => ?_)
    · rw [if_pos c5] at h2
      refine wp_iload dX8_orders_125 rfl ?_
      refine wp_iconst (v := (1 : Int32)) dX8_orders_127 (by decide) ?_
      refine wp_iload dX8_orders_128 rfl ?_
      refine wp_ishl dX8_orders_130 ?_
      refine wp_ior dX8_orders_131 ?_
      refine wp_istore (L1 := [some (.ref l0), some (.int l1), none, some (.int l3), some (.int (l4 ||| ((1 : Int32) <<< (l9 &&& 31)))), some (.int l5), some (.int l6), some (.int l7), some (.int l8), some (.int l9)]) dX8_orders_132 (Nat.le_of_ble_eq_true rfl) rfl ?_
      refine wp_aload_n dX8_orders_134 rfl ?_
      obtain ⟨x6, e8, h7⟩ := Option.bind_eq_some_iff.mp h2
      clear h2
      refine wp_getR okX8 (k := 7) (by decide) tw712 dX8_orders_135 e8 ?_
      refine wp_iload_n dX8_orders_138 rfl ?_
      refine wp_bipush (v := (6 : Int32)) dX8_orders_139 (by decide) ?_
      refine wp_iadd dX8_orders_141 ?_
      refine wp_iload dX8_orders_142 rfl ?_
      refine wp_iadd dX8_orders_144 ?_
      refine wp_aload_n dX8_orders_145 rfl ?_
      obtain ⟨x9, e11, h10⟩ := Option.bind_eq_some_iff.mp h7
      clear h7
      refine wp_getR okX8 (k := 20) (by decide) tw725 dX8_orders_146 e11 ?_
      refine wp_iload dX8_orders_149 rfl ?_
      obtain ⟨x12, e14, h13⟩ := Option.bind_eq_some_iff.mp h10
      clear h10
      refine wp_iald dX8_orders_151 e14 ?_
      obtain ⟨w15, e17, h16⟩ := Option.bind_eq_some_iff.mp h13
      clear h13
      refine wp_iast dX8_orders_152 e17 ?_
      refine wp_iinc (v := (l7 + (1 : Int32))) (L1 := [some (.ref l0), some (.int l1), none, some (.int l3), some (.int (l4 ||| ((1 : Int32) <<< (l9 &&& 31)))), some (.int l5), some (.int l6), some (.int (l7 + (1 : Int32))), some (.int l8), some (.int l9)]) dX8_orders_153 (Nat.le_of_ble_eq_true rfl) rfl (congrArg (fun z => l7 + z) (by decide)) rfl ?_
      refine wp_goto (tgt := 34) dX8_orders_156 (by decide) ?_
      exact WP.wk (hk1 _ _ _ _ _ _ _ _ _ h16) (And.intro rfl (And.intro rfl (And.intro rfl (And.intro rfl (And.intro rfl (And.intro rfl (And.intro rfl trivial)))))))
    · rw [if_neg c5] at h2
      exact WP.wk (BX8_orders_99 hk0 hk1 hk2 h2) (And.intro rfl (And.intro rfl (And.intro rfl (And.intro rfl (And.intro rfl (And.intro rfl (And.intro rfl (And.intro rfl (And.intro rfl trivial)))))))))
def hX8_orders_34 (k : KTX8_orders) (w : XW) (l0 : Nat) (l1 : Int32) (l3 : Int32) (l4 : Int32) (l5 : Int32) (l6 : Int32) (l7 : Int32) : Option XW :=
  if l3 ≤ l7 then
  (gR w l0 8 7).bind fun x2 =>
  (sI w 0 x2 (l1 + (17 : Int32)) (0 : Int32)).bind fun w5 =>
  some w5
  else
  if l6 = 0 then none else
  if l6 = 0 then none else
  if (l3 - (1 : Int32)) ≤ l7 then
  bX8_orders_79 k w l0 l1 l3 l4 (irm l5 l6) l7 (l5 / l6) (1 : Int32)
  else
  (fX8_larger w (1 : Int32) ((l3 - (1 : Int32)) - l7)).bind fun q13 =>
  if q13.1 = 0 then none else
  bX8_orders_79 k q13.2 l0 l1 l3 l4 (irm l5 l6) l7 (l5 / l6) (l6 / q13.1)
theorem HX8_orders_34 {K : CX} {l : Launch} {n0 k0 : Nat} {k : KTX8_orders} (hk0 : ∀ (w : XW) (l0 : Nat) (l1 : Int32) (l3 : Int32) (l4 : Int32) (l5 : Int32) (l6 : Int32) (l7 : Int32) (q : XW), k.1 w l0 l1 l3 l4 l5 l6 l7 = some q → WP K l mX8_orders 2 41 n0 k0 none q 12 [some (.ref l0), some (.int l1), none, some (.int l3), some (.int l4), some (.int l5), some (.int l6), some (.int l7), none, none] [] w) (hk1 : ∀ (w : XW) (l0 : Nat) (l1 : Int32) (l3 : Int32) (l4 : Int32) (l5 : Int32) (l6 : Int32) (l7 : Int32) (q : XW), k.2.1 w l0 l1 l3 l4 l5 l6 l7 = some q → WP K l mX8_orders 2 41 n0 k0 none q 34 [some (.ref l0), some (.int l1), none, some (.int l3), some (.int l4), some (.int l5), some (.int l6), some (.int l7), none, none] [] w) (hk2 : ∀ (w : XW) (l0 : Nat) (l1 : Int32) (l3 : Int32) (l4 : Int32) (l5 : Int32) (l6 : Int32) (l7 : Int32) (l8 : Int32) (l9 : Int32) (q : XW), k.2.2 w l0 l1 l3 l4 l5 l6 l7 l8 l9 = some q → WP K l mX8_orders 2 41 n0 k0 none q 84 [some (.ref l0), some (.int l1), none, some (.int l3), some (.int l4), some (.int l5), some (.int l6), some (.int l7), some (.int l8), some (.int l9)] [] w) {w : XW} {l0 : Nat} {l1 : Int32} {l3 : Int32} {l4 : Int32} {l5 : Int32} {l6 : Int32} {l7 : Int32} {q : XW} (h0 : hX8_orders_34 k w l0 l1 l3 l4 l5 l6 l7 = some q) : WP K l mX8_orders 2 41 n0 k0 none q 34 [some (.ref l0), some (.int l1), none, some (.int l3), some (.int l4), some (.int l5), some (.int l6), some (.int l7), none, none] [] w := by
  unfold hX8_orders_34 at h0
  refine wp_iload dX8_orders_34 rfl ?_
  refine wp_iload_n dX8_orders_36 rfl ?_
  refine wp_icmp_ge (tgt := 159) dX8_orders_37 (by decide) (fun c1 => ?_) (fun c1 => ?_)
  · rw [if_pos c1] at h0
    refine wp_aload_n dX8_orders_159 rfl ?_
    obtain ⟨x2, e4, h3⟩ := Option.bind_eq_some_iff.mp h0
    clear h0
    refine wp_getR okX8 (k := 7) (by decide) tw712 dX8_orders_160 e4 ?_
    refine wp_iload_n dX8_orders_163 rfl ?_
    refine wp_bipush (v := (17 : Int32)) dX8_orders_164 (by decide) ?_
    refine wp_iadd dX8_orders_166 ?_
    refine wp_iconst (v := (0 : Int32)) dX8_orders_167 (by decide) ?_
    obtain ⟨w5, e7, h6⟩ := Option.bind_eq_some_iff.mp h3
    clear h3
    refine wp_iast dX8_orders_168 e7 ?_
    cases h6
    exact wp_vret rfl dX8_orders_169
  · rw [if_neg c1] at h0
    refine wp_iload dX8_orders_40 rfl ?_
    refine wp_iload dX8_orders_42 rfl ?_
    have c8 : ¬ l6 = 0 := by intro z; rw [if_pos z] at h0; cases h0
    rw [if_neg c8] at h0
    have h9 := h0; clear h0
    refine wp_idiv dX8_orders_44 c8 ?_
    refine wp_istore (L1 := [some (.ref l0), some (.int l1), none, some (.int l3), some (.int l4), some (.int l5), some (.int l6), some (.int l7), some (.int (l5 / l6)), none]) dX8_orders_45 (Nat.le_of_ble_eq_true rfl) rfl ?_
    refine wp_iload dX8_orders_47 rfl ?_
    refine wp_iload dX8_orders_49 rfl ?_
    have c10 : ¬ l6 = 0 := by intro z; rw [if_pos z] at h9; cases h9
    rw [if_neg c10] at h9
    have h11 := h9; clear h9
    refine wp_irm dX8_orders_51 c10 ?_
    refine wp_istore (L1 := [some (.ref l0), some (.int l1), none, some (.int l3), some (.int l4), some (.int (irm l5 l6)), some (.int l6), some (.int l7), some (.int (l5 / l6)), none]) dX8_orders_52 (Nat.le_of_ble_eq_true rfl) rfl ?_
    refine wp_iload dX8_orders_54 rfl ?_
    refine wp_iload_n dX8_orders_56 rfl ?_
    refine wp_iconst (v := (1 : Int32)) dX8_orders_57 (by decide) ?_
    refine wp_isub dX8_orders_58 ?_
    refine wp_icmp_ge (tgt := 78) dX8_orders_59 (by decide) (fun c12 => ?_) (fun c12 => ?_)
    · rw [if_pos c12] at h11
      refine wp_iconst (v := (1 : Int32)) dX8_orders_78 (by decide) ?_
      exact WP.wk (BX8_orders_79 hk0 hk1 hk2 h11) (And.intro rfl (And.intro rfl (And.intro rfl (And.intro rfl (And.intro rfl (And.intro rfl (And.intro rfl trivial)))))))
    · rw [if_neg c12] at h11
      refine wp_iload dX8_orders_62 rfl ?_
      refine wp_iconst (v := (1 : Int32)) dX8_orders_64 (by decide) ?_
      refine wp_iload_n dX8_orders_65 rfl ?_
      refine wp_iconst (v := (1 : Int32)) dX8_orders_66 (by decide) ?_
      refine wp_isub dX8_orders_67 ?_
      refine wp_iload dX8_orders_68 rfl ?_
      refine wp_isub dX8_orders_70 ?_
      obtain ⟨q13, e15, h14⟩ := Option.bind_eq_some_iff.mp h11
      clear h11
      refine wp_Si (As := [.int (1 : Int32), .int ((l3 - (1 : Int32)) - l7)]) (S := [.int l6]) okM_X8_larger tw948 tw947 rfl ⟨(Nat.le_of_ble_eq_true rfl), (Nat.le_of_ble_eq_true rfl)⟩ (Nat.le_of_ble_eq_true rfl) rfl dX8_orders_71 (MX8_larger e15) ?_
      have c16 : ¬ q13.1 = 0 := by intro z; rw [if_pos z] at h14; cases h14
      rw [if_neg c16] at h14
      have h17 := h14; clear h14
      refine wp_idiv dX8_orders_74 c16 ?_
      refine wp_goto (tgt := 79) dX8_orders_75 (by decide) ?_
      exact WP.wk (BX8_orders_79 hk0 hk1 hk2 h17) (And.intro rfl (And.intro rfl (And.intro rfl (And.intro rfl (And.intro rfl (And.intro rfl (And.intro rfl trivial)))))))
def hX8_orders_12 (k : KTX8_orders) (w : XW) (l0 : Nat) (l1 : Int32) (l3 : Int32) (l4 : Int32) (l5 : Int32) (l6 : Int32) (l7 : Int32) : Option XW :=
  if l3 ≤ l7 then
  k.2.1 w l0 l1 l3 l4 l5 l6 (0 : Int32)
  else
  k.1 w l0 l1 l3 l4 l5 (l6 * l7) (l7 + (1 : Int32))
theorem HX8_orders_12 {K : CX} {l : Launch} {n0 k0 : Nat} {k : KTX8_orders} (hk0 : ∀ (w : XW) (l0 : Nat) (l1 : Int32) (l3 : Int32) (l4 : Int32) (l5 : Int32) (l6 : Int32) (l7 : Int32) (q : XW), k.1 w l0 l1 l3 l4 l5 l6 l7 = some q → WP K l mX8_orders 2 41 n0 k0 none q 12 [some (.ref l0), some (.int l1), none, some (.int l3), some (.int l4), some (.int l5), some (.int l6), some (.int l7), none, none] [] w) (hk1 : ∀ (w : XW) (l0 : Nat) (l1 : Int32) (l3 : Int32) (l4 : Int32) (l5 : Int32) (l6 : Int32) (l7 : Int32) (q : XW), k.2.1 w l0 l1 l3 l4 l5 l6 l7 = some q → WP K l mX8_orders 2 41 n0 k0 none q 34 [some (.ref l0), some (.int l1), none, some (.int l3), some (.int l4), some (.int l5), some (.int l6), some (.int l7), none, none] [] w) (hk2 : ∀ (w : XW) (l0 : Nat) (l1 : Int32) (l3 : Int32) (l4 : Int32) (l5 : Int32) (l6 : Int32) (l7 : Int32) (l8 : Int32) (l9 : Int32) (q : XW), k.2.2 w l0 l1 l3 l4 l5 l6 l7 l8 l9 = some q → WP K l mX8_orders 2 41 n0 k0 none q 84 [some (.ref l0), some (.int l1), none, some (.int l3), some (.int l4), some (.int l5), some (.int l6), some (.int l7), some (.int l8), some (.int l9)] [] w) {w : XW} {l0 : Nat} {l1 : Int32} {l3 : Int32} {l4 : Int32} {l5 : Int32} {l6 : Int32} {l7 : Int32} {q : XW} (h0 : hX8_orders_12 k w l0 l1 l3 l4 l5 l6 l7 = some q) : WP K l mX8_orders 2 41 n0 k0 none q 12 [some (.ref l0), some (.int l1), none, some (.int l3), some (.int l4), some (.int l5), some (.int l6), some (.int l7), none, none] [] w := by
  unfold hX8_orders_12 at h0
  refine wp_iload dX8_orders_12 rfl ?_
  refine wp_iload_n dX8_orders_14 rfl ?_
  refine wp_icmp_ge (tgt := 31) dX8_orders_15 (by decide) (fun c1 => ?_) (fun c1 => ?_)
  · rw [if_pos c1] at h0
    refine wp_iconst (v := (0 : Int32)) dX8_orders_31 (by decide) ?_
    refine wp_istore (L1 := [some (.ref l0), some (.int l1), none, some (.int l3), some (.int l4), some (.int l5), some (.int l6), some (.int (0 : Int32)), none, none]) dX8_orders_32 (Nat.le_of_ble_eq_true rfl) rfl ?_
    exact WP.wk (hk1 _ _ _ _ _ _ _ _ _ h0) (And.intro rfl (And.intro rfl (And.intro rfl (And.intro rfl (And.intro rfl (And.intro rfl (And.intro rfl trivial)))))))
  · rw [if_neg c1] at h0
    refine wp_iload dX8_orders_18 rfl ?_
    refine wp_iload dX8_orders_20 rfl ?_
    refine wp_imul dX8_orders_22 ?_
    refine wp_istore (L1 := [some (.ref l0), some (.int l1), none, some (.int l3), some (.int l4), some (.int l5), some (.int (l6 * l7)), some (.int l7), none, none]) dX8_orders_23 (Nat.le_of_ble_eq_true rfl) rfl ?_
    refine wp_iinc (v := (l7 + (1 : Int32))) (L1 := [some (.ref l0), some (.int l1), none, some (.int l3), some (.int l4), some (.int l5), some (.int (l6 * l7)), some (.int (l7 + (1 : Int32))), none, none]) dX8_orders_25 (Nat.le_of_ble_eq_true rfl) rfl (congrArg (fun z => l7 + z) (by decide)) rfl ?_
    refine wp_goto (tgt := 12) dX8_orders_28 (by decide) ?_
    exact WP.wk (hk0 _ _ _ _ _ _ _ _ _ h0) (And.intro rfl (And.intro rfl (And.intro rfl (And.intro rfl (And.intro rfl (And.intro rfl (And.intro rfl trivial)))))))
def eX8_orders (k : KTX8_orders) (w : XW) (l0 : Nat) (l1 : Int32) (l2 : Int32) (l3 : Int32) : Option XW :=
  k.1 w l0 l1 l3 (0 : Int32) l2 (1 : Int32) (2 : Int32)
theorem EX8_orders {K : CX} {l : Launch} {n0 k0 : Nat} {k : KTX8_orders} (hk0 : ∀ (w : XW) (l0 : Nat) (l1 : Int32) (l3 : Int32) (l4 : Int32) (l5 : Int32) (l6 : Int32) (l7 : Int32) (q : XW), k.1 w l0 l1 l3 l4 l5 l6 l7 = some q → WP K l mX8_orders 2 41 n0 k0 none q 12 [some (.ref l0), some (.int l1), none, some (.int l3), some (.int l4), some (.int l5), some (.int l6), some (.int l7), none, none] [] w) (hk1 : ∀ (w : XW) (l0 : Nat) (l1 : Int32) (l3 : Int32) (l4 : Int32) (l5 : Int32) (l6 : Int32) (l7 : Int32) (q : XW), k.2.1 w l0 l1 l3 l4 l5 l6 l7 = some q → WP K l mX8_orders 2 41 n0 k0 none q 34 [some (.ref l0), some (.int l1), none, some (.int l3), some (.int l4), some (.int l5), some (.int l6), some (.int l7), none, none] [] w) (hk2 : ∀ (w : XW) (l0 : Nat) (l1 : Int32) (l3 : Int32) (l4 : Int32) (l5 : Int32) (l6 : Int32) (l7 : Int32) (l8 : Int32) (l9 : Int32) (q : XW), k.2.2 w l0 l1 l3 l4 l5 l6 l7 l8 l9 = some q → WP K l mX8_orders 2 41 n0 k0 none q 84 [some (.ref l0), some (.int l1), none, some (.int l3), some (.int l4), some (.int l5), some (.int l6), some (.int l7), some (.int l8), some (.int l9)] [] w) {w : XW} {l0 : Nat} {l1 : Int32} {l2 : Int32} {l3 : Int32} {q : XW} (h0 : eX8_orders k w l0 l1 l2 l3 = some q) : WP K l mX8_orders 2 41 n0 k0 none q 0 [some (.ref l0), some (.int l1), some (.int l2), some (.int l3), none, none, none, none, none, none] [] w := by
  unfold eX8_orders at h0
  refine wp_iconst (v := (0 : Int32)) dX8_orders_0 (by decide) ?_
  refine wp_istore (L1 := [some (.ref l0), some (.int l1), some (.int l2), some (.int l3), some (.int (0 : Int32)), none, none, none, none, none]) dX8_orders_1 (Nat.le_of_ble_eq_true rfl) rfl ?_
  refine wp_iload_n dX8_orders_3 rfl ?_
  refine wp_istore (L1 := [some (.ref l0), some (.int l1), some (.int l2), some (.int l3), some (.int (0 : Int32)), some (.int l2), none, none, none, none]) dX8_orders_4 (Nat.le_of_ble_eq_true rfl) rfl ?_
  refine wp_iconst (v := (1 : Int32)) dX8_orders_6 (by decide) ?_
  refine wp_istore (L1 := [some (.ref l0), some (.int l1), some (.int l2), some (.int l3), some (.int (0 : Int32)), some (.int l2), some (.int (1 : Int32)), none, none, none]) dX8_orders_7 (Nat.le_of_ble_eq_true rfl) rfl ?_
  refine wp_iconst (v := (2 : Int32)) dX8_orders_9 (by decide) ?_
  refine wp_istore (L1 := [some (.ref l0), some (.int l1), some (.int l2), some (.int l3), some (.int (0 : Int32)), some (.int l2), some (.int (1 : Int32)), some (.int (2 : Int32)), none, none]) dX8_orders_10 (Nat.le_of_ble_eq_true rfl) rfl ?_
  exact WP.wk (hk0 _ _ _ _ _ _ _ _ _ h0) (And.intro rfl (And.intro rfl (And.intro rfl (And.intro rfl (And.intro rfl (And.intro rfl (And.intro rfl trivial)))))))
def loX8_orders : Nat → KTX8_orders
  | 0 => (fun _ _ _ _ _ _ _ _ => none, fun _ _ _ _ _ _ _ _ => none, fun _ _ _ _ _ _ _ _ _ _ => none)
  | n + 1 => (hX8_orders_12 (loX8_orders n), hX8_orders_34 (loX8_orders n), hX8_orders_84 (loX8_orders n))
theorem LOX8_orders {K : CX} {l : Launch} {n0 k0 : Nat} : ∀ n : Nat, (∀ (w : XW) (l0 : Nat) (l1 : Int32) (l3 : Int32) (l4 : Int32) (l5 : Int32) (l6 : Int32) (l7 : Int32) (q : XW), (loX8_orders n).1 w l0 l1 l3 l4 l5 l6 l7 = some q → WP K l mX8_orders 2 41 n0 k0 none q 12 [some (.ref l0), some (.int l1), none, some (.int l3), some (.int l4), some (.int l5), some (.int l6), some (.int l7), none, none] [] w) ∧ (∀ (w : XW) (l0 : Nat) (l1 : Int32) (l3 : Int32) (l4 : Int32) (l5 : Int32) (l6 : Int32) (l7 : Int32) (q : XW), (loX8_orders n).2.1 w l0 l1 l3 l4 l5 l6 l7 = some q → WP K l mX8_orders 2 41 n0 k0 none q 34 [some (.ref l0), some (.int l1), none, some (.int l3), some (.int l4), some (.int l5), some (.int l6), some (.int l7), none, none] [] w) ∧ (∀ (w : XW) (l0 : Nat) (l1 : Int32) (l3 : Int32) (l4 : Int32) (l5 : Int32) (l6 : Int32) (l7 : Int32) (l8 : Int32) (l9 : Int32) (q : XW), (loX8_orders n).2.2 w l0 l1 l3 l4 l5 l6 l7 l8 l9 = some q → WP K l mX8_orders 2 41 n0 k0 none q 84 [some (.ref l0), some (.int l1), none, some (.int l3), some (.int l4), some (.int l5), some (.int l6), some (.int l7), some (.int l8), some (.int l9)] [] w) := by
  intro n
  induction n with
  | zero => exact ⟨fun _ _ _ _ _ _ _ _ q h => (by cases h), fun _ _ _ _ _ _ _ _ q h => (by cases h), fun _ _ _ _ _ _ _ _ _ _ q h => (by cases h)⟩
  | succ n ih => exact ⟨fun _ _ _ _ _ _ _ _ q h => HX8_orders_12 ih.1 ih.2.1 ih.2.2 h, fun _ _ _ _ _ _ _ _ q h => HX8_orders_34 ih.1 ih.2.1 ih.2.2 h, fun _ _ _ _ _ _ _ _ _ _ q h => HX8_orders_84 ih.1 ih.2.1 ih.2.2 h⟩
def fX8_orders (w : XW) (l0 : Nat) (l1 : Int32) (l2 : Int32) (l3 : Int32) : Option XW := if isO w l0 8 = true then eX8_orders (loX8_orders FU) w l0 l1 l2 l3 else none
theorem OX8_orders {w : XW} {l0 : Nat} {l1 : Int32} {l2 : Int32} {l3 : Int32} {q : XW} (h : fX8_orders w l0 l1 l2 l3 = some q) : isO w l0 8 = true := Decidable.byContradiction fun z => by unfold fX8_orders at h; rw [if_neg z] at h; cases h
theorem MX8_orders {K : CX} {l : Launch} {w : XW} {l0 : Nat} {l1 : Int32} {l2 : Int32} {l3 : Int32} {q : XW} (h : fX8_orders w l0 l1 l2 l3 = some q) : MT K l mX8_orders 2 41 [.ref l0, .int l1, .int l2, .int l3] w none q := by
  have z := OX8_orders h
  unfold fX8_orders at h
  rw [if_pos z] at h
  exact MT.of (by decide) (Nat.le_of_ble_eq_true rfl) rfl (EX8_orders (LOX8_orders FU).1 (LOX8_orders FU).2.1 (LOX8_orders FU).2.2 h)
