/-! more rows: calls by their kinds, remainders, small types -/
abbrev irm (x y : Int32) : Int32 := x - x / y * y
abbrev lrm (x y : Int64) : Int64 := x - x / y * y
abbrev imx (x y : Int32) : Int32 := if x < y then y else x
abbrev imn (x y : Int32) : Int32 := if y < x then y else x
def FU : Nat := 4096
/-- the cell i is an object of the class ci -/
def isO (w : XW) (i ci : Nat) : Bool := match w.2.2 i with
  | .inr (.inr (.inr q)) => decide (i < w.1 ∧ q.1 = ci)
  | _ => false
theorem zb_n {x : Int32} (h : x &&& 1 = x) : narrow .boolean (.int x) = .int x := by
  show Value.int (x &&& 1) = .int x
  rw [h]
theorem zb_f {x : Int32} (h : x &&& 1 = x) : fits .boolean (.int x) = true := by
  have h2 : x = 0 ∨ x = 1 := by
    have e : x.toBitVec &&& 1#32 = x.toBitVec := congrArg Int32.toBitVec h
    have key : ∀ b : BitVec 32, b &&& 1#32 = b → b = 0#32 ∨ b = 1#32 := by
      intro b hb
      have h3 : b.toNat &&& 1 = b.toNat := by
        have := congrArg BitVec.toNat hb
        simpa using this
      have h4 : b.toNat % 2 = b.toNat := by rw [← Nat.and_one_is_mod]; exact h3
      have h5 : b.toNat = 0 ∨ b.toNat = 1 := by omega
      rcases h5 with h5 | h5
      · left; exact BitVec.eq_of_toNat_eq (by simpa using h5)
      · right; exact BitVec.eq_of_toNat_eq (by simpa using h5)
    rcases key _ e with e | e
    · left; exact Int32.toBitVec_inj.mp e
    · right; exact Int32.toBitVec_inj.mp e
  rcases h2 with rfl | rfl <;> decide
theorem nc_n {x : Int32} (h : vp_nar .char x = x) : narrow .char (.int x) = .int x := by
  show Value.int (vp_nar .char x) = .int x
  rw [h]
theorem nb_n {x : Int32} (h : vp_nar .byte x = x) : narrow .byte (.int x) = .int x := by
  show Value.int (vp_nar .byte x) = .int x
  rw [h]
section AX
variable {K : CX} {l : Launch} {y : MR} {fr lo n0 k0 : Nat} {r : Option Value} {w' : XW} {pc : Nat} {L L1 : List (Option Value)} {S S1 : List Value} {w w1 : XW} {pc1 : Nat}
theorem WP.wk (k : WP K l y fr lo n0 k0 r w' pc L1 S w) (hs : lsub L1 L) : WP K l y fr lo n0 k0 r w' pc L S w := WP.weak hs k
theorem isO_spec {i ci : Nat} (h : isO w i ci = true) : ∃ fs, xat w i (xo ci fs) := by
  unfold isO at h
  split at h
  · rename_i q hq
    have h1 := of_decide_eq_true h
    obtain ⟨h1, rfl⟩ := h1
    exact ⟨q.2, h1, hq⟩
  · cases h
theorem wp_ldcw {i : Nat} {v : Int32} (hc : Cond.constant y.1.cls i v ∈ TBL) (hd : decode y.2.1 pc = .ok (.ldc_w i, 3)) (k : WP K l y fr lo n0 k0 r w' (pc + 3) L (.int v :: S) w) : WP K l y fr lo n0 k0 r w' pc L S w :=
  WP.go (fun p e s m args below meth c H locs ls R cells slots Q X hr hL kk => lv_ldcw X.1 X.2.1 X.2.2.2.1 (X.wd hc) hd kk) k
theorem wp_irm {x y0 : Int32} (hd : decode y.2.1 pc = .ok (.irem, 1)) (hne : ¬ y0 = 0) (k : WP K l y fr lo n0 k0 r w' (pc + 1) L (.int (irm x y0) :: S) w) : WP K l y fr lo n0 k0 r w' pc L (.int y0 :: .int x :: S) w := wp_irem hd hne k
theorem wp_lrm {x y0 : Int64} (hd : decode y.2.1 pc = .ok (.lrem, 1)) (hne : ¬ y0 = 0) (k : WP K l y fr lo n0 k0 r w' (pc + 1) L (.long (lrm x y0) :: S) w) : WP K l y fr lo n0 k0 r w' pc L (.long y0 :: .long x :: S) w := wp_lrem hd hne k
theorem wp_imx {idx : Nat} {x y0 : Int32} (hl : Cond.methodLink y.1.cls idx Lib.Math.max.name ∈ TBL) (hst : Cond.static Lib.Math.max.name ∈ TBL) (hini : Cond.initialized "java/lang/Math" ∈ TBL) (hcd : Cond.code Lib.Math.max.name Lib.Math.max.code 2 (some .int) ∈ TBL) (hf : 1 ≤ fr ∧ (S.map fun v => v.category).sum + 13 ≤ lo) (hLn : L.length = y.2.2.1) (hd : decode y.2.1 pc = .ok (.invokestatic idx, 3)) (kk : WP K l y fr lo n0 k0 r w' (pc + 3) L (.int (imx x y0) :: S) w) : WP K l y fr lo n0 k0 r w' pc L (.int y0 :: .int x :: S) w := wp_max hl hst hini hcd hf hLn hd kk
theorem wp_imn {idx : Nat} {x y0 : Int32} (hl : Cond.methodLink y.1.cls idx Lib.Math.min.name ∈ TBL) (hst : Cond.static Lib.Math.min.name ∈ TBL) (hini : Cond.initialized "java/lang/Math" ∈ TBL) (hcd : Cond.code Lib.Math.min.name Lib.Math.min.code 2 (some .int) ∈ TBL) (hf : 1 ≤ fr ∧ (S.map fun v => v.category).sum + 13 ≤ lo) (hLn : L.length = y.2.2.1) (hd : decode y.2.1 pc = .ok (.invokestatic idx, 3)) (kk : WP K l y fr lo n0 k0 r w' (pc + 3) L (.int (imn x y0) :: S) w) : WP K l y fr lo n0 k0 r w' pc L (.int y0 :: .int x :: S) w := wp_min hl hst hini hcd hf hLn hd kk
theorem wp_Vi {z : MR} {fz lz nz idx i ci : Nat} {q0 : vw_C} {As : List Value} {x : Int32} (okz : okM z nz) (him : Cond.instanceMethod z.1 ∈ TBL) (hse : Cond.selects z.1.cls z.1 z.1 ∈ TBL) (hl : Cond.methodLink y.1.cls idx z.1 ∈ TBL) (hx : isO w i ci = true) (hci : classes[ci]? = some q0) (hq0 : q0.1 = z.1.cls) (hn : As.length = nz) (hf : fz + 1 ≤ fr ∧ 8 + (z.2.2.1 + 11) + lz ≤ lo) (hS : (S.map fun v => v.category).sum ≤ 8) (hLn : L.length = y.2.2.1) (hd : decode y.2.1 pc = .ok (.invokevirtual idx, 3)) (hM : MT K l z fz lz (.ref i :: As) w (some (.int x)) w1)
    (kk : WP K l y fr lo n0 k0 r w' (pc + 3) L (.int x :: S) w1) : WP K l y fr lo n0 k0 r w' pc L (As.reverse ++ .ref i :: S) w := by
  obtain ⟨fs, h⟩ := isO_spec hx
  exact wp_callV okz him hse hl h hci hq0 hn hf hS hLn hd hM kk
theorem wp_Vv {z : MR} {fz lz nz idx i ci : Nat} {q0 : vw_C} {As : List Value} (okz : okM z nz) (him : Cond.instanceMethod z.1 ∈ TBL) (hse : Cond.selects z.1.cls z.1 z.1 ∈ TBL) (hl : Cond.methodLink y.1.cls idx z.1 ∈ TBL) (hx : isO w i ci = true) (hci : classes[ci]? = some q0) (hq0 : q0.1 = z.1.cls) (hn : As.length = nz) (hf : fz + 1 ≤ fr ∧ 8 + (z.2.2.1 + 11) + lz ≤ lo) (hS : (S.map fun v => v.category).sum ≤ 8) (hLn : L.length = y.2.2.1) (hd : decode y.2.1 pc = .ok (.invokevirtual idx, 3)) (hM : MT K l z fz lz (.ref i :: As) w none w1)
    (kk : WP K l y fr lo n0 k0 r w' (pc + 3) L S w1) : WP K l y fr lo n0 k0 r w' pc L (As.reverse ++ .ref i :: S) w := by
  obtain ⟨fs, h⟩ := isO_spec hx
  exact wp_callV okz him hse hl h hci hq0 hn hf hS hLn hd hM kk
theorem wp_Si {z : MR} {fz lz nz idx : Nat} {As : List Value} {x : Int32} (okz : okM z nz) (hst : Cond.static z.1 ∈ TBL) (hl : Cond.methodLink y.1.cls idx z.1 ∈ TBL) (hn : As.length = nz) (hf : fz + 1 ≤ fr ∧ 8 + (z.2.2.1 + 11) + lz ≤ lo) (hS : (S.map fun v => v.category).sum ≤ 8) (hLn : L.length = y.2.2.1) (hd : decode y.2.1 pc = .ok (.invokestatic idx, 3)) (hM : MT K l z fz lz As w (some (.int x)) w1)
    (kk : WP K l y fr lo n0 k0 r w' (pc + 3) L (.int x :: S) w1) : WP K l y fr lo n0 k0 r w' pc L (As.reverse ++ S) w := wp_callS okz hst hl hn hf hS hLn hd hM kk
theorem wp_Sv {z : MR} {fz lz nz idx : Nat} {As : List Value} (okz : okM z nz) (hst : Cond.static z.1 ∈ TBL) (hl : Cond.methodLink y.1.cls idx z.1 ∈ TBL) (hn : As.length = nz) (hf : fz + 1 ≤ fr ∧ 8 + (z.2.2.1 + 11) + lz ≤ lo) (hS : (S.map fun v => v.category).sum ≤ 8) (hLn : L.length = y.2.2.1) (hd : decode y.2.1 pc = .ok (.invokestatic idx, 3)) (hM : MT K l z fz lz As w none w1)
    (kk : WP K l y fr lo n0 k0 r w' (pc + 3) L S w1) : WP K l y fr lo n0 k0 r w' pc L (As.reverse ++ S) w := wp_callS okz hst hl hn hf hS hLn hd hM kk
theorem wp_SNi {z : MR} {fz lz nz idx : Nat} {As : List Value} {x : Int32} (okz : okM z nz) (hst : Cond.static z.1 ∈ TBL) (hl : (y.1.cls, idx, z.1) ∈ NWm) (hn : As.length = nz) (hf : fz + 1 ≤ fr ∧ 8 + (z.2.2.1 + 11) + lz ≤ lo) (hS : (S.map fun v => v.category).sum ≤ 8) (hLn : L.length = y.2.2.1) (hd : decode y.2.1 pc = .ok (.invokestatic idx, 3)) (hM : MT K l z fz lz As w (some (.int x)) w1)
    (kk : WP K l y fr lo n0 k0 r w' (pc + 3) L (.int x :: S) w1) : WP K l y fr lo n0 k0 r w' pc L (As.reverse ++ S) w := wp_callSN okz hst hl hn hf hS hLn hd hM kk
theorem wp_Xi {z : MR} {fz lz nz idx : Nat} {As : List Value} {x : Int32} (okz : okM z nz) (hzc : z.1.cls = "java/lang/String") (him : Cond.instanceMethod z.1 ∈ TBL) (hse : Cond.selects z.1.cls z.1 z.1 ∈ TBL) (hl : Cond.methodLink y.1.cls idx z.1 ∈ TBL) (hn : As.length = nz) (hf : fz + 1 ≤ fr ∧ 8 + (z.2.2.1 + 11) + lz ≤ lo) (hS : (S.map fun v => v.category).sum ≤ 8) (hLn : L.length = y.2.2.1) (hd : decode y.2.1 pc = .ok (.invokevirtual idx, 3)) (hM : MT K l z fz lz (.float 2 :: As) w (some (.int x)) w1)
    (kk : WP K l y fr lo n0 k0 r w' (pc + 3) L (.int x :: S) w1) : WP K l y fr lo n0 k0 r w' pc L (As.reverse ++ .float 2 :: S) w := wp_callX okz hzc him hse hl hn hf hS hLn hd hM kk
end AX
theorem twlay {C : String} {T : u_T} {N : Nat} (h : (u_ws C T N).all (fun u => decide (u ∈ lw_tbl) && goodWord u) = true) : ∀ u ∈ u_ws C T N, u ∈ TBL := by
  intro u hu
  have h1 := List.all_eq_true.mp h u hu
  simp only [Bool.and_eq_true, decide_eq_true_eq] at h1
  exact List.mem_filter.mpr ⟨h1.1, h1.2⟩
