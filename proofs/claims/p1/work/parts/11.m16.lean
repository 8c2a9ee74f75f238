/-! FractionRunModel.came(II)Z: frames 6, words 140 -/
abbrev mX8_came : MR := (⟨"FractionRunModel", "came", "(II)Z"⟩, prog_10_method_54_code, 5, (some .boolean))
theorem dX8_came_0 : decode prog_10_method_54_code 0 = .ok (.aload_n 0, 1) := by decide +kernel
theorem dX8_came_1 : decode prog_10_method_54_code 1 = .ok (.iconst 0, 1) := by decide +kernel
theorem dX8_came_2 : decode prog_10_method_54_code 2 = .ok (.sipush 198, 3) := by decide +kernel
theorem dX8_came_5 : decode prog_10_method_54_code 5 = .ok (.invokevirtual 155, 3) := by decide +kernel
theorem dX8_came_8 : decode prog_10_method_54_code 8 = .ok (.iconst 1, 1) := by decide +kernel
theorem dX8_came_9 : decode prog_10_method_54_code 9 = .ok (.istore_n 3, 1) := by decide +kernel
theorem dX8_came_10 : decode prog_10_method_54_code 10 = .ok (.iconst 0, 1) := by decide +kernel
theorem dX8_came_11 : decode prog_10_method_54_code 11 = .ok (.istore 4, 2) := by decide +kernel
theorem dX8_came_13 : decode prog_10_method_54_code 13 = .ok (.iload 4, 2) := by decide +kernel
theorem dX8_came_15 : decode prog_10_method_54_code 15 = .ok (.bipush 6, 2) := by decide +kernel
theorem dX8_came_17 : decode prog_10_method_54_code 17 = .ok (.if_icmp .ge 69, 3) := by decide +kernel
theorem dX8_came_20 : decode prog_10_method_54_code 20 = .ok (.aload_n 0, 1) := by decide +kernel
theorem dX8_came_21 : decode prog_10_method_54_code 21 = .ok (.getfield 25, 3) := by decide +kernel
theorem dX8_came_24 : decode prog_10_method_54_code 24 = .ok (.sipush 198, 3) := by decide +kernel
theorem dX8_came_27 : decode prog_10_method_54_code 27 = .ok (.iload 4, 2) := by decide +kernel
theorem dX8_came_29 : decode prog_10_method_54_code 29 = .ok (.iadd, 1) := by decide +kernel
theorem dX8_came_30 : decode prog_10_method_54_code 30 = .ok (.dup2, 1) := by decide +kernel
theorem dX8_came_31 : decode prog_10_method_54_code 31 = .ok (.iaload, 1) := by decide +kernel
theorem dX8_came_32 : decode prog_10_method_54_code 32 = .ok (.iload_n 2, 1) := by decide +kernel
theorem dX8_came_33 : decode prog_10_method_54_code 33 = .ok (.aload_n 0, 1) := by decide +kernel
theorem dX8_came_34 : decode prog_10_method_54_code 34 = .ok (.getfield 13, 3) := by decide +kernel
theorem dX8_came_37 : decode prog_10_method_54_code 37 = .ok (.bipush 6, 2) := by decide +kernel
theorem dX8_came_39 : decode prog_10_method_54_code 39 = .ok (.iload_n 1, 1) := by decide +kernel
theorem dX8_came_40 : decode prog_10_method_54_code 40 = .ok (.imul, 1) := by decide +kernel
theorem dX8_came_41 : decode prog_10_method_54_code 41 = .ok (.iload 4, 2) := by decide +kernel
theorem dX8_came_43 : decode prog_10_method_54_code 43 = .ok (.iadd, 1) := by decide +kernel
theorem dX8_came_44 : decode prog_10_method_54_code 44 = .ok (.iaload, 1) := by decide +kernel
theorem dX8_came_45 : decode prog_10_method_54_code 45 = .ok (.imul, 1) := by decide +kernel
theorem dX8_came_46 : decode prog_10_method_54_code 46 = .ok (.isub, 1) := by decide +kernel
theorem dX8_came_47 : decode prog_10_method_54_code 47 = .ok (.iastore, 1) := by decide +kernel
theorem dX8_came_48 : decode prog_10_method_54_code 48 = .ok (.iload_n 3, 1) := by decide +kernel
theorem dX8_came_49 : decode prog_10_method_54_code 49 = .ok (.ifCond .eq 29, 3) := by decide +kernel
theorem dX8_came_52 : decode prog_10_method_54_code 52 = .ok (.aload_n 0, 1) := by decide +kernel
theorem dX8_came_53 : decode prog_10_method_54_code 53 = .ok (.getfield 25, 3) := by decide +kernel
theorem dX8_came_56 : decode prog_10_method_54_code 56 = .ok (.sipush 198, 3) := by decide +kernel
theorem dX8_came_59 : decode prog_10_method_54_code 59 = .ok (.iload 4, 2) := by decide +kernel
theorem dX8_came_61 : decode prog_10_method_54_code 61 = .ok (.iadd, 1) := by decide +kernel
theorem dX8_came_62 : decode prog_10_method_54_code 62 = .ok (.iaload, 1) := by decide +kernel
theorem dX8_came_63 : decode prog_10_method_54_code 63 = .ok (.i2l, 1) := by decide +kernel
theorem dX8_came_64 : decode prog_10_method_54_code 64 = .ok (.lconst 0, 1) := by decide +kernel
theorem dX8_came_65 : decode prog_10_method_54_code 65 = .ok (.ldc2_w 133, 3) := by decide +kernel
theorem dX8_came_68 : decode prog_10_method_54_code 68 = .ok (.invokestatic 88, 3) := by decide +kernel
theorem dX8_came_71 : decode prog_10_method_54_code 71 = .ok (.ifCond .eq 7, 3) := by decide +kernel
theorem dX8_came_74 : decode prog_10_method_54_code 74 = .ok (.iconst 1, 1) := by decide +kernel
theorem dX8_came_75 : decode prog_10_method_54_code 75 = .ok (.goto 4, 3) := by decide +kernel
theorem dX8_came_78 : decode prog_10_method_54_code 78 = .ok (.iconst 0, 1) := by decide +kernel
theorem dX8_came_79 : decode prog_10_method_54_code 79 = .ok (.istore_n 3, 1) := by decide +kernel
theorem dX8_came_80 : decode prog_10_method_54_code 80 = .ok (.iinc 4 1, 3) := by decide +kernel
theorem dX8_came_83 : decode prog_10_method_54_code 83 = .ok (.goto (-70), 3) := by decide +kernel
theorem dX8_came_86 : decode prog_10_method_54_code 86 = .ok (.aload_n 0, 1) := by decide +kernel
theorem dX8_came_87 : decode prog_10_method_54_code 87 = .ok (.getfield 25, 3) := by decide +kernel
theorem dX8_came_90 : decode prog_10_method_54_code 90 = .ok (.sipush 213, 3) := by decide +kernel
theorem dX8_came_93 : decode prog_10_method_54_code 93 = .ok (.dup2, 1) := by decide +kernel
theorem dX8_came_94 : decode prog_10_method_54_code 94 = .ok (.iaload, 1) := by decide +kernel
theorem dX8_came_95 : decode prog_10_method_54_code 95 = .ok (.iconst 1, 1) := by decide +kernel
theorem dX8_came_96 : decode prog_10_method_54_code 96 = .ok (.iload_n 1, 1) := by decide +kernel
theorem dX8_came_97 : decode prog_10_method_54_code 97 = .ok (.ishl, 1) := by decide +kernel
theorem dX8_came_98 : decode prog_10_method_54_code 98 = .ok (.iconst (-1), 1) := by decide +kernel
theorem dX8_came_99 : decode prog_10_method_54_code 99 = .ok (.ixor, 1) := by decide +kernel
theorem dX8_came_100 : decode prog_10_method_54_code 100 = .ok (.iand, 1) := by decide +kernel
theorem dX8_came_101 : decode prog_10_method_54_code 101 = .ok (.iastore, 1) := by decide +kernel
theorem dX8_came_102 : decode prog_10_method_54_code 102 = .ok (.aload_n 0, 1) := by decide +kernel
theorem dX8_came_103 : decode prog_10_method_54_code 103 = .ok (.getfield 25, 3) := by decide +kernel
theorem dX8_came_106 : decode prog_10_method_54_code 106 = .ok (.sipush 214, 3) := by decide +kernel
theorem dX8_came_109 : decode prog_10_method_54_code 109 = .ok (.dup2, 1) := by decide +kernel
theorem dX8_came_110 : decode prog_10_method_54_code 110 = .ok (.iaload, 1) := by decide +kernel
theorem dX8_came_111 : decode prog_10_method_54_code 111 = .ok (.iconst 1, 1) := by decide +kernel
theorem dX8_came_112 : decode prog_10_method_54_code 112 = .ok (.isub, 1) := by decide +kernel
theorem dX8_came_113 : decode prog_10_method_54_code 113 = .ok (.iastore, 1) := by decide +kernel
theorem dX8_came_114 : decode prog_10_method_54_code 114 = .ok (.aload_n 0, 1) := by decide +kernel
theorem dX8_came_115 : decode prog_10_method_54_code 115 = .ok (.getfield 25, 3) := by decide +kernel
theorem dX8_came_118 : decode prog_10_method_54_code 118 = .ok (.sipush 215, 3) := by decide +kernel
theorem dX8_came_121 : decode prog_10_method_54_code 121 = .ok (.iconst 0, 1) := by decide +kernel
theorem dX8_came_122 : decode prog_10_method_54_code 122 = .ok (.iastore, 1) := by decide +kernel
theorem dX8_came_123 : decode prog_10_method_54_code 123 = .ok (.iload_n 3, 1) := by decide +kernel
theorem dX8_came_124 : decode prog_10_method_54_code 124 = .ok (.ifCond .eq 36, 3) := by decide +kernel
theorem dX8_came_127 : decode prog_10_method_54_code 127 = .ok (.aload_n 0, 1) := by decide +kernel
theorem dX8_came_128 : decode prog_10_method_54_code 128 = .ok (.sipush 198, 3) := by decide +kernel
theorem dX8_came_131 : decode prog_10_method_54_code 131 = .ok (.invokevirtual 175, 3) := by decide +kernel
theorem dX8_came_134 : decode prog_10_method_54_code 134 = .ok (.iload_n 1, 1) := by decide +kernel
theorem dX8_came_135 : decode prog_10_method_54_code 135 = .ok (.if_icmp .ne 25, 3) := by decide +kernel
theorem dX8_came_138 : decode prog_10_method_54_code 138 = .ok (.aload_n 0, 1) := by decide +kernel
theorem dX8_came_139 : decode prog_10_method_54_code 139 = .ok (.getfield 25, 3) := by decide +kernel
theorem dX8_came_142 : decode prog_10_method_54_code 142 = .ok (.sipush 215, 3) := by decide +kernel
theorem dX8_came_145 : decode prog_10_method_54_code 145 = .ok (.iaload, 1) := by decide +kernel
theorem dX8_came_146 : decode prog_10_method_54_code 146 = .ok (.aload_n 0, 1) := by decide +kernel
theorem dX8_came_147 : decode prog_10_method_54_code 147 = .ok (.getfield 25, 3) := by decide +kernel
theorem dX8_came_150 : decode prog_10_method_54_code 150 = .ok (.bipush 17, 2) := by decide +kernel
theorem dX8_came_152 : decode prog_10_method_54_code 152 = .ok (.iaload, 1) := by decide +kernel
theorem dX8_came_153 : decode prog_10_method_54_code 153 = .ok (.if_icmp .ne 7, 3) := by decide +kernel
theorem dX8_came_156 : decode prog_10_method_54_code 156 = .ok (.iconst 1, 1) := by decide +kernel
theorem dX8_came_157 : decode prog_10_method_54_code 157 = .ok (.goto 4, 3) := by decide +kernel
theorem dX8_came_160 : decode prog_10_method_54_code 160 = .ok (.iconst 0, 1) := by decide +kernel
theorem dX8_came_161 : decode prog_10_method_54_code 161 = .ok (.istore_n 3, 1) := by decide +kernel
theorem dX8_came_162 : decode prog_10_method_54_code 162 = .ok (.iconst 0, 1) := by decide +kernel
theorem dX8_came_163 : decode prog_10_method_54_code 163 = .ok (.istore 4, 2) := by decide +kernel
theorem dX8_came_165 : decode prog_10_method_54_code 165 = .ok (.iload 4, 2) := by decide +kernel
theorem dX8_came_167 : decode prog_10_method_54_code 167 = .ok (.bipush 6, 2) := by decide +kernel
theorem dX8_came_169 : decode prog_10_method_54_code 169 = .ok (.if_icmp .ge 40, 3) := by decide +kernel
theorem dX8_came_172 : decode prog_10_method_54_code 172 = .ok (.iload_n 3, 1) := by decide +kernel
theorem dX8_came_173 : decode prog_10_method_54_code 173 = .ok (.ifCond .eq 28, 3) := by decide +kernel
theorem dX8_came_176 : decode prog_10_method_54_code 176 = .ok (.aload_n 0, 1) := by decide +kernel
theorem dX8_came_177 : decode prog_10_method_54_code 177 = .ok (.getfield 25, 3) := by decide +kernel
theorem dX8_came_180 : decode prog_10_method_54_code 180 = .ok (.sipush 198, 3) := by decide +kernel
theorem dX8_came_183 : decode prog_10_method_54_code 183 = .ok (.iload 4, 2) := by decide +kernel
theorem dX8_came_185 : decode prog_10_method_54_code 185 = .ok (.iadd, 1) := by decide +kernel
theorem dX8_came_186 : decode prog_10_method_54_code 186 = .ok (.iaload, 1) := by decide +kernel
theorem dX8_came_187 : decode prog_10_method_54_code 187 = .ok (.aload_n 0, 1) := by decide +kernel
theorem dX8_came_188 : decode prog_10_method_54_code 188 = .ok (.getfield 25, 3) := by decide +kernel
theorem dX8_came_191 : decode prog_10_method_54_code 191 = .ok (.iload 4, 2) := by decide +kernel
theorem dX8_came_193 : decode prog_10_method_54_code 193 = .ok (.iaload, 1) := by decide +kernel
theorem dX8_came_194 : decode prog_10_method_54_code 194 = .ok (.if_icmp .ne 7, 3) := by decide +kernel
theorem dX8_came_197 : decode prog_10_method_54_code 197 = .ok (.iconst 1, 1) := by decide +kernel
theorem dX8_came_198 : decode prog_10_method_54_code 198 = .ok (.goto 4, 3) := by decide +kernel
theorem dX8_came_201 : decode prog_10_method_54_code 201 = .ok (.iconst 0, 1) := by decide +kernel
theorem dX8_came_202 : decode prog_10_method_54_code 202 = .ok (.istore_n 3, 1) := by decide +kernel
theorem dX8_came_203 : decode prog_10_method_54_code 203 = .ok (.iinc 4 1, 3) := by decide +kernel
theorem dX8_came_206 : decode prog_10_method_54_code 206 = .ok (.goto (-41), 3) := by decide +kernel
theorem dX8_came_209 : decode prog_10_method_54_code 209 = .ok (.iload_n 3, 1) := by decide +kernel
theorem dX8_came_210 : decode prog_10_method_54_code 210 = .ok (.ireturn, 1) := by decide +kernel
theorem okM_X8_came : okM mX8_came 2 := ⟨tw988, tw15, by decide, by decide, by decide +kernel⟩
abbrev KTX8_came : Type := (XW → Nat → Int32 → Int32 → Int32 → Int32 → Option (Int32 × XW)) × (XW → Nat → Int32 → Int32 → Option (Int32 × XW))
def bX8_came_202 (k : KTX8_came) (w : XW) (l0 : Nat) (l4 : Int32) (s0 : Int32) : Option (Int32 × XW) :=
  k.2 w l0 s0 (l4 + (1 : Int32))
theorem BX8_came_202 {K : CX} {l : Launch} {n0 k0 : Nat} {k : KTX8_came} (hk0 : ∀ (w : XW) (l0 : Nat) (l1 : Int32) (l2 : Int32) (l3 : Int32) (l4 : Int32) (q : Int32 × XW), k.1 w l0 l1 l2 l3 l4 = some q → WP K l mX8_came 6 140 n0 k0 (some (.int q.1)) q.2 13 [some (.ref l0), some (.int l1), some (.int l2), some (.int l3), some (.int l4)] [] w) (hk1 : ∀ (w : XW) (l0 : Nat) (l3 : Int32) (l4 : Int32) (q : Int32 × XW), k.2 w l0 l3 l4 = some q → WP K l mX8_came 6 140 n0 k0 (some (.int q.1)) q.2 165 [some (.ref l0), none, none, some (.int l3), some (.int l4)] [] w) {w : XW} {l0 : Nat} {l4 : Int32} {s0 : Int32} {q : Int32 × XW} (h0 : bX8_came_202 k w l0 l4 s0 = some q) : WP K l mX8_came 6 140 n0 k0 (some (.int q.1)) q.2 202 [some (.ref l0), none, none, none, some (.int l4)] [.int s0] w := by
  unfold bX8_came_202 at h0
  refine wp_istore_n (L1 := [some (.ref l0), none, none, some (.int s0), some (.int l4)]) dX8_came_202 (Nat.le_of_ble_eq_true rfl) rfl ?_
  refine wp_iinc (v := (l4 + (1 : Int32))) (L1 := [some (.ref l0), none, none, some (.int s0), some (.int (l4 + (1 : Int32)))]) dX8_came_203 (Nat.le_of_ble_eq_true rfl) rfl (congrArg (fun z => l4 + z) (by decide)) rfl ?_
  refine wp_goto (tgt := 165) dX8_came_206 (by decide) ?_
  exact WP.wk (hk1 _ _ _ _ _ h0) (And.intro rfl (And.intro rfl (And.intro rfl trivial)))
def bX8_came_201 (k : KTX8_came) (w : XW) (l0 : Nat) (l4 : Int32) : Option (Int32 × XW) :=
  bX8_came_202 k w l0 l4 (0 : Int32)
theorem BX8_came_201 {K : CX} {l : Launch} {n0 k0 : Nat} {k : KTX8_came} (hk0 : ∀ (w : XW) (l0 : Nat) (l1 : Int32) (l2 : Int32) (l3 : Int32) (l4 : Int32) (q : Int32 × XW), k.1 w l0 l1 l2 l3 l4 = some q → WP K l mX8_came 6 140 n0 k0 (some (.int q.1)) q.2 13 [some (.ref l0), some (.int l1), some (.int l2), some (.int l3), some (.int l4)] [] w) (hk1 : ∀ (w : XW) (l0 : Nat) (l3 : Int32) (l4 : Int32) (q : Int32 × XW), k.2 w l0 l3 l4 = some q → WP K l mX8_came 6 140 n0 k0 (some (.int q.1)) q.2 165 [some (.ref l0), none, none, some (.int l3), some (.int l4)] [] w) {w : XW} {l0 : Nat} {l4 : Int32} {q : Int32 × XW} (h0 : bX8_came_201 k w l0 l4 = some q) : WP K l mX8_came 6 140 n0 k0 (some (.int q.1)) q.2 201 [some (.ref l0), none, none, none, some (.int l4)] [] w := by
  unfold bX8_came_201 at h0
  refine wp_iconst (v := (0 : Int32)) dX8_came_201 (by decide) ?_
  exact WP.wk (BX8_came_202 hk0 hk1 h0) (And.intro rfl (And.intro rfl trivial))
def bX8_came_161 (k : KTX8_came) (w : XW) (l0 : Nat) (s0 : Int32) : Option (Int32 × XW) :=
  k.2 w l0 s0 (0 : Int32)
theorem BX8_came_161 {K : CX} {l : Launch} {n0 k0 : Nat} {k : KTX8_came} (hk0 : ∀ (w : XW) (l0 : Nat) (l1 : Int32) (l2 : Int32) (l3 : Int32) (l4 : Int32) (q : Int32 × XW), k.1 w l0 l1 l2 l3 l4 = some q → WP K l mX8_came 6 140 n0 k0 (some (.int q.1)) q.2 13 [some (.ref l0), some (.int l1), some (.int l2), some (.int l3), some (.int l4)] [] w) (hk1 : ∀ (w : XW) (l0 : Nat) (l3 : Int32) (l4 : Int32) (q : Int32 × XW), k.2 w l0 l3 l4 = some q → WP K l mX8_came 6 140 n0 k0 (some (.int q.1)) q.2 165 [some (.ref l0), none, none, some (.int l3), some (.int l4)] [] w) {w : XW} {l0 : Nat} {s0 : Int32} {q : Int32 × XW} (h0 : bX8_came_161 k w l0 s0 = some q) : WP K l mX8_came 6 140 n0 k0 (some (.int q.1)) q.2 161 [some (.ref l0), none, none, none, none] [.int s0] w := by
  unfold bX8_came_161 at h0
  refine wp_istore_n (L1 := [some (.ref l0), none, none, some (.int s0), none]) dX8_came_161 (Nat.le_of_ble_eq_true rfl) rfl ?_
  refine wp_iconst (v := (0 : Int32)) dX8_came_162 (by decide) ?_
  refine wp_istore (L1 := [some (.ref l0), none, none, some (.int s0), some (.int (0 : Int32))]) dX8_came_163 (Nat.le_of_ble_eq_true rfl) rfl ?_
  exact WP.wk (hk1 _ _ _ _ _ h0) (And.intro rfl (And.intro rfl (And.intro rfl trivial)))
def bX8_came_160 (k : KTX8_came) (w : XW) (l0 : Nat) : Option (Int32 × XW) :=
  bX8_came_161 k w l0 (0 : Int32)
theorem BX8_came_160 {K : CX} {l : Launch} {n0 k0 : Nat} {k : KTX8_came} (hk0 : ∀ (w : XW) (l0 : Nat) (l1 : Int32) (l2 : Int32) (l3 : Int32) (l4 : Int32) (q : Int32 × XW), k.1 w l0 l1 l2 l3 l4 = some q → WP K l mX8_came 6 140 n0 k0 (some (.int q.1)) q.2 13 [some (.ref l0), some (.int l1), some (.int l2), some (.int l3), some (.int l4)] [] w) (hk1 : ∀ (w : XW) (l0 : Nat) (l3 : Int32) (l4 : Int32) (q : Int32 × XW), k.2 w l0 l3 l4 = some q → WP K l mX8_came 6 140 n0 k0 (some (.int q.1)) q.2 165 [some (.ref l0), none, none, some (.int l3), some (.int l4)] [] w) {w : XW} {l0 : Nat} {q : Int32 × XW} (h0 : bX8_came_160 k w l0 = some q) : WP K l mX8_came 6 140 n0 k0 (some (.int q.1)) q.2 160 [some (.ref l0), none, none, none, none] [] w := by
  unfold bX8_came_160 at h0
  refine wp_iconst (v := (0 : Int32)) dX8_came_160 (by decide) ?_
  exact WP.wk (BX8_came_161 hk0 hk1 h0) (And.intro rfl trivial)
def bX8_came_79 (k : KTX8_came) (w : XW) (l0 : Nat) (l1 : Int32) (l2 : Int32) (l4 : Int32) (s0 : Int32) : Option (Int32 × XW) :=
  k.1 w l0 l1 l2 s0 (l4 + (1 : Int32))
theorem BX8_came_79 {K : CX} {l : Launch} {n0 k0 : Nat} {k : KTX8_came} (hk0 : ∀ (w : XW) (l0 : Nat) (l1 : Int32) (l2 : Int32) (l3 : Int32) (l4 : Int32) (q : Int32 × XW), k.1 w l0 l1 l2 l3 l4 = some q → WP K l mX8_came 6 140 n0 k0 (some (.int q.1)) q.2 13 [some (.ref l0), some (.int l1), some (.int l2), some (.int l3), some (.int l4)] [] w) (hk1 : ∀ (w : XW) (l0 : Nat) (l3 : Int32) (l4 : Int32) (q : Int32 × XW), k.2 w l0 l3 l4 = some q → WP K l mX8_came 6 140 n0 k0 (some (.int q.1)) q.2 165 [some (.ref l0), none, none, some (.int l3), some (.int l4)] [] w) {w : XW} {l0 : Nat} {l1 : Int32} {l2 : Int32} {l4 : Int32} {s0 : Int32} {q : Int32 × XW} (h0 : bX8_came_79 k w l0 l1 l2 l4 s0 = some q) : WP K l mX8_came 6 140 n0 k0 (some (.int q.1)) q.2 79 [some (.ref l0), some (.int l1), some (.int l2), none, some (.int l4)] [.int s0] w := by
  unfold bX8_came_79 at h0
  refine wp_istore_n (L1 := [some (.ref l0), some (.int l1), some (.int l2), some (.int s0), some (.int l4)]) dX8_came_79 (Nat.le_of_ble_eq_true rfl) rfl ?_
  refine wp_iinc (v := (l4 + (1 : Int32))) (L1 := [some (.ref l0), some (.int l1), some (.int l2), some (.int s0), some (.int (l4 + (1 : Int32)))]) dX8_came_80 (Nat.le_of_ble_eq_true rfl) rfl (congrArg (fun z => l4 + z) (by decide)) rfl ?_
  refine wp_goto (tgt := 13) dX8_came_83 (by decide) ?_
  exact WP.wk (hk0 _ _ _ _ _ _ _ h0) (And.intro rfl (And.intro rfl (And.intro rfl (And.intro rfl (And.intro rfl trivial)))))
def bX8_came_78 (k : KTX8_came) (w : XW) (l0 : Nat) (l1 : Int32) (l2 : Int32) (l4 : Int32) : Option (Int32 × XW) :=
  bX8_came_79 k w l0 l1 l2 l4 (0 : Int32)
theorem BX8_came_78 {K : CX} {l : Launch} {n0 k0 : Nat} {k : KTX8_came} (hk0 : ∀ (w : XW) (l0 : Nat) (l1 : Int32) (l2 : Int32) (l3 : Int32) (l4 : Int32) (q : Int32 × XW), k.1 w l0 l1 l2 l3 l4 = some q → WP K l mX8_came 6 140 n0 k0 (some (.int q.1)) q.2 13 [some (.ref l0), some (.int l1), some (.int l2), some (.int l3), some (.int l4)] [] w) (hk1 : ∀ (w : XW) (l0 : Nat) (l3 : Int32) (l4 : Int32) (q : Int32 × XW), k.2 w l0 l3 l4 = some q → WP K l mX8_came 6 140 n0 k0 (some (.int q.1)) q.2 165 [some (.ref l0), none, none, some (.int l3), some (.int l4)] [] w) {w : XW} {l0 : Nat} {l1 : Int32} {l2 : Int32} {l4 : Int32} {q : Int32 × XW} (h0 : bX8_came_78 k w l0 l1 l2 l4 = some q) : WP K l mX8_came 6 140 n0 k0 (some (.int q.1)) q.2 78 [some (.ref l0), some (.int l1), some (.int l2), none, some (.int l4)] [] w := by
  unfold bX8_came_78 at h0
  refine wp_iconst (v := (0 : Int32)) dX8_came_78 (by decide) ?_
  exact WP.wk (BX8_came_79 hk0 hk1 h0) (And.intro rfl (And.intro rfl (And.intro rfl (And.intro rfl trivial))))
def hX8_came_165 (k : KTX8_came) (w : XW) (l0 : Nat) (l3 : Int32) (l4 : Int32) : Option (Int32 × XW) :=
  if (6 : Int32) ≤ l4 then
  if l3 &&& 1 = l3 then some (l3, w) else none
  else
  if l3 = 0 then
  bX8_came_201 k w l0 l4
  else
  (gR w l0 8 7).bind fun x4 =>
  (aI w 0 x4 ((198 : Int32) + l4)).bind fun x7 =>
  (gR w l0 8 7).bind fun x10 =>
  (aI w 0 x10 l4).bind fun x13 =>
  if x7 = x13 then
  bX8_came_202 k w l0 l4 (1 : Int32)
  else
  bX8_came_201 k w l0 l4
theorem HX8_came_165 {K : CX} {l : Launch} {n0 k0 : Nat} {k : KTX8_came} (hk0 : ∀ (w : XW) (l0 : Nat) (l1 : Int32) (l2 : Int32) (l3 : Int32) (l4 : Int32) (q : Int32 × XW), k.1 w l0 l1 l2 l3 l4 = some q → WP K l mX8_came 6 140 n0 k0 (some (.int q.1)) q.2 13 [some (.ref l0), some (.int l1), some (.int l2), some (.int l3), some (.int l4)] [] w) (hk1 : ∀ (w : XW) (l0 : Nat) (l3 : Int32) (l4 : Int32) (q : Int32 × XW), k.2 w l0 l3 l4 = some q → WP K l mX8_came 6 140 n0 k0 (some (.int q.1)) q.2 165 [some (.ref l0), none, none, some (.int l3), some (.int l4)] [] w) {w : XW} {l0 : Nat} {l3 : Int32} {l4 : Int32} {q : Int32 × XW} (h0 : hX8_came_165 k w l0 l3 l4 = some q) : WP K l mX8_came 6 140 n0 k0 (some (.int q.1)) q.2 165 [some (.ref l0), none, none, some (.int l3), some (.int l4)] [] w := by
  unfold hX8_came_165 at h0
  refine wp_iload dX8_came_165 rfl ?_
  refine wp_bipush (v := (6 : Int32)) dX8_came_167 (by decide) ?_
  refine wp_icmp_ge (tgt := 209) dX8_came_169 (by decide) (fun c1 => ?_) (fun c1 => ?_)
  · rw [if_pos c1] at h0
    refine wp_iload_n dX8_came_209 rfl ?_
    have c2 : l3 &&& 1 = l3 := Decidable.byContradiction fun z => by rw [if_neg z] at h0; cases h0
    rw [if_pos c2] at h0
    cases h0
    exact wp_zret rfl (zb_n c2) dX8_came_210
  · rw [if_neg c1] at h0
    refine wp_iload_n dX8_came_172 rfl ?_
    refine wp_if_eq (tgt := 201) dX8_came_173 (by decide) (fun c3 => ?_) (fun c3 => ?_)
    · rw [if_pos c3] at h0
      exact WP.wk (BX8_came_201 hk0 hk1 h0) (And.intro rfl (And.intro rfl trivial))
    · rw [if_neg c3] at h0
      refine wp_aload_n dX8_came_176 rfl ?_
      obtain ⟨x4, e6, h5⟩ := Option.bind_eq_some_iff.mp h0
      clear h0
      refine wp_getR okX8 (k := 7) (by decide) tw712 dX8_came_177 e6 ?_
      refine wp_sipush (v := (198 : Int32)) dX8_came_180 (by decide) ?_
      refine wp_iload dX8_came_183 rfl ?_
      refine wp_iadd dX8_came_185 ?_
      obtain ⟨x7, e9, h8⟩ := Option.bind_eq_some_iff.mp h5
      clear h5
      refine wp_iald dX8_came_186 e9 ?_
      refine wp_aload_n dX8_came_187 rfl ?_
      obtain ⟨x10, e12, h11⟩ := Option.bind_eq_some_iff.mp h8
      clear h8
      refine wp_getR okX8 (k := 7) (by decide) tw712 dX8_came_188 e12 ?_
      refine wp_iload dX8_came_191 rfl ?_
      obtain ⟨x13, e15, h14⟩ := Option.bind_eq_some_iff.mp h11
      clear h11
      refine wp_iald dX8_came_193 e15 ?_
      refine wp_icmp_ne (tgt := 201) dX8_came_194 (by decide) (fun c16 => ?_) (fun c16 => ?_)
      · rw [if_neg c16] at h14
        exact WP.wk (BX8_came_201 hk0 hk1 h14) (And.intro rfl (And.intro rfl trivial))
      · rw [if_pos c16] at h14
        refine wp_iconst (v := (1 : Int32)) dX8_came_197 (by decide) ?_
        refine wp_goto (tgt := 202) dX8_came_198 (by decide) ?_
        exact WP.wk (BX8_came_202 hk0 hk1 h14) (And.intro rfl (And.intro rfl trivial))
def hX8_came_13 (k : KTX8_came) (w : XW) (l0 : Nat) (l1 : Int32) (l2 : Int32) (l3 : Int32) (l4 : Int32) : Option (Int32 × XW) :=
  if (6 : Int32) ≤ l4 then
  (gR w l0 8 7).bind fun x2 =>
  (aI w 0 x2 (213 : Int32)).bind fun x5 =>
  (sI w 0 x2 (213 : Int32) (x5 &&& (((1 : Int32) <<< (l1 &&& 31)) ^^^ (-1 : Int32)))).bind fun w8 =>
  (gR w8 l0 8 7).bind fun x11 =>
  (aI w8 0 x11 (214 : Int32)).bind fun x14 =>
  (sI w8 0 x11 (214 : Int32) (x14 - (1 : Int32))).bind fun w17 =>
  (gR w17 l0 8 7).bind fun x20 =>
  (sI w17 0 x20 (215 : Int32) (0 : Int32)).bind fun w23 =>
  if l3 = 0 then
  bX8_came_160 k w23 l0
  else
  (fX8_step w23 l0 (198 : Int32)).bind fun q27 =>
  if q27.1 = l1 then
  (gR q27.2 l0 8 7).bind fun x31 =>
  (aI q27.2 0 x31 (215 : Int32)).bind fun x34 =>
  (gR q27.2 l0 8 7).bind fun x37 =>
  (aI q27.2 0 x37 (17 : Int32)).bind fun x40 =>
  if x34 = x40 then
  bX8_came_161 k q27.2 l0 (1 : Int32)
  else
  bX8_came_160 k q27.2 l0
  else
  bX8_came_160 k q27.2 l0
  else
  (gR w l0 8 7).bind fun x44 =>
  (aI w 0 x44 ((198 : Int32) + l4)).bind fun x47 =>
  (gR w l0 8 2).bind fun x50 =>
  (aI w 0 x50 (((6 : Int32) * l1) + l4)).bind fun x53 =>
  (sI w 0 x44 ((198 : Int32) + l4) (x47 - (l2 * x53))).bind fun w56 =>
  if l3 = 0 then
  bX8_came_78 k w56 l0 l1 l2 l4
  else
  (gR w56 l0 8 7).bind fun x60 =>
  (aI w56 0 x60 ((198 : Int32) + l4)).bind fun x63 =>
  (fX8_in w56 (x63.toInt64) (0 : Int64) (999 : Int64)).bind fun q66 =>
  if q66.1 = 0 then
  bX8_came_78 k q66.2 l0 l1 l2 l4
  else
  bX8_came_79 k q66.2 l0 l1 l2 l4 (1 : Int32)
theorem HX8_came_13 {K : CX} {l : Launch} {n0 k0 : Nat} {k : KTX8_came} (hk0 : ∀ (w : XW) (l0 : Nat) (l1 : Int32) (l2 : Int32) (l3 : Int32) (l4 : Int32) (q : Int32 × XW), k.1 w l0 l1 l2 l3 l4 = some q → WP K l mX8_came 6 140 n0 k0 (some (.int q.1)) q.2 13 [some (.ref l0), some (.int l1), some (.int l2), some (.int l3), some (.int l4)] [] w) (hk1 : ∀ (w : XW) (l0 : Nat) (l3 : Int32) (l4 : Int32) (q : Int32 × XW), k.2 w l0 l3 l4 = some q → WP K l mX8_came 6 140 n0 k0 (some (.int q.1)) q.2 165 [some (.ref l0), none, none, some (.int l3), some (.int l4)] [] w) {w : XW} {l0 : Nat} {l1 : Int32} {l2 : Int32} {l3 : Int32} {l4 : Int32} {q : Int32 × XW} (h0 : hX8_came_13 k w l0 l1 l2 l3 l4 = some q) : WP K l mX8_came 6 140 n0 k0 (some (.int q.1)) q.2 13 [some (.ref l0), some (.int l1), some (.int l2), some (.int l3), some (.int l4)] [] w := by
  unfold hX8_came_13 at h0
  refine wp_iload dX8_came_13 rfl ?_
  refine wp_bipush (v := (6 : Int32)) dX8_came_15 (by decide) ?_
  refine wp_icmp_ge (tgt := 86) dX8_came_17 (by decide) (fun c1 => ?_) (fun c1 => ?_)
  · rw [if_pos c1] at h0
    refine wp_aload_n dX8_came_86 rfl ?_
    obtain ⟨x2, e4, h3⟩ := Option.bind_eq_some_iff.mp h0
    clear h0
    refine wp_getR okX8 (k := 7) (by decide) tw712 dX8_came_87 e4 ?_
    refine wp_sipush (v := (213 : Int32)) dX8_came_90 (by decide) ?_
    refine wp_dup2 dX8_came_93 rfl rfl ?_
    obtain ⟨x5, e7, h6⟩ := Option.bind_eq_some_iff.mp h3
    clear h3
    refine wp_iald dX8_came_94 e7 ?_
    refine wp_iconst (v := (1 : Int32)) dX8_came_95 (by decide) ?_
    refine wp_iload_n dX8_came_96 rfl ?_
    refine wp_ishl dX8_came_97 ?_
    refine wp_iconst (v := (-1 : Int32)) dX8_came_98 (by decide) ?_
    refine wp_ixor dX8_came_99 ?_
    refine wp_iand dX8_came_100 ?_
    obtain ⟨w8, e10, h9⟩ := Option.bind_eq_some_iff.mp h6
    clear h6
    refine wp_iast dX8_came_101 e10 ?_
    refine wp_aload_n dX8_came_102 rfl ?_
    obtain ⟨x11, e13, h12⟩ := Option.bind_eq_some_iff.mp h9
    clear h9
    refine wp_getR okX8 (k := 7) (by decide) tw712 dX8_came_103 e13 ?_
    refine wp_sipush (v := (214 : Int32)) dX8_came_106 (by decide) ?_
    refine wp_dup2 dX8_came_109 rfl rfl ?_
    obtain ⟨x14, e16, h15⟩ := Option.bind_eq_some_iff.mp h12
    clear h12
    refine wp_iald dX8_came_110 e16 ?_
    refine wp_iconst (v := (1 : Int32)) dX8_came_111 (by decide) ?_
    refine wp_isub dX8_came_112 ?_
    obtain ⟨w17, e19, h18⟩ := Option.bind_eq_some_iff.mp h15
    clear h15
    refine wp_iast dX8_came_113 e19 ?_
    refine wp_aload_n dX8_came_114 rfl ?_
    obtain ⟨x20, e22, h21⟩ := Option.bind_eq_some_iff.mp h18
    clear h18
    refine wp_getR okX8 (k := 7) (by decide) tw712 dX8_came_115 e22 ?_
    refine wp_sipush (v := (215 : Int32)) dX8_came_118 (by decide) ?_
    refine wp_iconst (v := (0 : Int32)) dX8_came_121 (by decide) ?_
    obtain ⟨w23, e25, h24⟩ := Option.bind_eq_some_iff.mp h21
    clear h21
    refine wp_iast dX8_came_122 e25 ?_
    refine wp_iload_n dX8_came_123 rfl ?_
    refine wp_if_eq (tgt := 160) dX8_came_124 (by decide) (fun c26 => ?_) (fun c26 => ?_)
    · rw [if_pos c26] at h24
      exact WP.wk (BX8_came_160 hk0 hk1 h24) (And.intro rfl trivial)
    · rw [if_neg c26] at h24
      refine wp_aload_n dX8_came_127 rfl ?_
      refine wp_sipush (v := (198 : Int32)) dX8_came_128 (by decide) ?_
      obtain ⟨q27, e29, h28⟩ := Option.bind_eq_some_iff.mp h24
      clear h24
      refine wp_Vi (As := [.int (198 : Int32)]) (S := []) okM_X8_step tw881 twP_X8_step tw879 (OX8_step e29) rfl rfl rfl ⟨(Nat.le_of_ble_eq_true rfl), (Nat.le_of_ble_eq_true rfl)⟩ (Nat.le_of_ble_eq_true rfl) rfl dX8_came_131 (MX8_step e29) ?_
      refine wp_iload_n dX8_came_134 rfl ?_
      refine wp_icmp_ne (tgt := 160) dX8_came_135 (by decide) (fun c30 => ?_) (fun c30 => ?_)
      · rw [if_neg c30] at h28
        exact WP.wk (BX8_came_160 hk0 hk1 h28) (And.intro rfl trivial)
      · rw [if_pos c30] at h28
        refine wp_aload_n dX8_came_138 rfl ?_
        obtain ⟨x31, e33, h32⟩ := Option.bind_eq_some_iff.mp h28
        clear h28
        refine wp_getR okX8 (k := 7) (by decide) tw712 dX8_came_139 e33 ?_
        refine wp_sipush (v := (215 : Int32)) dX8_came_142 (by decide) ?_
        obtain ⟨x34, e36, h35⟩ := Option.bind_eq_some_iff.mp h32
        clear h32
        refine wp_iald dX8_came_145 e36 ?_
        refine wp_aload_n dX8_came_146 rfl ?_
        obtain ⟨x37, e39, h38⟩ := Option.bind_eq_some_iff.mp h35
        clear h35
        refine wp_getR okX8 (k := 7) (by decide) tw712 dX8_came_147 e39 ?_
        refine wp_bipush (v := (17 : Int32)) dX8_came_150 (by decide) ?_
        obtain ⟨x40, e42, h41⟩ := Option.bind_eq_some_iff.mp h38
        clear h38
        refine wp_iald dX8_came_152 e42 ?_
        refine wp_icmp_ne (tgt := 160) dX8_came_153 (by decide) (fun c43 => ?_) (fun c43 => ?_)
        · rw [if_neg c43] at h41
          exact WP.wk (BX8_came_160 hk0 hk1 h41) (And.intro rfl trivial)
        · rw [if_pos c43] at h41
          refine wp_iconst (v := (1 : Int32)) dX8_came_156 (by decide) ?_
          refine wp_goto (tgt := 161) dX8_came_157 (by decide) ?_
          exact WP.wk (BX8_came_161 hk0 hk1 h41) (And.intro rfl trivial)
  · rw [if_neg c1] at h0
    refine wp_aload_n dX8_came_20 rfl ?_
    obtain ⟨x44, e46, h45⟩ := Option.bind_eq_some_iff.mp h0
    clear h0
    refine wp_getR okX8 (k := 7) (by decide) tw712 dX8_came_21 e46 ?_
    refine wp_sipush (v := (198 : Int32)) dX8_came_24 (by decide) ?_
    refine wp_iload dX8_came_27 rfl ?_
    refine wp_iadd dX8_came_29 ?_
    refine wp_dup2 dX8_came_30 rfl rfl ?_
    obtain ⟨x47, e49, h48⟩ := Option.bind_eq_some_iff.mp h45
    clear h45
    refine wp_iald dX8_came_31 e49 ?_
    refine wp_iload_n dX8_came_32 rfl ?_
    refine wp_aload_n dX8_came_33 rfl ?_
    obtain ⟨x50, e52, h51⟩ := Option.bind_eq_some_iff.mp h48
    clear h48
    refine wp_getR okX8 (k := 2) (by decide) tw707 dX8_came_34 e52 ?_
    refine wp_bipush (v := (6 : Int32)) dX8_came_37 (by decide) ?_
    refine wp_iload_n dX8_came_39 rfl ?_
    refine wp_imul dX8_came_40 ?_
    refine wp_iload dX8_came_41 rfl ?_
    refine wp_iadd dX8_came_43 ?_
    obtain ⟨x53, e55, h54⟩ := Option.bind_eq_some_iff.mp h51
    clear h51
    refine wp_iald dX8_came_44 e55 ?_
    refine wp_imul dX8_came_45 ?_
    refine wp_isub dX8_came_46 ?_
    obtain ⟨w56, e58, h57⟩ := Option.bind_eq_some_iff.mp h54
    clear h54
    refine wp_iast dX8_came_47 e58 ?_
    refine wp_iload_n dX8_came_48 rfl ?_
    refine wp_if_eq (tgt := 78) dX8_came_49 (by decide) (fun c59 => ?_) (fun c59 => ?_)
    · rw [if_pos c59] at h57
      exact WP.wk (BX8_came_78 hk0 hk1 h57) (And.intro rfl (And.intro rfl (And.intro rfl (And.intro rfl trivial))))
    · rw [if_neg c59] at h57
      refine wp_aload_n dX8_came_52 rfl ?_
      obtain ⟨x60, e62, h61⟩ := Option.bind_eq_some_iff.mp h57
      clear h57
      refine wp_getR okX8 (k := 7) (by decide) tw712 dX8_came_53 e62 ?_
      refine wp_sipush (v := (198 : Int32)) dX8_came_56 (by decide) ?_
      refine wp_iload dX8_came_59 rfl ?_
      refine wp_iadd dX8_came_61 ?_
      obtain ⟨x63, e65, h64⟩ := Option.bind_eq_some_iff.mp h61
      clear h61
      refine wp_iald dX8_came_62 e65 ?_
      refine wp_i2l dX8_came_63 ?_
      refine wp_lconst (v := (0 : Int64)) dX8_came_64 (by decide) ?_
      refine wp_ldc2 tw857 dX8_came_65 ?_
      obtain ⟨q66, e68, h67⟩ := Option.bind_eq_some_iff.mp h64
      clear h64
      refine wp_Si (As := [.long (x63.toInt64), .long (0 : Int64), .long (999 : Int64)]) (S := []) okM_X8_in tw785 tw784 rfl ⟨(Nat.le_of_ble_eq_true rfl), (Nat.le_of_ble_eq_true rfl)⟩ (Nat.le_of_ble_eq_true rfl) rfl dX8_came_68 (MX8_in e68) ?_
      refine wp_if_eq (tgt := 78) dX8_came_71 (by decide) (fun c69 => ?_) (fun c69 => ?_)
      · rw [if_pos c69] at h67
        exact WP.wk (BX8_came_78 hk0 hk1 h67) (And.intro rfl (And.intro rfl (And.intro rfl (And.intro rfl trivial))))
      · rw [if_neg c69] at h67
        refine wp_iconst (v := (1 : Int32)) dX8_came_74 (by decide) ?_
        refine wp_goto (tgt := 79) dX8_came_75 (by decide) ?_
        exact WP.wk (BX8_came_79 hk0 hk1 h67) (And.intro rfl (And.intro rfl (And.intro rfl (And.intro rfl trivial))))
def eX8_came (k : KTX8_came) (w : XW) (l0 : Nat) (l1 : Int32) (l2 : Int32) : Option (Int32 × XW) :=
  (fX8_copies w l0 (0 : Int32) (198 : Int32)).bind fun q1 =>
  k.1 q1 l0 l1 l2 (1 : Int32) (0 : Int32)
theorem EX8_came {K : CX} {l : Launch} {n0 k0 : Nat} {k : KTX8_came} (hk0 : ∀ (w : XW) (l0 : Nat) (l1 : Int32) (l2 : Int32) (l3 : Int32) (l4 : Int32) (q : Int32 × XW), k.1 w l0 l1 l2 l3 l4 = some q → WP K l mX8_came 6 140 n0 k0 (some (.int q.1)) q.2 13 [some (.ref l0), some (.int l1), some (.int l2), some (.int l3), some (.int l4)] [] w) (hk1 : ∀ (w : XW) (l0 : Nat) (l3 : Int32) (l4 : Int32) (q : Int32 × XW), k.2 w l0 l3 l4 = some q → WP K l mX8_came 6 140 n0 k0 (some (.int q.1)) q.2 165 [some (.ref l0), none, none, some (.int l3), some (.int l4)] [] w) {w : XW} {l0 : Nat} {l1 : Int32} {l2 : Int32} {q : Int32 × XW} (h0 : eX8_came k w l0 l1 l2 = some q) : WP K l mX8_came 6 140 n0 k0 (some (.int q.1)) q.2 0 [some (.ref l0), some (.int l1), some (.int l2), none, none] [] w := by
  unfold eX8_came at h0
  refine wp_aload_n dX8_came_0 rfl ?_
  refine wp_iconst (v := (0 : Int32)) dX8_came_1 (by decide) ?_
  refine wp_sipush (v := (198 : Int32)) dX8_came_2 (by decide) ?_
  obtain ⟨q1, e3, h2⟩ := Option.bind_eq_some_iff.mp h0
  clear h0
  refine wp_Vv (As := [.int (0 : Int32), .int (198 : Int32)]) (S := []) okM_X8_copies tw877 twP_X8_copies tw875 (OX8_copies e3) rfl rfl rfl ⟨(Nat.le_of_ble_eq_true rfl), (Nat.le_of_ble_eq_true rfl)⟩ (Nat.le_of_ble_eq_true rfl) rfl dX8_came_5 (MX8_copies e3) ?_
  refine wp_iconst (v := (1 : Int32)) dX8_came_8 (by decide) ?_
  refine wp_istore_n (L1 := [some (.ref l0), some (.int l1), some (.int l2), some (.int (1 : Int32)), none]) dX8_came_9 (Nat.le_of_ble_eq_true rfl) rfl ?_
  refine wp_iconst (v := (0 : Int32)) dX8_came_10 (by decide) ?_
  refine wp_istore (L1 := [some (.ref l0), some (.int l1), some (.int l2), some (.int (1 : Int32)), some (.int (0 : Int32))]) dX8_came_11 (Nat.le_of_ble_eq_true rfl) rfl ?_
  exact WP.wk (hk0 _ _ _ _ _ _ _ h2) (And.intro rfl (And.intro rfl (And.intro rfl (And.intro rfl (And.intro rfl trivial)))))
def loX8_came : Nat → KTX8_came
  | 0 => (fun _ _ _ _ _ _ => none, fun _ _ _ _ => none)
  | n + 1 => (hX8_came_13 (loX8_came n), hX8_came_165 (loX8_came n))
theorem LOX8_came {K : CX} {l : Launch} {n0 k0 : Nat} : ∀ n : Nat, (∀ (w : XW) (l0 : Nat) (l1 : Int32) (l2 : Int32) (l3 : Int32) (l4 : Int32) (q : Int32 × XW), (loX8_came n).1 w l0 l1 l2 l3 l4 = some q → WP K l mX8_came 6 140 n0 k0 (some (.int q.1)) q.2 13 [some (.ref l0), some (.int l1), some (.int l2), some (.int l3), some (.int l4)] [] w) ∧ (∀ (w : XW) (l0 : Nat) (l3 : Int32) (l4 : Int32) (q : Int32 × XW), (loX8_came n).2 w l0 l3 l4 = some q → WP K l mX8_came 6 140 n0 k0 (some (.int q.1)) q.2 165 [some (.ref l0), none, none, some (.int l3), some (.int l4)] [] w) := by
  intro n
  induction n with
  | zero => exact ⟨fun _ _ _ _ _ _ q h => (by cases h), fun _ _ _ _ q h => (by cases h)⟩
  | succ n ih => exact ⟨fun _ _ _ _ _ _ q h => HX8_came_13 ih.1 ih.2 h, fun _ _ _ _ q h => HX8_came_165 ih.1 ih.2 h⟩
def fX8_came (w : XW) (l0 : Nat) (l1 : Int32) (l2 : Int32) : Option (Int32 × XW) := if isO w l0 8 = true then eX8_came (loX8_came FU) w l0 l1 l2 else none
theorem OX8_came {w : XW} {l0 : Nat} {l1 : Int32} {l2 : Int32} {q : Int32 × XW} (h : fX8_came w l0 l1 l2 = some q) : isO w l0 8 = true := Decidable.byContradiction fun z => by unfold fX8_came at h; rw [if_neg z] at h; cases h
theorem MX8_came {K : CX} {l : Launch} {w : XW} {l0 : Nat} {l1 : Int32} {l2 : Int32} {q : Int32 × XW} (h : fX8_came w l0 l1 l2 = some q) : MT K l mX8_came 6 140 [.ref l0, .int l1, .int l2] w (some (.int q.1)) q.2 := by
  have z := OX8_came h
  unfold fX8_came at h
  rw [if_pos z] at h
  exact MT.of (by decide) (Nat.le_of_ble_eq_true rfl) rfl (EX8_came (LOX8_came FU).1 (LOX8_came FU).2 h)
/-! FractionRunModel.whence()I: frames 7, words 164 -/
abbrev mX8_whence : MR := (⟨"FractionRunModel", "whence", "()I"⟩, prog_10_method_55_code, 5, (some .int))
theorem dX8_whence_0 : decode prog_10_method_55_code 0 = .ok (.iconst 0, 1) := by decide +kernel
theorem dX8_whence_1 : decode prog_10_method_55_code 1 = .ok (.istore_n 1, 1) := by decide +kernel
theorem dX8_whence_2 : decode prog_10_method_55_code 2 = .ok (.iconst 0, 1) := by decide +kernel
theorem dX8_whence_3 : decode prog_10_method_55_code 3 = .ok (.istore_n 2, 1) := by decide +kernel
theorem dX8_whence_4 : decode prog_10_method_55_code 4 = .ok (.iload_n 2, 1) := by decide +kernel
theorem dX8_whence_5 : decode prog_10_method_55_code 5 = .ok (.aload_n 0, 1) := by decide +kernel
theorem dX8_whence_6 : decode prog_10_method_55_code 6 = .ok (.getfield 25, 3) := by decide +kernel
theorem dX8_whence_9 : decode prog_10_method_55_code 9 = .ok (.bipush 14, 2) := by decide +kernel
theorem dX8_whence_11 : decode prog_10_method_55_code 11 = .ok (.iaload, 1) := by decide +kernel
theorem dX8_whence_12 : decode prog_10_method_55_code 12 = .ok (.if_icmp .ge 93, 3) := by decide +kernel
theorem dX8_whence_15 : decode prog_10_method_55_code 15 = .ok (.aload_n 0, 1) := by decide +kernel
theorem dX8_whence_16 : decode prog_10_method_55_code 16 = .ok (.getfield 25, 3) := by decide +kernel
theorem dX8_whence_19 : decode prog_10_method_55_code 19 = .ok (.bipush 16, 2) := by decide +kernel
theorem dX8_whence_21 : decode prog_10_method_55_code 21 = .ok (.iaload, 1) := by decide +kernel
theorem dX8_whence_22 : decode prog_10_method_55_code 22 = .ok (.ifCond .le 83, 3) := by decide +kernel
theorem dX8_whence_25 : decode prog_10_method_55_code 25 = .ok (.aload_n 0, 1) := by decide +kernel
theorem dX8_whence_26 : decode prog_10_method_55_code 26 = .ok (.getfield 25, 3) := by decide +kernel
theorem dX8_whence_29 : decode prog_10_method_55_code 29 = .ok (.bipush 6, 2) := by decide +kernel
theorem dX8_whence_31 : decode prog_10_method_55_code 31 = .ok (.iload_n 2, 1) := by decide +kernel
theorem dX8_whence_32 : decode prog_10_method_55_code 32 = .ok (.iadd, 1) := by decide +kernel
theorem dX8_whence_33 : decode prog_10_method_55_code 33 = .ok (.iaload, 1) := by decide +kernel
theorem dX8_whence_34 : decode prog_10_method_55_code 34 = .ok (.istore_n 3, 1) := by decide +kernel
theorem dX8_whence_35 : decode prog_10_method_55_code 35 = .ok (.aload_n 0, 1) := by decide +kernel
theorem dX8_whence_36 : decode prog_10_method_55_code 36 = .ok (.getfield 25, 3) := by decide +kernel
theorem dX8_whence_39 : decode prog_10_method_55_code 39 = .ok (.bipush 15, 2) := by decide +kernel
theorem dX8_whence_41 : decode prog_10_method_55_code 41 = .ok (.iaload, 1) := by decide +kernel
theorem dX8_whence_42 : decode prog_10_method_55_code 42 = .ok (.iload_n 3, 1) := by decide +kernel
theorem dX8_whence_43 : decode prog_10_method_55_code 43 = .ok (.invokestatic 135, 3) := by decide +kernel
theorem dX8_whence_46 : decode prog_10_method_55_code 46 = .ok (.ifCond .eq 35, 3) := by decide +kernel
theorem dX8_whence_49 : decode prog_10_method_55_code 49 = .ok (.aload_n 0, 1) := by decide +kernel
theorem dX8_whence_50 : decode prog_10_method_55_code 50 = .ok (.iload_n 3, 1) := by decide +kernel
theorem dX8_whence_51 : decode prog_10_method_55_code 51 = .ok (.iconst 1, 1) := by decide +kernel
theorem dX8_whence_52 : decode prog_10_method_55_code 52 = .ok (.invokevirtual 218, 3) := by decide +kernel
theorem dX8_whence_55 : decode prog_10_method_55_code 55 = .ok (.ifCond .ne 22, 3) := by decide +kernel
theorem dX8_whence_58 : decode prog_10_method_55_code 58 = .ok (.aload_n 0, 1) := by decide +kernel
theorem dX8_whence_59 : decode prog_10_method_55_code 59 = .ok (.getfield 7, 3) := by decide +kernel
theorem dX8_whence_62 : decode prog_10_method_55_code 62 = .ok (.iload_n 3, 1) := by decide +kernel
theorem dX8_whence_63 : decode prog_10_method_55_code 63 = .ok (.iaload, 1) := by decide +kernel
theorem dX8_whence_64 : decode prog_10_method_55_code 64 = .ok (.iconst 3, 1) := by decide +kernel
theorem dX8_whence_65 : decode prog_10_method_55_code 65 = .ok (.if_icmp .ne 16, 3) := by decide +kernel
theorem dX8_whence_68 : decode prog_10_method_55_code 68 = .ok (.aload_n 0, 1) := by decide +kernel
theorem dX8_whence_69 : decode prog_10_method_55_code 69 = .ok (.iload_n 3, 1) := by decide +kernel
theorem dX8_whence_70 : decode prog_10_method_55_code 70 = .ok (.iconst 2, 1) := by decide +kernel
theorem dX8_whence_71 : decode prog_10_method_55_code 71 = .ok (.invokevirtual 218, 3) := by decide +kernel
theorem dX8_whence_74 : decode prog_10_method_55_code 74 = .ok (.ifCond .eq 7, 3) := by decide +kernel
theorem dX8_whence_77 : decode prog_10_method_55_code 77 = .ok (.iconst 1, 1) := by decide +kernel
theorem dX8_whence_78 : decode prog_10_method_55_code 78 = .ok (.goto 4, 3) := by decide +kernel
theorem dX8_whence_81 : decode prog_10_method_55_code 81 = .ok (.iconst 0, 1) := by decide +kernel
theorem dX8_whence_82 : decode prog_10_method_55_code 82 = .ok (.istore 4, 2) := by decide +kernel
theorem dX8_whence_84 : decode prog_10_method_55_code 84 = .ok (.iload_n 1, 1) := by decide +kernel
theorem dX8_whence_85 : decode prog_10_method_55_code 85 = .ok (.iload 4, 2) := by decide +kernel
theorem dX8_whence_87 : decode prog_10_method_55_code 87 = .ok (.ifCond .eq 9, 3) := by decide +kernel
theorem dX8_whence_90 : decode prog_10_method_55_code 90 = .ok (.iconst 1, 1) := by decide +kernel
theorem dX8_whence_91 : decode prog_10_method_55_code 91 = .ok (.iload_n 3, 1) := by decide +kernel
theorem dX8_whence_92 : decode prog_10_method_55_code 92 = .ok (.ishl, 1) := by decide +kernel
theorem dX8_whence_93 : decode prog_10_method_55_code 93 = .ok (.goto 4, 3) := by decide +kernel
theorem dX8_whence_96 : decode prog_10_method_55_code 96 = .ok (.iconst 0, 1) := by decide +kernel
theorem dX8_whence_97 : decode prog_10_method_55_code 97 = .ok (.ior, 1) := by decide +kernel
theorem dX8_whence_98 : decode prog_10_method_55_code 98 = .ok (.istore_n 1, 1) := by decide +kernel
theorem dX8_whence_99 : decode prog_10_method_55_code 99 = .ok (.iinc 2 1, 3) := by decide +kernel
theorem dX8_whence_102 : decode prog_10_method_55_code 102 = .ok (.goto (-98), 3) := by decide +kernel
theorem dX8_whence_105 : decode prog_10_method_55_code 105 = .ok (.iload_n 1, 1) := by decide +kernel
theorem dX8_whence_106 : decode prog_10_method_55_code 106 = .ok (.ireturn, 1) := by decide +kernel
theorem okM_X8_whence : okM mX8_whence 0 := ⟨tw984, tw15, by decide, by decide, by decide +kernel⟩
abbrev KTX8_whence : Type := (XW → Nat → Int32 → Int32 → Option (Int32 × XW))
def bX8_whence_105 (k : KTX8_whence) (w : XW) (l1 : Int32) : Option (Int32 × XW) :=
  some (l1, w)
theorem BX8_whence_105 {K : CX} {l : Launch} {n0 k0 : Nat} {k : KTX8_whence} (hk0 : ∀ (w : XW) (l0 : Nat) (l1 : Int32) (l2 : Int32) (q : Int32 × XW), k w l0 l1 l2 = some q → WP K l mX8_whence 7 164 n0 k0 (some (.int q.1)) q.2 4 [some (.ref l0), some (.int l1), some (.int l2), none, none] [] w) {w : XW} {l1 : Int32} {q : Int32 × XW} (h0 : bX8_whence_105 k w l1 = some q) : WP K l mX8_whence 7 164 n0 k0 (some (.int q.1)) q.2 105 [none, some (.int l1), none, none, none] [] w := by
  unfold bX8_whence_105 at h0
  refine wp_iload_n dX8_whence_105 rfl ?_
  cases h0
  exact wp_iret rfl dX8_whence_106
def bX8_whence_97 (k : KTX8_whence) (w : XW) (l0 : Nat) (l2 : Int32) (s0 : Int32) (s1 : Int32) : Option (Int32 × XW) :=
  k w l0 (s0 ||| s1) (l2 + (1 : Int32))
theorem BX8_whence_97 {K : CX} {l : Launch} {n0 k0 : Nat} {k : KTX8_whence} (hk0 : ∀ (w : XW) (l0 : Nat) (l1 : Int32) (l2 : Int32) (q : Int32 × XW), k w l0 l1 l2 = some q → WP K l mX8_whence 7 164 n0 k0 (some (.int q.1)) q.2 4 [some (.ref l0), some (.int l1), some (.int l2), none, none] [] w) {w : XW} {l0 : Nat} {l2 : Int32} {s0 : Int32} {s1 : Int32} {q : Int32 × XW} (h0 : bX8_whence_97 k w l0 l2 s0 s1 = some q) : WP K l mX8_whence 7 164 n0 k0 (some (.int q.1)) q.2 97 [some (.ref l0), none, some (.int l2), none, none] [.int s1, .int s0] w := by
  unfold bX8_whence_97 at h0
  refine wp_ior dX8_whence_97 ?_
  refine wp_istore_n (L1 := [some (.ref l0), some (.int (s0 ||| s1)), some (.int l2), none, none]) dX8_whence_98 (Nat.le_of_ble_eq_true rfl) rfl ?_
  refine wp_iinc (v := (l2 + (1 : Int32))) (L1 := [some (.ref l0), some (.int (s0 ||| s1)), some (.int (l2 + (1 : Int32))), none, none]) dX8_whence_99 (Nat.le_of_ble_eq_true rfl) rfl (congrArg (fun z => l2 + z) (by decide)) rfl ?_
  refine wp_goto (tgt := 4) dX8_whence_102 (by decide) ?_
  exact WP.wk (hk0 _ _ _ _ _ h0) (And.intro rfl (And.intro rfl (And.intro rfl trivial)))
def bX8_whence_82 (k : KTX8_whence) (w : XW) (l0 : Nat) (l1 : Int32) (l2 : Int32) (l3 : Int32) (s0 : Int32) : Option (Int32 × XW) :=
  if s0 = 0 then
  bX8_whence_97 k w l0 l2 l1 (0 : Int32)
  else
  bX8_whence_97 k w l0 l2 l1 ((1 : Int32) <<< (l3 &&& 31))
theorem BX8_whence_82 {K : CX} {l : Launch} {n0 k0 : Nat} {k : KTX8_whence} (hk0 : ∀ (w : XW) (l0 : Nat) (l1 : Int32) (l2 : Int32) (q : Int32 × XW), k w l0 l1 l2 = some q → WP K l mX8_whence 7 164 n0 k0 (some (.int q.1)) q.2 4 [some (.ref l0), some (.int l1), some (.int l2), none, none] [] w) {w : XW} {l0 : Nat} {l1 : Int32} {l2 : Int32} {l3 : Int32} {s0 : Int32} {q : Int32 × XW} (h0 : bX8_whence_82 k w l0 l1 l2 l3 s0 = some q) : WP K l mX8_whence 7 164 n0 k0 (some (.int q.1)) q.2 82 [some (.ref l0), some (.int l1), some (.int l2), some (.int l3), none] [.int s0] w := by
  unfold bX8_whence_82 at h0
  refine wp_istore (L1 := [some (.ref l0), some (.int l1), some (.int l2), some (.int l3), some (.int s0)]) dX8_whence_82 (Nat.le_of_ble_eq_true rfl) rfl ?_
  refine wp_iload_n dX8_whence_84 rfl ?_
  refine wp_iload dX8_whence_85 rfl ?_
  refine wp_if_eq (tgt := 96) dX8_whence_87 (by decide) (fun c1 => ?_) (fun c1 => ?_)
  · rw [if_pos c1] at h0
    refine wp_iconst (v := (0 : Int32)) dX8_whence_96 (by decide) ?_
    exact WP.wk (BX8_whence_97 hk0 h0) (And.intro rfl (And.intro rfl trivial))
  · rw [if_neg c1] at h0
    refine wp_iconst (v := (1 : Int32)) dX8_whence_90 (by decide) ?_
    refine wp_iload_n dX8_whence_91 rfl ?_
    refine wp_ishl dX8_whence_92 ?_
    refine wp_goto (tgt := 97) dX8_whence_93 (by decide) ?_
    exact WP.wk (BX8_whence_97 hk0 h0) (And.intro rfl (And.intro rfl trivial))
def bX8_whence_81 (k : KTX8_whence) (w : XW) (l0 : Nat) (l1 : Int32) (l2 : Int32) (l3 : Int32) : Option (Int32 × XW) :=
  bX8_whence_82 k w l0 l1 l2 l3 (0 : Int32)
theorem BX8_whence_81 {K : CX} {l : Launch} {n0 k0 : Nat} {k : KTX8_whence} (hk0 : ∀ (w : XW) (l0 : Nat) (l1 : Int32) (l2 : Int32) (q : Int32 × XW), k w l0 l1 l2 = some q → WP K l mX8_whence 7 164 n0 k0 (some (.int q.1)) q.2 4 [some (.ref l0), some (.int l1), some (.int l2), none, none] [] w) {w : XW} {l0 : Nat} {l1 : Int32} {l2 : Int32} {l3 : Int32} {q : Int32 × XW} (h0 : bX8_whence_81 k w l0 l1 l2 l3 = some q) : WP K l mX8_whence 7 164 n0 k0 (some (.int q.1)) q.2 81 [some (.ref l0), some (.int l1), some (.int l2), some (.int l3), none] [] w := by
  unfold bX8_whence_81 at h0
  refine wp_iconst (v := (0 : Int32)) dX8_whence_81 (by decide) ?_
  exact WP.wk (BX8_whence_82 hk0 h0) (And.intro rfl (And.intro rfl (And.intro rfl (And.intro rfl trivial))))
def bX8_whence_77 (k : KTX8_whence) (w : XW) (l0 : Nat) (l1 : Int32) (l2 : Int32) (l3 : Int32) : Option (Int32 × XW) :=
  bX8_whence_82 k w l0 l1 l2 l3 (1 : Int32)
theorem BX8_whence_77 {K : CX} {l : Launch} {n0 k0 : Nat} {k : KTX8_whence} (hk0 : ∀ (w : XW) (l0 : Nat) (l1 : Int32) (l2 : Int32) (q : Int32 × XW), k w l0 l1 l2 = some q → WP K l mX8_whence 7 164 n0 k0 (some (.int q.1)) q.2 4 [some (.ref l0), some (.int l1), some (.int l2), none, none] [] w) {w : XW} {l0 : Nat} {l1 : Int32} {l2 : Int32} {l3 : Int32} {q : Int32 × XW} (h0 : bX8_whence_77 k w l0 l1 l2 l3 = some q) : WP K l mX8_whence 7 164 n0 k0 (some (.int q.1)) q.2 77 [some (.ref l0), some (.int l1), some (.int l2), some (.int l3), none] [] w := by
  unfold bX8_whence_77 at h0
  refine wp_iconst (v := (1 : Int32)) dX8_whence_77 (by decide) ?_
  refine wp_goto (tgt := 82) dX8_whence_78 (by decide) ?_
  exact WP.wk (BX8_whence_82 hk0 h0) (And.intro rfl (And.intro rfl (And.intro rfl (And.intro rfl trivial))))
def hX8_whence_4 (k : KTX8_whence) (w : XW) (l0 : Nat) (l1 : Int32) (l2 : Int32) : Option (Int32 × XW) :=
  (gR w l0 8 7).bind fun x1 =>
  (aI w 0 x1 (14 : Int32)).bind fun x4 =>
  if x4 ≤ l2 then
  bX8_whence_105 k w l1
  else
  (gR w l0 8 7).bind fun x8 =>
  (aI w 0 x8 (16 : Int32)).bind fun x11 =>
  if x11 ≤ 0 then
  bX8_whence_105 k w l1
  else
  (gR w l0 8 7).bind fun x15 =>
  (aI w 0 x15 ((6 : Int32) + l2)).bind fun x18 =>
  (gR w l0 8 7).bind fun x21 =>
  (aI w 0 x21 (15 : Int32)).bind fun x24 =>
  (fX8_has w x24 x18).bind fun q27 =>
  if q27.1 = 0 then
  bX8_whence_81 k q27.2 l0 l1 l2 x18
  else
  (fX8_came q27.2 l0 x18 (1 : Int32)).bind fun q31 =>
  if q31.1 = 0 then
  (gR q31.2 l0 8 1).bind fun x35 =>
  (aI q31.2 0 x35 x18).bind fun x38 =>
  if x38 = (3 : Int32) then
  (fX8_came q31.2 l0 x18 (2 : Int32)).bind fun q42 =>
  if q42.1 = 0 then
  bX8_whence_81 k q42.2 l0 l1 l2 x18
  else
  bX8_whence_77 k q42.2 l0 l1 l2 x18
  else
  bX8_whence_81 k q31.2 l0 l1 l2 x18
  else
  bX8_whence_77 k q31.2 l0 l1 l2 x18
theorem HX8_whence_4 {K : CX} {l : Launch} {n0 k0 : Nat} {k : KTX8_whence} (hk0 : ∀ (w : XW) (l0 : Nat) (l1 : Int32) (l2 : Int32) (q : Int32 × XW), k w l0 l1 l2 = some q → WP K l mX8_whence 7 164 n0 k0 (some (.int q.1)) q.2 4 [some (.ref l0), some (.int l1), some (.int l2), none, none] [] w) {w : XW} {l0 : Nat} {l1 : Int32} {l2 : Int32} {q : Int32 × XW} (h0 : hX8_whence_4 k w l0 l1 l2 = some q) : WP K l mX8_whence 7 164 n0 k0 (some (.int q.1)) q.2 4 [some (.ref l0), some (.int l1), some (.int l2), none, none] [] w := by
  unfold hX8_whence_4 at h0
  refine wp_iload_n dX8_whence_4 rfl ?_
  refine wp_aload_n dX8_whence_5 rfl ?_
  obtain ⟨x1, e3, h2⟩ := Option.bind_eq_some_iff.mp h0
  clear h0
  refine wp_getR okX8 (k := 7) (by decide) tw712 dX8_whence_6 e3 ?_
  refine wp_bipush (v := (14 : Int32)) dX8_whence_9 (by decide) ?_
  obtain ⟨x4, e6, h5⟩ := Option.bind_eq_some_iff.mp h2
  clear h2
  refine wp_iald dX8_whence_11 e6 ?_
  refine wp_icmp_ge (tgt := 105) dX8_whence_12 (by decide) (fun c7 => ?_) (fun c7 => ?_)
  · rw [if_pos c7] at h5
    exact WP.wk (BX8_whence_105 hk0 h5) (And.intro rfl trivial)
  · rw [if_neg c7] at h5
    refine wp_aload_n dX8_whence_15 rfl ?_
    obtain ⟨x8, e10, h9⟩ := Option.bind_eq_some_iff.mp h5
    clear h5
    refine wp_getR okX8 (k := 7) (by decide) tw712 dX8_whence_16 e10 ?_
    refine wp_bipush (v := (16 : Int32)) dX8_whence_19 (by decide) ?_
    obtain ⟨x11, e13, h12⟩ := Option.bind_eq_some_iff.mp h9
    clear h9
    refine wp_iald dX8_whence_21 e13 ?_
    refine wp_if_le (tgt := 105) dX8_whence_22 (by decide) (fun c14 => ?_) (fun c14 => ?_)
    · rw [if_pos c14] at h12
      exact WP.wk (BX8_whence_105 hk0 h12) (And.intro rfl trivial)
    · rw [if_neg c14] at h12
      refine wp_aload_n dX8_whence_25 rfl ?_
      obtain ⟨x15, e17, h16⟩ := Option.bind_eq_some_iff.mp h12
      clear h12
      refine wp_getR okX8 (k := 7) (by decide) tw712 dX8_whence_26 e17 ?_
      refine wp_bipush (v := (6 : Int32)) dX8_whence_29 (by decide) ?_
      refine wp_iload_n dX8_whence_31 rfl ?_
      refine wp_iadd dX8_whence_32 ?_
      obtain ⟨x18, e20, h19⟩ := Option.bind_eq_some_iff.mp h16
      clear h16
      refine wp_iald dX8_whence_33 e20 ?_
      refine wp_istore_n (L1 := [some (.ref l0), some (.int l1), some (.int l2), some (.int x18), none]) dX8_whence_34 (Nat.le_of_ble_eq_true rfl) rfl ?_
      refine wp_aload_n dX8_whence_35 rfl ?_
      obtain ⟨x21, e23, h22⟩ := Option.bind_eq_some_iff.mp h19
      clear h19
      refine wp_getR okX8 (k := 7) (by decide) tw712 dX8_whence_36 e23 ?_
      refine wp_bipush (v := (15 : Int32)) dX8_whence_39 (by decide) ?_
      obtain ⟨x24, e26, h25⟩ := Option.bind_eq_some_iff.mp h22
      clear h22
      refine wp_iald dX8_whence_41 e26 ?_
      refine wp_iload_n dX8_whence_42 rfl ?_
      obtain ⟨q27, e29, h28⟩ := Option.bind_eq_some_iff.mp h25
      clear h25
      refine wp_Si (As := [.int x24, .int x18]) (S := []) okM_X8_has tw851 tw850 rfl ⟨(Nat.le_of_ble_eq_true rfl), (Nat.le_of_ble_eq_true rfl)⟩ (Nat.le_of_ble_eq_true rfl) rfl dX8_whence_43 (MX8_has e29) ?_
      refine wp_if_eq (tgt := 81) dX8_whence_46 (by decide) (fun c30 => ?_) (fun c30 => ?_)
      · rw [if_pos c30] at h28
        exact WP.wk (BX8_whence_81 hk0 h28) (And.intro rfl (And.intro rfl (And.intro rfl (And.intro rfl trivial))))
      · rw [if_neg c30] at h28
        refine wp_aload_n dX8_whence_49 rfl ?_
        refine wp_iload_n dX8_whence_50 rfl ?_
        refine wp_iconst (v := (1 : Int32)) dX8_whence_51 (by decide) ?_
        obtain ⟨q31, e33, h32⟩ := Option.bind_eq_some_iff.mp h28
        clear h28
        refine wp_Vi (As := [.int x18, .int (1 : Int32)]) (S := []) okM_X8_came tw987 twP_X8_came tw985 (OX8_came e33) rfl rfl rfl ⟨(Nat.le_of_ble_eq_true rfl), (Nat.le_of_ble_eq_true rfl)⟩ (Nat.le_of_ble_eq_true rfl) rfl dX8_whence_52 (MX8_came e33) ?_
        refine wp_if_ne (tgt := 77) dX8_whence_55 (by decide) (fun c34 => ?_) (fun c34 => ?_)
        · rw [if_neg c34] at h32
          exact WP.wk (BX8_whence_77 hk0 h32) (And.intro rfl (And.intro rfl (And.intro rfl (And.intro rfl trivial))))
        · rw [if_pos c34] at h32
          refine wp_aload_n dX8_whence_58 rfl ?_
          obtain ⟨x35, e37, h36⟩ := Option.bind_eq_some_iff.mp h32
          clear h32
          refine wp_getR okX8 (k := 1) (by decide) tw706 dX8_whence_59 e37 ?_
          refine wp_iload_n dX8_whence_62 rfl ?_
          obtain ⟨x38, e40, h39⟩ := Option.bind_eq_some_iff.mp h36
          clear h36
          refine wp_iald dX8_whence_63 e40 ?_
          refine wp_iconst (v := (3 : Int32)) dX8_whence_64 (by decide) ?_
          refine wp_icmp_ne (tgt := 81) dX8_whence_65 (by decide) (fun c41 => ?_) (fun c41 => ?_)
          · rw [if_neg c41] at h39
            exact WP.wk (BX8_whence_81 hk0 h39) (And.intro rfl (And.intro rfl (And.intro rfl (And.intro rfl trivial))))
          · rw [if_pos c41] at h39
            refine wp_aload_n dX8_whence_68 rfl ?_
            refine wp_iload_n dX8_whence_69 rfl ?_
            refine wp_iconst (v := (2 : Int32)) dX8_whence_70 (by decide) ?_
            obtain ⟨q42, e44, h43⟩ := Option.bind_eq_some_iff.mp h39
            clear h39
            refine wp_Vi (As := [.int x18, .int (2 : Int32)]) (S := []) okM_X8_came tw987 twP_X8_came tw985 (OX8_came e44) rfl rfl rfl ⟨(Nat.le_of_ble_eq_true rfl), (Nat.le_of_ble_eq_true rfl)⟩ (Nat.le_of_ble_eq_true rfl) rfl dX8_whence_71 (MX8_came e44) ?_
            refine wp_if_eq (tgt := 81) dX8_whence_74 (by decide) (fun c45 => ?_) (fun c45 => ?_)
            · rw [if_pos c45] at h43
              exact WP.wk (BX8_whence_81 hk0 h43) (And.intro rfl (And.intro rfl (And.intro rfl (And.intro rfl trivial))))
            · rw [if_neg c45] at h43
              exact WP.wk (BX8_whence_77 hk0 h43) (And.intro rfl (And.intro rfl (And.intro rfl (And.intro rfl trivial))))
def eX8_whence (k : KTX8_whence) (w : XW) (l0 : Nat) : Option (Int32 × XW) :=
  k w l0 (0 : Int32) (0 : Int32)
theorem EX8_whence {K : CX} {l : Launch} {n0 k0 : Nat} {k : KTX8_whence} (hk0 : ∀ (w : XW) (l0 : Nat) (l1 : Int32) (l2 : Int32) (q : Int32 × XW), k w l0 l1 l2 = some q → WP K l mX8_whence 7 164 n0 k0 (some (.int q.1)) q.2 4 [some (.ref l0), some (.int l1), some (.int l2), none, none] [] w) {w : XW} {l0 : Nat} {q : Int32 × XW} (h0 : eX8_whence k w l0 = some q) : WP K l mX8_whence 7 164 n0 k0 (some (.int q.1)) q.2 0 [some (.ref l0), none, none, none, none] [] w := by
  unfold eX8_whence at h0
  refine wp_iconst (v := (0 : Int32)) dX8_whence_0 (by decide) ?_
  refine wp_istore_n (L1 := [some (.ref l0), some (.int (0 : Int32)), none, none, none]) dX8_whence_1 (Nat.le_of_ble_eq_true rfl) rfl ?_
  refine wp_iconst (v := (0 : Int32)) dX8_whence_2 (by decide) ?_
  refine wp_istore_n (L1 := [some (.ref l0), some (.int (0 : Int32)), some (.int (0 : Int32)), none, none]) dX8_whence_3 (Nat.le_of_ble_eq_true rfl) rfl ?_
  exact WP.wk (hk0 _ _ _ _ _ h0) (And.intro rfl (And.intro rfl (And.intro rfl trivial)))
def loX8_whence : Nat → KTX8_whence
  | 0 => fun _ _ _ _ => none
  | n + 1 => hX8_whence_4 (loX8_whence n)
theorem LOX8_whence {K : CX} {l : Launch} {n0 k0 : Nat} : ∀ n : Nat, (∀ (w : XW) (l0 : Nat) (l1 : Int32) (l2 : Int32) (q : Int32 × XW), (loX8_whence n) w l0 l1 l2 = some q → WP K l mX8_whence 7 164 n0 k0 (some (.int q.1)) q.2 4 [some (.ref l0), some (.int l1), some (.int l2), none, none] [] w) := by
  intro n
  induction n with
  | zero => exact fun _ _ _ _ q h => (by cases h)
  | succ n ih => exact fun _ _ _ _ q h => HX8_whence_4 ih h
def fX8_whence (w : XW) (l0 : Nat) : Option (Int32 × XW) := if isO w l0 8 = true then eX8_whence (loX8_whence FU) w l0 else none
theorem OX8_whence {w : XW} {l0 : Nat} {q : Int32 × XW} (h : fX8_whence w l0 = some q) : isO w l0 8 = true := Decidable.byContradiction fun z => by unfold fX8_whence at h; rw [if_neg z] at h; cases h
theorem MX8_whence {K : CX} {l : Launch} {w : XW} {l0 : Nat} {q : Int32 × XW} (h : fX8_whence w l0 = some q) : MT K l mX8_whence 7 164 [.ref l0] w (some (.int q.1)) q.2 := by
  have z := OX8_whence h
  unfold fX8_whence at h
  rw [if_pos z] at h
  exact MT.of (by decide) (Nat.le_of_ble_eq_true rfl) rfl (EX8_whence (LOX8_whence FU) h)
/-! FractionRun.see(II)I: frames 2, words 41 -/
abbrev mX7_see : MR := (⟨"FractionRun", "see", "(II)I"⟩, prog_1_method_24_code, 3, (some .int))
theorem dX7_see_0 : decode prog_1_method_24_code 0 = .ok (.iload_n 1, 1) := by decide +kernel
theorem dX7_see_1 : decode prog_1_method_24_code 1 = .ok (.iconst 1, 1) := by decide +kernel
theorem dX7_see_2 : decode prog_1_method_24_code 2 = .ok (.if_icmp .lt 23, 3) := by decide +kernel
theorem dX7_see_5 : decode prog_1_method_24_code 5 = .ok (.iload_n 1, 1) := by decide +kernel
theorem dX7_see_6 : decode prog_1_method_24_code 6 = .ok (.bipush 60, 2) := by decide +kernel
theorem dX7_see_8 : decode prog_1_method_24_code 8 = .ok (.if_icmp .gt 17, 3) := by decide +kernel
theorem dX7_see_11 : decode prog_1_method_24_code 11 = .ok (.iload_n 2, 1) := by decide +kernel
theorem dX7_see_12 : decode prog_1_method_24_code 12 = .ok (.bipush 8, 2) := by decide +kernel
theorem dX7_see_14 : decode prog_1_method_24_code 14 = .ok (.if_icmp .eq 13, 3) := by decide +kernel
theorem dX7_see_17 : decode prog_1_method_24_code 17 = .ok (.aload_n 0, 1) := by decide +kernel
theorem dX7_see_18 : decode prog_1_method_24_code 18 = .ok (.iload_n 2, 1) := by decide +kernel
theorem dX7_see_19 : decode prog_1_method_24_code 19 = .ok (.invokevirtual 120, 3) := by decide +kernel
theorem dX7_see_22 : decode prog_1_method_24_code 22 = .ok (.ifCond .ne 5, 3) := by decide +kernel
theorem dX7_see_25 : decode prog_1_method_24_code 25 = .ok (.iconst (-1), 1) := by decide +kernel
theorem dX7_see_26 : decode prog_1_method_24_code 26 = .ok (.ireturn, 1) := by decide +kernel
theorem dX7_see_27 : decode prog_1_method_24_code 27 = .ok (.aload_n 0, 1) := by decide +kernel
theorem dX7_see_28 : decode prog_1_method_24_code 28 = .ok (.getfield 117, 3) := by decide +kernel
theorem dX7_see_31 : decode prog_1_method_24_code 31 = .ok (.bipush 6, 2) := by decide +kernel
theorem dX7_see_33 : decode prog_1_method_24_code 33 = .ok (.if_icmp .lt 6, 3) := by decide +kernel
theorem dX7_see_36 : decode prog_1_method_24_code 36 = .ok (.bipush (-3), 2) := by decide +kernel
theorem dX7_see_38 : decode prog_1_method_24_code 38 = .ok (.ireturn, 1) := by decide +kernel
theorem dX7_see_39 : decode prog_1_method_24_code 39 = .ok (.aload_n 0, 1) := by decide +kernel
theorem dX7_see_40 : decode prog_1_method_24_code 40 = .ok (.getfield 60, 3) := by decide +kernel
theorem dX7_see_43 : decode prog_1_method_24_code 43 = .ok (.aload_n 0, 1) := by decide +kernel
theorem dX7_see_44 : decode prog_1_method_24_code 44 = .ok (.getfield 117, 3) := by decide +kernel
theorem dX7_see_47 : decode prog_1_method_24_code 47 = .ok (.iload_n 1, 1) := by decide +kernel
theorem dX7_see_48 : decode prog_1_method_24_code 48 = .ok (.iastore, 1) := by decide +kernel
theorem dX7_see_49 : decode prog_1_method_24_code 49 = .ok (.aload_n 0, 1) := by decide +kernel
theorem dX7_see_50 : decode prog_1_method_24_code 50 = .ok (.getfield 64, 3) := by decide +kernel
theorem dX7_see_53 : decode prog_1_method_24_code 53 = .ok (.aload_n 0, 1) := by decide +kernel
theorem dX7_see_54 : decode prog_1_method_24_code 54 = .ok (.getfield 117, 3) := by decide +kernel
theorem dX7_see_57 : decode prog_1_method_24_code 57 = .ok (.iload_n 2, 1) := by decide +kernel
theorem dX7_see_58 : decode prog_1_method_24_code 58 = .ok (.iastore, 1) := by decide +kernel
theorem dX7_see_59 : decode prog_1_method_24_code 59 = .ok (.aload_n 0, 1) := by decide +kernel
theorem dX7_see_60 : decode prog_1_method_24_code 60 = .ok (.dup, 1) := by decide +kernel
theorem dX7_see_61 : decode prog_1_method_24_code 61 = .ok (.getfield 117, 3) := by decide +kernel
theorem dX7_see_64 : decode prog_1_method_24_code 64 = .ok (.iconst 1, 1) := by decide +kernel
theorem dX7_see_65 : decode prog_1_method_24_code 65 = .ok (.iadd, 1) := by decide +kernel
theorem dX7_see_66 : decode prog_1_method_24_code 66 = .ok (.putfield 117, 3) := by decide +kernel
theorem dX7_see_69 : decode prog_1_method_24_code 69 = .ok (.aload_n 0, 1) := by decide +kernel
theorem dX7_see_70 : decode prog_1_method_24_code 70 = .ok (.getfield 117, 3) := by decide +kernel
theorem dX7_see_73 : decode prog_1_method_24_code 73 = .ok (.ireturn, 1) := by decide +kernel
theorem okM_X7_see : okM mX7_see 2 := ⟨tw585, tw1, by decide, by decide, by decide +kernel⟩
def bX7_see_27 (w : XW) (l0 : Nat) (l1 : Int32) (l2 : Int32) : Option (Int32 × XW) :=
  (gI w l0 7 11).bind fun x1 =>
  if x1 < (6 : Int32) then
  (gR w l0 7 9).bind fun x5 =>
  (gI w l0 7 11).bind fun x8 =>
  (sI w 0 x5 x8 l1).bind fun w11 =>
  (gR w11 l0 7 10).bind fun x14 =>
  (gI w11 l0 7 11).bind fun x17 =>
  (sI w11 0 x14 x17 l2).bind fun w20 =>
  (gI w20 l0 7 11).bind fun x23 =>
  (pV w20 l0 7 11 (.int (x23 + (1 : Int32)))).bind fun w26 =>
  (gI w26 l0 7 11).bind fun x29 =>
  some (x29, w26)
  else
  some ((-3 : Int32), w)
theorem BX7_see_27 {K : CX} {l : Launch} {n0 k0 : Nat} {w : XW} {l0 : Nat} {l1 : Int32} {l2 : Int32} {q : Int32 × XW} (h0 : bX7_see_27 w l0 l1 l2 = some q) : WP K l mX7_see 2 41 n0 k0 (some (.int q.1)) q.2 27 [some (.ref l0), some (.int l1), some (.int l2)] [] w := by
  unfold bX7_see_27 at h0
  refine wp_aload_n dX7_see_27 rfl ?_
  obtain ⟨x1, e3, h2⟩ := Option.bind_eq_some_iff.mp h0
  clear h0
  refine wp_getI okX7 (k := 11) (by decide) tw309 dX7_see_28 e3 ?_
  refine wp_bipush (v := (6 : Int32)) dX7_see_31 (by decide) ?_
  refine wp_icmp_lt (tgt := 39) dX7_see_33 (by decide) (fun c4 => ?_) (fun c4 => ?_)
  · rw [if_pos c4] at h2
    refine wp_aload_n dX7_see_39 rfl ?_
    obtain ⟨x5, e7, h6⟩ := Option.bind_eq_some_iff.mp h2
    clear h2
    refine wp_getR okX7 (k := 9) (by decide) tw307 dX7_see_40 e7 ?_
    refine wp_aload_n dX7_see_43 rfl ?_
    obtain ⟨x8, e10, h9⟩ := Option.bind_eq_some_iff.mp h6
    clear h6
    refine wp_getI okX7 (k := 11) (by decide) tw309 dX7_see_44 e10 ?_
    refine wp_iload_n dX7_see_47 rfl ?_
    obtain ⟨w11, e13, h12⟩ := Option.bind_eq_some_iff.mp h9
    clear h9
    refine wp_iast dX7_see_48 e13 ?_
    refine wp_aload_n dX7_see_49 rfl ?_
    obtain ⟨x14, e16, h15⟩ := Option.bind_eq_some_iff.mp h12
    clear h12
    refine wp_getR okX7 (k := 10) (by decide) tw308 dX7_see_50 e16 ?_
    refine wp_aload_n dX7_see_53 rfl ?_
    obtain ⟨x17, e19, h18⟩ := Option.bind_eq_some_iff.mp h15
    clear h15
    refine wp_getI okX7 (k := 11) (by decide) tw309 dX7_see_54 e19 ?_
    refine wp_iload_n dX7_see_57 rfl ?_
    obtain ⟨w20, e22, h21⟩ := Option.bind_eq_some_iff.mp h18
    clear h18
    refine wp_iast dX7_see_58 e22 ?_
    refine wp_aload_n dX7_see_59 rfl ?_
    refine wp_dup dX7_see_60 rfl ?_
    obtain ⟨x23, e25, h24⟩ := Option.bind_eq_some_iff.mp h21
    clear h21
    refine wp_getI okX7 (k := 11) (by decide) tw309 dX7_see_61 e25 ?_
    refine wp_iconst (v := (1 : Int32)) dX7_see_64 (by decide) ?_
    refine wp_iadd dX7_see_65 ?_
    obtain ⟨w26, e28, h27⟩ := Option.bind_eq_some_iff.mp h24
    clear h24
    refine wp_putV okX7 (k := 11) (by decide) rfl tw309 dX7_see_66 rfl rfl e28 ?_
    refine wp_aload_n dX7_see_69 rfl ?_
    obtain ⟨x29, e31, h30⟩ := Option.bind_eq_some_iff.mp h27
    clear h27
    refine wp_getI okX7 (k := 11) (by decide) tw309 dX7_see_70 e31 ?_
    cases h30
    exact wp_iret rfl dX7_see_73
  · rw [if_neg c4] at h2
    refine wp_bipush (v := (-3 : Int32)) dX7_see_36 (by decide) ?_
    cases h2
    exact wp_iret rfl dX7_see_38
def bX7_see_25 (w : XW) : Option (Int32 × XW) :=
  some ((-1 : Int32), w)
theorem BX7_see_25 {K : CX} {l : Launch} {n0 k0 : Nat} {w : XW} {q : Int32 × XW} (h0 : bX7_see_25 w = some q) : WP K l mX7_see 2 41 n0 k0 (some (.int q.1)) q.2 25 [none, none, none] [] w := by
  unfold bX7_see_25 at h0
  refine wp_iconst (v := (-1 : Int32)) dX7_see_25 (by decide) ?_
  cases h0
  exact wp_iret rfl dX7_see_26
def eX7_see (w : XW) (l0 : Nat) (l1 : Int32) (l2 : Int32) : Option (Int32 × XW) :=
  if l1 < (1 : Int32) then
  bX7_see_25 w
  else
  if (60 : Int32) < l1 then
  bX7_see_25 w
  else
  if l2 = (8 : Int32) then
  bX7_see_27 w l0 l1 l2
  else
  (fX7_isTold w l0 l2).bind fun q4 =>
  if q4.1 = 0 then
  bX7_see_25 q4.2
  else
  bX7_see_27 q4.2 l0 l1 l2
theorem EX7_see {K : CX} {l : Launch} {n0 k0 : Nat} {w : XW} {l0 : Nat} {l1 : Int32} {l2 : Int32} {q : Int32 × XW} (h0 : eX7_see w l0 l1 l2 = some q) : WP K l mX7_see 2 41 n0 k0 (some (.int q.1)) q.2 0 [some (.ref l0), some (.int l1), some (.int l2)] [] w := by
  unfold eX7_see at h0
  refine wp_iload_n dX7_see_0 rfl ?_
  refine wp_iconst (v := (1 : Int32)) dX7_see_1 (by decide) ?_
  refine wp_icmp_lt (tgt := 25) dX7_see_2 (by decide) (fun c1 => ?_) (fun c1 => ?_)
  · rw [if_pos c1] at h0
    exact WP.wk (BX7_see_25 h0) trivial
  · rw [if_neg c1] at h0
    refine wp_iload_n dX7_see_5 rfl ?_
    refine wp_bipush (v := (60 : Int32)) dX7_see_6 (by decide) ?_
    refine wp_icmp_gt (tgt := 25) dX7_see_8 (by decide) (fun c2 => ?_) (fun c2 => ?_)
    · rw [if_pos c2] at h0
      exact WP.wk (BX7_see_25 h0) trivial
    · rw [if_neg c2] at h0
      refine wp_iload_n dX7_see_11 rfl ?_
      refine wp_bipush (v := (8 : Int32)) dX7_see_12 (by decide) ?_
      refine wp_icmp_eq (tgt := 27) dX7_see_14 (by decide) (fun c3 => ?_) (fun c3 => ?_)
      · rw [if_pos c3] at h0
        exact WP.wk (BX7_see_27 h0) (And.intro rfl (And.intro rfl (And.intro rfl trivial)))
      · rw [if_neg c3] at h0
        refine wp_aload_n dX7_see_17 rfl ?_
        refine wp_iload_n dX7_see_18 rfl ?_
        obtain ⟨q4, e6, h5⟩ := Option.bind_eq_some_iff.mp h0
        clear h0
        refine wp_Vi (As := [.int l2]) (S := []) okM_X7_isTold tw380 twP_X7_isTold tw378 (OX7_isTold e6) rfl rfl rfl ⟨(Nat.le_of_ble_eq_true rfl), (Nat.le_of_ble_eq_true rfl)⟩ (Nat.le_of_ble_eq_true rfl) rfl dX7_see_19 (MX7_isTold e6) ?_
        refine wp_if_ne (tgt := 27) dX7_see_22 (by decide) (fun c7 => ?_) (fun c7 => ?_)
        · rw [if_neg c7] at h5
          exact WP.wk (BX7_see_27 h5) (And.intro rfl (And.intro rfl (And.intro rfl trivial)))
        · rw [if_pos c7] at h5
          exact WP.wk (BX7_see_25 h5) trivial
def fX7_see (w : XW) (l0 : Nat) (l1 : Int32) (l2 : Int32) : Option (Int32 × XW) := if isO w l0 7 = true then eX7_see w l0 l1 l2 else none
theorem OX7_see {w : XW} {l0 : Nat} {l1 : Int32} {l2 : Int32} {q : Int32 × XW} (h : fX7_see w l0 l1 l2 = some q) : isO w l0 7 = true := Decidable.byContradiction fun z => by unfold fX7_see at h; rw [if_neg z] at h; cases h
theorem MX7_see {K : CX} {l : Launch} {w : XW} {l0 : Nat} {l1 : Int32} {l2 : Int32} {q : Int32 × XW} (h : fX7_see w l0 l1 l2 = some q) : MT K l mX7_see 2 41 [.ref l0, .int l1, .int l2] w (some (.int q.1)) q.2 := by
  have z := OX7_see h
  unfold fX7_see at h
  rw [if_pos z] at h
  exact MT.of (by decide) (Nat.le_of_ble_eq_true rfl) rfl (EX7_see h)
/-! FractionRunModel.isWho(I)Z: frames 3, words 66 -/
abbrev mX8_isWho : MR := (⟨"FractionRunModel", "isWho", "(I)Z"⟩, prog_10_method_56_code, 2, (some .boolean))
theorem dX8_isWho_0 : decode prog_10_method_56_code 0 = .ok (.aload_n 0, 1) := by decide +kernel
theorem dX8_isWho_1 : decode prog_10_method_56_code 1 = .ok (.iload_n 1, 1) := by decide +kernel
theorem dX8_isWho_2 : decode prog_10_method_56_code 2 = .ok (.invokevirtual 158, 3) := by decide +kernel
theorem dX8_isWho_5 : decode prog_10_method_56_code 5 = .ok (.ifCond .ne 9, 3) := by decide +kernel
theorem dX8_isWho_8 : decode prog_10_method_56_code 8 = .ok (.iload_n 1, 1) := by decide +kernel
theorem dX8_isWho_9 : decode prog_10_method_56_code 9 = .ok (.bipush 8, 2) := by decide +kernel
theorem dX8_isWho_11 : decode prog_10_method_56_code 11 = .ok (.if_icmp .ne 7, 3) := by decide +kernel
theorem dX8_isWho_14 : decode prog_10_method_56_code 14 = .ok (.iconst 1, 1) := by decide +kernel
theorem dX8_isWho_15 : decode prog_10_method_56_code 15 = .ok (.goto 4, 3) := by decide +kernel
theorem dX8_isWho_18 : decode prog_10_method_56_code 18 = .ok (.iconst 0, 1) := by decide +kernel
theorem dX8_isWho_19 : decode prog_10_method_56_code 19 = .ok (.ireturn, 1) := by decide +kernel
theorem okM_X8_isWho : okM mX8_isWho 1 := ⟨tw997, tw15, by decide, by decide, by decide +kernel⟩
def bX8_isWho_19 (w : XW) (s0 : Int32) : Option (Int32 × XW) :=
  if s0 &&& 1 = s0 then some (s0, w) else none
theorem BX8_isWho_19 {K : CX} {l : Launch} {n0 k0 : Nat} {w : XW} {s0 : Int32} {q : Int32 × XW} (h0 : bX8_isWho_19 w s0 = some q) : WP K l mX8_isWho 3 66 n0 k0 (some (.int q.1)) q.2 19 [none, none] [.int s0] w := by
  unfold bX8_isWho_19 at h0
  have c1 : s0 &&& 1 = s0 := Decidable.byContradiction fun z => by rw [if_neg z] at h0; cases h0
  rw [if_pos c1] at h0
  cases h0
  exact wp_zret rfl (zb_n c1) dX8_isWho_19
def bX8_isWho_14 (w : XW) : Option (Int32 × XW) :=
  bX8_isWho_19 w (1 : Int32)
theorem BX8_isWho_14 {K : CX} {l : Launch} {n0 k0 : Nat} {w : XW} {q : Int32 × XW} (h0 : bX8_isWho_14 w = some q) : WP K l mX8_isWho 3 66 n0 k0 (some (.int q.1)) q.2 14 [none, none] [] w := by
  unfold bX8_isWho_14 at h0
  refine wp_iconst (v := (1 : Int32)) dX8_isWho_14 (by decide) ?_
  refine wp_goto (tgt := 19) dX8_isWho_15 (by decide) ?_
  exact WP.wk (BX8_isWho_19 h0) trivial
def eX8_isWho (w : XW) (l0 : Nat) (l1 : Int32) : Option (Int32 × XW) :=
  (fX8_isFraction w l0 l1).bind fun q1 =>
  if q1.1 = 0 then
  if l1 = (8 : Int32) then
  bX8_isWho_14 q1.2
  else
  bX8_isWho_19 q1.2 (0 : Int32)
  else
  bX8_isWho_14 q1.2
theorem EX8_isWho {K : CX} {l : Launch} {n0 k0 : Nat} {w : XW} {l0 : Nat} {l1 : Int32} {q : Int32 × XW} (h0 : eX8_isWho w l0 l1 = some q) : WP K l mX8_isWho 3 66 n0 k0 (some (.int q.1)) q.2 0 [some (.ref l0), some (.int l1)] [] w := by
  unfold eX8_isWho at h0
  refine wp_aload_n dX8_isWho_0 rfl ?_
  refine wp_iload_n dX8_isWho_1 rfl ?_
  obtain ⟨q1, e3, h2⟩ := Option.bind_eq_some_iff.mp h0
  clear h0
  refine wp_Vi (As := [.int l1]) (S := []) okM_X8_isFraction tw835 twP_X8_isFraction tw833 (OX8_isFraction e3) rfl rfl rfl ⟨(Nat.le_of_ble_eq_true rfl), (Nat.le_of_ble_eq_true rfl)⟩ (Nat.le_of_ble_eq_true rfl) rfl dX8_isWho_2 (MX8_isFraction e3) ?_
  refine wp_if_ne (tgt := 14) dX8_isWho_5 (by decide) (fun c4 => ?_) (fun c4 => ?_)
  · rw [if_neg c4] at h2
    exact WP.wk (BX8_isWho_14 h2) trivial
  · rw [if_pos c4] at h2
    refine wp_iload_n dX8_isWho_8 rfl ?_
    refine wp_bipush (v := (8 : Int32)) dX8_isWho_9 (by decide) ?_
    refine wp_icmp_ne (tgt := 18) dX8_isWho_11 (by decide) (fun c5 => ?_) (fun c5 => ?_)
    · rw [if_neg c5] at h2
      refine wp_iconst (v := (0 : Int32)) dX8_isWho_18 (by decide) ?_
      exact WP.wk (BX8_isWho_19 h2) trivial
    · rw [if_pos c5] at h2
      exact WP.wk (BX8_isWho_14 h2) trivial
def fX8_isWho (w : XW) (l0 : Nat) (l1 : Int32) : Option (Int32 × XW) := if isO w l0 8 = true then eX8_isWho w l0 l1 else none
theorem OX8_isWho {w : XW} {l0 : Nat} {l1 : Int32} {q : Int32 × XW} (h : fX8_isWho w l0 l1 = some q) : isO w l0 8 = true := Decidable.byContradiction fun z => by unfold fX8_isWho at h; rw [if_neg z] at h; cases h
theorem MX8_isWho {K : CX} {l : Launch} {w : XW} {l0 : Nat} {l1 : Int32} {q : Int32 × XW} (h : fX8_isWho w l0 l1 = some q) : MT K l mX8_isWho 3 66 [.ref l0, .int l1] w (some (.int q.1)) q.2 := by
  have z := OX8_isWho h
  unfold fX8_isWho at h
  rw [if_pos z] at h
  exact MT.of (by decide) (Nat.le_of_ble_eq_true rfl) rfl (EX8_isWho h)
/-! FractionRunModel.see(II)I: frames 4, words 87 -/
abbrev mX8_see : MR := (⟨"FractionRunModel", "see", "(II)I"⟩, prog_10_method_57_code, 3, (some .int))
theorem dX8_see_0 : decode prog_10_method_57_code 0 = .ok (.iload_n 1, 1) := by decide +kernel
theorem dX8_see_1 : decode prog_10_method_57_code 1 = .ok (.i2l, 1) := by decide +kernel
theorem dX8_see_2 : decode prog_10_method_57_code 2 = .ok (.lconst 1, 1) := by decide +kernel
theorem dX8_see_3 : decode prog_10_method_57_code 3 = .ok (.ldc2_w 221, 3) := by decide +kernel
theorem dX8_see_6 : decode prog_10_method_57_code 6 = .ok (.invokestatic 88, 3) := by decide +kernel
theorem dX8_see_9 : decode prog_10_method_57_code 9 = .ok (.ifCond .eq 11, 3) := by decide +kernel
theorem dX8_see_12 : decode prog_10_method_57_code 12 = .ok (.aload_n 0, 1) := by decide +kernel
theorem dX8_see_13 : decode prog_10_method_57_code 13 = .ok (.iload_n 2, 1) := by decide +kernel
theorem dX8_see_14 : decode prog_10_method_57_code 14 = .ok (.invokevirtual 223, 3) := by decide +kernel
theorem dX8_see_17 : decode prog_10_method_57_code 17 = .ok (.ifCond .ne 5, 3) := by decide +kernel
theorem dX8_see_20 : decode prog_10_method_57_code 20 = .ok (.iconst (-1), 1) := by decide +kernel
theorem dX8_see_21 : decode prog_10_method_57_code 21 = .ok (.ireturn, 1) := by decide +kernel
theorem dX8_see_22 : decode prog_10_method_57_code 22 = .ok (.aload_n 0, 1) := by decide +kernel
theorem dX8_see_23 : decode prog_10_method_57_code 23 = .ok (.getfield 81, 3) := by decide +kernel
theorem dX8_see_26 : decode prog_10_method_57_code 26 = .ok (.bipush 6, 2) := by decide +kernel
theorem dX8_see_28 : decode prog_10_method_57_code 28 = .ok (.if_icmp .ne 6, 3) := by decide +kernel
theorem dX8_see_31 : decode prog_10_method_57_code 31 = .ok (.bipush (-3), 2) := by decide +kernel
theorem dX8_see_33 : decode prog_10_method_57_code 33 = .ok (.ireturn, 1) := by decide +kernel
theorem dX8_see_34 : decode prog_10_method_57_code 34 = .ok (.aload_n 0, 1) := by decide +kernel
theorem dX8_see_35 : decode prog_10_method_57_code 35 = .ok (.getfield 32, 3) := by decide +kernel
theorem dX8_see_38 : decode prog_10_method_57_code 38 = .ok (.aload_n 0, 1) := by decide +kernel
theorem dX8_see_39 : decode prog_10_method_57_code 39 = .ok (.getfield 81, 3) := by decide +kernel
theorem dX8_see_42 : decode prog_10_method_57_code 42 = .ok (.iload_n 1, 1) := by decide +kernel
theorem dX8_see_43 : decode prog_10_method_57_code 43 = .ok (.iastore, 1) := by decide +kernel
theorem dX8_see_44 : decode prog_10_method_57_code 44 = .ok (.aload_n 0, 1) := by decide +kernel
theorem dX8_see_45 : decode prog_10_method_57_code 45 = .ok (.getfield 35, 3) := by decide +kernel
theorem dX8_see_48 : decode prog_10_method_57_code 48 = .ok (.aload_n 0, 1) := by decide +kernel
theorem dX8_see_49 : decode prog_10_method_57_code 49 = .ok (.getfield 81, 3) := by decide +kernel
theorem dX8_see_52 : decode prog_10_method_57_code 52 = .ok (.iload_n 2, 1) := by decide +kernel
theorem dX8_see_53 : decode prog_10_method_57_code 53 = .ok (.iastore, 1) := by decide +kernel
theorem dX8_see_54 : decode prog_10_method_57_code 54 = .ok (.aload_n 0, 1) := by decide +kernel
theorem dX8_see_55 : decode prog_10_method_57_code 55 = .ok (.dup, 1) := by decide +kernel
theorem dX8_see_56 : decode prog_10_method_57_code 56 = .ok (.getfield 81, 3) := by decide +kernel
theorem dX8_see_59 : decode prog_10_method_57_code 59 = .ok (.iconst 1, 1) := by decide +kernel
theorem dX8_see_60 : decode prog_10_method_57_code 60 = .ok (.iadd, 1) := by decide +kernel
theorem dX8_see_61 : decode prog_10_method_57_code 61 = .ok (.putfield 81, 3) := by decide +kernel
theorem dX8_see_64 : decode prog_10_method_57_code 64 = .ok (.aload_n 0, 1) := by decide +kernel
theorem dX8_see_65 : decode prog_10_method_57_code 65 = .ok (.getfield 81, 3) := by decide +kernel
theorem dX8_see_68 : decode prog_10_method_57_code 68 = .ok (.ireturn, 1) := by decide +kernel
theorem okM_X8_see : okM mX8_see 2 := ⟨tw992, tw15, by decide, by decide, by decide +kernel⟩
def bX8_see_20 (w : XW) : Option (Int32 × XW) :=
  some ((-1 : Int32), w)
theorem BX8_see_20 {K : CX} {l : Launch} {n0 k0 : Nat} {w : XW} {q : Int32 × XW} (h0 : bX8_see_20 w = some q) : WP K l mX8_see 4 87 n0 k0 (some (.int q.1)) q.2 20 [none, none, none] [] w := by
  unfold bX8_see_20 at h0
  refine wp_iconst (v := (-1 : Int32)) dX8_see_20 (by decide) ?_
  cases h0
  exact wp_iret rfl dX8_see_21
def eX8_see (w : XW) (l0 : Nat) (l1 : Int32) (l2 : Int32) : Option (Int32 × XW) :=
  (fX8_in w (l1.toInt64) (1 : Int64) (60 : Int64)).bind fun q1 =>
  if q1.1 = 0 then
  bX8_see_20 q1.2
  else
  (fX8_isWho q1.2 l0 l2).bind fun q5 =>
  if q5.1 = 0 then
  bX8_see_20 q5.2
  else
  (gI q5.2 l0 8 15).bind fun x9 =>
  if x9 = (6 : Int32) then
  some ((-3 : Int32), q5.2)
  else
  (gR q5.2 l0 8 16).bind fun x13 =>
  (gI q5.2 l0 8 15).bind fun x16 =>
  (sI q5.2 0 x13 x16 l1).bind fun w19 =>
  (gR w19 l0 8 17).bind fun x22 =>
  (gI w19 l0 8 15).bind fun x25 =>
  (sI w19 0 x22 x25 l2).bind fun w28 =>
  (gI w28 l0 8 15).bind fun x31 =>
  (pV w28 l0 8 15 (.int (x31 + (1 : Int32)))).bind fun w34 =>
  (gI w34 l0 8 15).bind fun x37 =>
  some (x37, w34)
theorem EX8_see {K : CX} {l : Launch} {n0 k0 : Nat} {w : XW} {l0 : Nat} {l1 : Int32} {l2 : Int32} {q : Int32 × XW} (h0 : eX8_see w l0 l1 l2 = some q) : WP K l mX8_see 4 87 n0 k0 (some (.int q.1)) q.2 0 [some (.ref l0), some (.int l1), some (.int l2)] [] w := by
  unfold eX8_see at h0
  refine wp_iload_n dX8_see_0 rfl ?_
  refine wp_i2l dX8_see_1 ?_
  refine wp_lconst (v := (1 : Int64)) dX8_see_2 (by decide) ?_
  refine wp_ldc2 tw993 dX8_see_3 ?_
  obtain ⟨q1, e3, h2⟩ := Option.bind_eq_some_iff.mp h0
  clear h0
  refine wp_Si (As := [.long (l1.toInt64), .long (1 : Int64), .long (60 : Int64)]) (S := []) okM_X8_in tw785 tw784 rfl ⟨(Nat.le_of_ble_eq_true rfl), (Nat.le_of_ble_eq_true rfl)⟩ (Nat.le_of_ble_eq_true rfl) rfl dX8_see_6 (MX8_in e3) ?_
  refine wp_if_eq (tgt := 20) dX8_see_9 (by decide) (fun c4 => ?_) (fun c4 => ?_)
  · rw [if_pos c4] at h2
    exact WP.wk (BX8_see_20 h2) trivial
  · rw [if_neg c4] at h2
    refine wp_aload_n dX8_see_12 rfl ?_
    refine wp_iload_n dX8_see_13 rfl ?_
    obtain ⟨q5, e7, h6⟩ := Option.bind_eq_some_iff.mp h2
    clear h2
    refine wp_Vi (As := [.int l2]) (S := []) okM_X8_isWho tw996 twP_X8_isWho tw994 (OX8_isWho e7) rfl rfl rfl ⟨(Nat.le_of_ble_eq_true rfl), (Nat.le_of_ble_eq_true rfl)⟩ (Nat.le_of_ble_eq_true rfl) rfl dX8_see_14 (MX8_isWho e7) ?_
    refine wp_if_ne (tgt := 22) dX8_see_17 (by decide) (fun c8 => ?_) (fun c8 => ?_)
    · rw [if_neg c8] at h6
      refine wp_aload_n dX8_see_22 rfl ?_
      obtain ⟨x9, e11, h10⟩ := Option.bind_eq_some_iff.mp h6
      clear h6
      refine wp_getI okX8 (k := 15) (by decide) tw720 dX8_see_23 e11 ?_
      refine wp_bipush (v := (6 : Int32)) dX8_see_26 (by decide) ?_
      refine wp_icmp_ne (tgt := 34) dX8_see_28 (by decide) (fun c12 => ?_) (fun c12 => ?_)
      · rw [if_neg c12] at h10
        refine wp_aload_n dX8_see_34 rfl ?_
        obtain ⟨x13, e15, h14⟩ := Option.bind_eq_some_iff.mp h10
        clear h10
        refine wp_getR okX8 (k := 16) (by decide) tw721 dX8_see_35 e15 ?_
        refine wp_aload_n dX8_see_38 rfl ?_
        obtain ⟨x16, e18, h17⟩ := Option.bind_eq_some_iff.mp h14
        clear h14
        refine wp_getI okX8 (k := 15) (by decide) tw720 dX8_see_39 e18 ?_
        refine wp_iload_n dX8_see_42 rfl ?_
        obtain ⟨w19, e21, h20⟩ := Option.bind_eq_some_iff.mp h17
        clear h17
        refine wp_iast dX8_see_43 e21 ?_
        refine wp_aload_n dX8_see_44 rfl ?_
        obtain ⟨x22, e24, h23⟩ := Option.bind_eq_some_iff.mp h20
        clear h20
        refine wp_getR okX8 (k := 17) (by decide) tw722 dX8_see_45 e24 ?_
        refine wp_aload_n dX8_see_48 rfl ?_
        obtain ⟨x25, e27, h26⟩ := Option.bind_eq_some_iff.mp h23
        clear h23
        refine wp_getI okX8 (k := 15) (by decide) tw720 dX8_see_49 e27 ?_
        refine wp_iload_n dX8_see_52 rfl ?_
        obtain ⟨w28, e30, h29⟩ := Option.bind_eq_some_iff.mp h26
        clear h26
        refine wp_iast dX8_see_53 e30 ?_
        refine wp_aload_n dX8_see_54 rfl ?_
        refine wp_dup dX8_see_55 rfl ?_
        obtain ⟨x31, e33, h32⟩ := Option.bind_eq_some_iff.mp h29
        clear h29
        refine wp_getI okX8 (k := 15) (by decide) tw720 dX8_see_56 e33 ?_
        refine wp_iconst (v := (1 : Int32)) dX8_see_59 (by decide) ?_
        refine wp_iadd dX8_see_60 ?_
        obtain ⟨w34, e36, h35⟩ := Option.bind_eq_some_iff.mp h32
        clear h32
        refine wp_putV okX8 (k := 15) (by decide) rfl tw720 dX8_see_61 rfl rfl e36 ?_
        refine wp_aload_n dX8_see_64 rfl ?_
        obtain ⟨x37, e39, h38⟩ := Option.bind_eq_some_iff.mp h35
        clear h35
        refine wp_getI okX8 (k := 15) (by decide) tw720 dX8_see_65 e39 ?_
        cases h38
        exact wp_iret rfl dX8_see_68
      · rw [if_pos c12] at h10
        refine wp_bipush (v := (-3 : Int32)) dX8_see_31 (by decide) ?_
        cases h10
        exact wp_iret rfl dX8_see_33
    · rw [if_pos c8] at h6
      exact WP.wk (BX8_see_20 h6) trivial
def fX8_see (w : XW) (l0 : Nat) (l1 : Int32) (l2 : Int32) : Option (Int32 × XW) := if isO w l0 8 = true then eX8_see w l0 l1 l2 else none
theorem OX8_see {w : XW} {l0 : Nat} {l1 : Int32} {l2 : Int32} {q : Int32 × XW} (h : fX8_see w l0 l1 l2 = some q) : isO w l0 8 = true := Decidable.byContradiction fun z => by unfold fX8_see at h; rw [if_neg z] at h; cases h
theorem MX8_see {K : CX} {l : Launch} {w : XW} {l0 : Nat} {l1 : Int32} {l2 : Int32} {q : Int32 × XW} (h : fX8_see w l0 l1 l2 = some q) : MT K l mX8_see 4 87 [.ref l0, .int l1, .int l2] w (some (.int q.1)) q.2 := by
  have z := OX8_see h
  unfold fX8_see at h
  rw [if_pos z] at h
  exact MT.of (by decide) (Nat.le_of_ble_eq_true rfl) rfl (EX8_see h)
/-! FractionRun.forget()I: frames 1, words 20 -/
abbrev mX7_forget : MR := (⟨"FractionRun", "forget", "()I"⟩, prog_1_method_25_code, 2, (some .int))
theorem dX7_forget_0 : decode prog_1_method_25_code 0 = .ok (.aload_n 0, 1) := by decide +kernel
theorem dX7_forget_1 : decode prog_1_method_25_code 1 = .ok (.getfield 117, 3) := by decide +kernel
theorem dX7_forget_4 : decode prog_1_method_25_code 4 = .ok (.istore_n 1, 1) := by decide +kernel
theorem dX7_forget_5 : decode prog_1_method_25_code 5 = .ok (.aload_n 0, 1) := by decide +kernel
theorem dX7_forget_6 : decode prog_1_method_25_code 6 = .ok (.iconst 0, 1) := by decide +kernel
theorem dX7_forget_7 : decode prog_1_method_25_code 7 = .ok (.putfield 117, 3) := by decide +kernel
theorem dX7_forget_10 : decode prog_1_method_25_code 10 = .ok (.iload_n 1, 1) := by decide +kernel
theorem dX7_forget_11 : decode prog_1_method_25_code 11 = .ok (.ireturn, 1) := by decide +kernel
theorem okM_X7_forget : okM mX7_forget 0 := ⟨tw589, tw1, by decide, by decide, by decide +kernel⟩
def eX7_forget (w : XW) (l0 : Nat) : Option (Int32 × XW) :=
  (gI w l0 7 11).bind fun x1 =>
  (pV w l0 7 11 (.int (0 : Int32))).bind fun w4 =>
  some (x1, w4)
theorem EX7_forget {K : CX} {l : Launch} {n0 k0 : Nat} {w : XW} {l0 : Nat} {q : Int32 × XW} (h0 : eX7_forget w l0 = some q) : WP K l mX7_forget 1 20 n0 k0 (some (.int q.1)) q.2 0 [some (.ref l0), none] [] w := by
  unfold eX7_forget at h0
  refine wp_aload_n dX7_forget_0 rfl ?_
  obtain ⟨x1, e3, h2⟩ := Option.bind_eq_some_iff.mp h0
  clear h0
  refine wp_getI okX7 (k := 11) (by decide) tw309 dX7_forget_1 e3 ?_
  refine wp_istore_n (L1 := [some (.ref l0), some (.int x1)]) dX7_forget_4 (Nat.le_of_ble_eq_true rfl) rfl ?_
  refine wp_aload_n dX7_forget_5 rfl ?_
  refine wp_iconst (v := (0 : Int32)) dX7_forget_6 (by decide) ?_
  obtain ⟨w4, e6, h5⟩ := Option.bind_eq_some_iff.mp h2
  clear h2
  refine wp_putV okX7 (k := 11) (by decide) rfl tw309 dX7_forget_7 rfl rfl e6 ?_
  refine wp_iload_n dX7_forget_10 rfl ?_
  cases h5
  exact wp_iret rfl dX7_forget_11
def fX7_forget (w : XW) (l0 : Nat) : Option (Int32 × XW) := if isO w l0 7 = true then eX7_forget w l0 else none
theorem OX7_forget {w : XW} {l0 : Nat} {q : Int32 × XW} (h : fX7_forget w l0 = some q) : isO w l0 7 = true := Decidable.byContradiction fun z => by unfold fX7_forget at h; rw [if_neg z] at h; cases h
theorem MX7_forget {K : CX} {l : Launch} {w : XW} {l0 : Nat} {q : Int32 × XW} (h : fX7_forget w l0 = some q) : MT K l mX7_forget 1 20 [.ref l0] w (some (.int q.1)) q.2 := by
  have z := OX7_forget h
  unfold fX7_forget at h
  rw [if_pos z] at h
  exact MT.of (by decide) (Nat.le_of_ble_eq_true rfl) rfl (EX7_forget h)
/-! FractionRunModel.forget()I: frames 1, words 20 -/
abbrev mX8_forget : MR := (⟨"FractionRunModel", "forget", "()I"⟩, prog_10_method_58_code, 2, (some .int))
theorem dX8_forget_0 : decode prog_10_method_58_code 0 = .ok (.aload_n 0, 1) := by decide +kernel
theorem dX8_forget_1 : decode prog_10_method_58_code 1 = .ok (.getfield 81, 3) := by decide +kernel
theorem dX8_forget_4 : decode prog_10_method_58_code 4 = .ok (.istore_n 1, 1) := by decide +kernel
theorem dX8_forget_5 : decode prog_10_method_58_code 5 = .ok (.aload_n 0, 1) := by decide +kernel
theorem dX8_forget_6 : decode prog_10_method_58_code 6 = .ok (.iconst 0, 1) := by decide +kernel
theorem dX8_forget_7 : decode prog_10_method_58_code 7 = .ok (.putfield 81, 3) := by decide +kernel
theorem dX8_forget_10 : decode prog_10_method_58_code 10 = .ok (.iload_n 1, 1) := by decide +kernel
theorem dX8_forget_11 : decode prog_10_method_58_code 11 = .ok (.ireturn, 1) := by decide +kernel
theorem okM_X8_forget : okM mX8_forget 0 := ⟨tw1001, tw15, by decide, by decide, by decide +kernel⟩
def eX8_forget (w : XW) (l0 : Nat) : Option (Int32 × XW) :=
  (gI w l0 8 15).bind fun x1 =>
  (pV w l0 8 15 (.int (0 : Int32))).bind fun w4 =>
  some (x1, w4)
theorem EX8_forget {K : CX} {l : Launch} {n0 k0 : Nat} {w : XW} {l0 : Nat} {q : Int32 × XW} (h0 : eX8_forget w l0 = some q) : WP K l mX8_forget 1 20 n0 k0 (some (.int q.1)) q.2 0 [some (.ref l0), none] [] w := by
  unfold eX8_forget at h0
  refine wp_aload_n dX8_forget_0 rfl ?_
  obtain ⟨x1, e3, h2⟩ := Option.bind_eq_some_iff.mp h0
  clear h0
  refine wp_getI okX8 (k := 15) (by decide) tw720 dX8_forget_1 e3 ?_
  refine wp_istore_n (L1 := [some (.ref l0), some (.int x1)]) dX8_forget_4 (Nat.le_of_ble_eq_true rfl) rfl ?_
  refine wp_aload_n dX8_forget_5 rfl ?_
  refine wp_iconst (v := (0 : Int32)) dX8_forget_6 (by decide) ?_
  obtain ⟨w4, e6, h5⟩ := Option.bind_eq_some_iff.mp h2
  clear h2
  refine wp_putV okX8 (k := 15) (by decide) rfl tw720 dX8_forget_7 rfl rfl e6 ?_
  refine wp_iload_n dX8_forget_10 rfl ?_
  cases h5
  exact wp_iret rfl dX8_forget_11
def fX8_forget (w : XW) (l0 : Nat) : Option (Int32 × XW) := if isO w l0 8 = true then eX8_forget w l0 else none
theorem OX8_forget {w : XW} {l0 : Nat} {q : Int32 × XW} (h : fX8_forget w l0 = some q) : isO w l0 8 = true := Decidable.byContradiction fun z => by unfold fX8_forget at h; rw [if_neg z] at h; cases h
theorem MX8_forget {K : CX} {l : Launch} {w : XW} {l0 : Nat} {q : Int32 × XW} (h : fX8_forget w l0 = some q) : MT K l mX8_forget 1 20 [.ref l0] w (some (.int q.1)) q.2 := by
  have z := OX8_forget h
  unfold fX8_forget at h
  rw [if_pos z] at h
  exact MT.of (by decide) (Nat.le_of_ble_eq_true rfl) rfl (EX8_forget h)
/-! FractionRun.useAt(II)I: frames 1, words 20 -/
abbrev mX7_useAt : MR := (⟨"FractionRun", "useAt", "(II)I"⟩, prog_1_method_42_code, 2, (some .int))
theorem dX7_useAt_0 : decode prog_1_method_42_code 0 = .ok (.iload_n 0, 1) := by decide +kernel
theorem dX7_useAt_1 : decode prog_1_method_42_code 1 = .ok (.bipush 61, 2) := by decide +kernel
theorem dX7_useAt_3 : decode prog_1_method_42_code 3 = .ok (.imul, 1) := by decide +kernel
theorem dX7_useAt_4 : decode prog_1_method_42_code 4 = .ok (.iload_n 1, 1) := by decide +kernel
theorem dX7_useAt_5 : decode prog_1_method_42_code 5 = .ok (.iadd, 1) := by decide +kernel
theorem dX7_useAt_6 : decode prog_1_method_42_code 6 = .ok (.ireturn, 1) := by decide +kernel
theorem okM_X7_useAt : okM mX7_useAt 2 := ⟨tw600, tw1, by decide, by decide, by decide +kernel⟩
def eX7_useAt (w : XW) (l0 : Int32) (l1 : Int32) : Option (Int32 × XW) :=
  some (((l0 * (61 : Int32)) + l1), w)
theorem EX7_useAt {K : CX} {l : Launch} {n0 k0 : Nat} {w : XW} {l0 : Int32} {l1 : Int32} {q : Int32 × XW} (h0 : eX7_useAt w l0 l1 = some q) : WP K l mX7_useAt 1 20 n0 k0 (some (.int q.1)) q.2 0 [some (.int l0), some (.int l1)] [] w := by
  unfold eX7_useAt at h0
  refine wp_iload_n dX7_useAt_0 rfl ?_
  refine wp_bipush (v := (61 : Int32)) dX7_useAt_1 (by decide) ?_
  refine wp_imul dX7_useAt_3 ?_
  refine wp_iload_n dX7_useAt_4 rfl ?_
  refine wp_iadd dX7_useAt_5 ?_
  cases h0
  exact wp_iret rfl dX7_useAt_6
def fX7_useAt (w : XW) (l0 : Int32) (l1 : Int32) : Option (Int32 × XW) := eX7_useAt w l0 l1
theorem MX7_useAt {K : CX} {l : Launch} {w : XW} {l0 : Int32} {l1 : Int32} {q : Int32 × XW} (h : fX7_useAt w l0 l1 = some q) : MT K l mX7_useAt 1 20 [.int l0, .int l1] w (some (.int q.1)) q.2 := by
  unfold fX7_useAt at h
  exact MT.of (by decide) (Nat.le_of_ble_eq_true rfl) rfl (EX7_useAt h)
/-! FractionRun.tellsWhatWasSeen(I)Z: frames 2, words 41 -/
abbrev mX7_tellsWhatWasSeen : MR := (⟨"FractionRun", "tellsWhatWasSeen", "(I)Z"⟩, prog_1_method_43_code, 3, (some .boolean))
theorem dX7_tellsWhatWasSeen_0 : decode prog_1_method_43_code 0 = .ok (.iconst 0, 1) := by decide +kernel
theorem dX7_tellsWhatWasSeen_1 : decode prog_1_method_43_code 1 = .ok (.istore_n 2, 1) := by decide +kernel
theorem dX7_tellsWhatWasSeen_2 : decode prog_1_method_43_code 2 = .ok (.iload_n 2, 1) := by decide +kernel
theorem dX7_tellsWhatWasSeen_3 : decode prog_1_method_43_code 3 = .ok (.aload_n 0, 1) := by decide +kernel
theorem dX7_tellsWhatWasSeen_4 : decode prog_1_method_43_code 4 = .ok (.getfield 117, 3) := by decide +kernel
theorem dX7_tellsWhatWasSeen_7 : decode prog_1_method_43_code 7 = .ok (.if_icmp .ge 35, 3) := by decide +kernel
theorem dX7_tellsWhatWasSeen_10 : decode prog_1_method_43_code 10 = .ok (.aload_n 0, 1) := by decide +kernel
theorem dX7_tellsWhatWasSeen_11 : decode prog_1_method_43_code 11 = .ok (.getfield 67, 3) := by decide +kernel
theorem dX7_tellsWhatWasSeen_14 : decode prog_1_method_43_code 14 = .ok (.iload_n 1, 1) := by decide +kernel
theorem dX7_tellsWhatWasSeen_15 : decode prog_1_method_43_code 15 = .ok (.aload_n 0, 1) := by decide +kernel
theorem dX7_tellsWhatWasSeen_16 : decode prog_1_method_43_code 16 = .ok (.getfield 60, 3) := by decide +kernel
theorem dX7_tellsWhatWasSeen_19 : decode prog_1_method_43_code 19 = .ok (.iload_n 2, 1) := by decide +kernel
theorem dX7_tellsWhatWasSeen_20 : decode prog_1_method_43_code 20 = .ok (.iaload, 1) := by decide +kernel
theorem dX7_tellsWhatWasSeen_21 : decode prog_1_method_43_code 21 = .ok (.invokestatic 302, 3) := by decide +kernel
theorem dX7_tellsWhatWasSeen_24 : decode prog_1_method_43_code 24 = .ok (.iaload, 1) := by decide +kernel
theorem dX7_tellsWhatWasSeen_25 : decode prog_1_method_43_code 25 = .ok (.aload_n 0, 1) := by decide +kernel
theorem dX7_tellsWhatWasSeen_26 : decode prog_1_method_43_code 26 = .ok (.getfield 64, 3) := by decide +kernel
theorem dX7_tellsWhatWasSeen_29 : decode prog_1_method_43_code 29 = .ok (.iload_n 2, 1) := by decide +kernel
theorem dX7_tellsWhatWasSeen_30 : decode prog_1_method_43_code 30 = .ok (.iaload, 1) := by decide +kernel
theorem dX7_tellsWhatWasSeen_31 : decode prog_1_method_43_code 31 = .ok (.if_icmp .eq 5, 3) := by decide +kernel
theorem dX7_tellsWhatWasSeen_34 : decode prog_1_method_43_code 34 = .ok (.iconst 0, 1) := by decide +kernel
theorem dX7_tellsWhatWasSeen_35 : decode prog_1_method_43_code 35 = .ok (.ireturn, 1) := by decide +kernel
theorem dX7_tellsWhatWasSeen_36 : decode prog_1_method_43_code 36 = .ok (.iinc 2 1, 3) := by decide +kernel
theorem dX7_tellsWhatWasSeen_39 : decode prog_1_method_43_code 39 = .ok (.goto (-37), 3) := by decide +kernel
theorem dX7_tellsWhatWasSeen_42 : decode prog_1_method_43_code 42 = .ok (.iconst 1, 1) := by decide +kernel
theorem dX7_tellsWhatWasSeen_43 : decode prog_1_method_43_code 43 = .ok (.ireturn, 1) := by decide +kernel
theorem okM_X7_tellsWhatWasSeen : okM mX7_tellsWhatWasSeen 1 := ⟨tw604, tw1, by decide, by decide, by decide +kernel⟩
abbrev KTX7_tellsWhatWasSeen : Type := (XW → Nat → Int32 → Int32 → Option (Int32 × XW))
def hX7_tellsWhatWasSeen_2 (k : KTX7_tellsWhatWasSeen) (w : XW) (l0 : Nat) (l1 : Int32) (l2 : Int32) : Option (Int32 × XW) :=
  (gI w l0 7 11).bind fun x1 =>
  if x1 ≤ l2 then
  some ((1 : Int32), w)
  else
  (gR w l0 7 12).bind fun x5 =>
  (gR w l0 7 9).bind fun x8 =>
  (aI w 0 x8 l2).bind fun x11 =>
  (fX7_useAt w l1 x11).bind fun q14 =>
  (aI q14.2 0 x5 q14.1).bind fun x17 =>
  (gR q14.2 l0 7 10).bind fun x20 =>
  (aI q14.2 0 x20 l2).bind fun x23 =>
  if x17 = x23 then
  k q14.2 l0 l1 (l2 + (1 : Int32))
  else
  some ((0 : Int32), q14.2)
theorem HX7_tellsWhatWasSeen_2 {K : CX} {l : Launch} {n0 k0 : Nat} {k : KTX7_tellsWhatWasSeen} (hk0 : ∀ (w : XW) (l0 : Nat) (l1 : Int32) (l2 : Int32) (q : Int32 × XW), k w l0 l1 l2 = some q → WP K l mX7_tellsWhatWasSeen 2 41 n0 k0 (some (.int q.1)) q.2 2 [some (.ref l0), some (.int l1), some (.int l2)] [] w) {w : XW} {l0 : Nat} {l1 : Int32} {l2 : Int32} {q : Int32 × XW} (h0 : hX7_tellsWhatWasSeen_2 k w l0 l1 l2 = some q) : WP K l mX7_tellsWhatWasSeen 2 41 n0 k0 (some (.int q.1)) q.2 2 [some (.ref l0), some (.int l1), some (.int l2)] [] w := by
  unfold hX7_tellsWhatWasSeen_2 at h0
  refine wp_iload_n dX7_tellsWhatWasSeen_2 rfl ?_
  refine wp_aload_n dX7_tellsWhatWasSeen_3 rfl ?_
  obtain ⟨x1, e3, h2⟩ := Option.bind_eq_some_iff.mp h0
  clear h0
  refine wp_getI okX7 (k := 11) (by decide) tw309 dX7_tellsWhatWasSeen_4 e3 ?_
  refine wp_icmp_ge (tgt := 42) dX7_tellsWhatWasSeen_7 (by decide) (fun c4 => ?_) (fun c4 => ?_)
  · rw [if_pos c4] at h2
    refine wp_iconst (v := (1 : Int32)) dX7_tellsWhatWasSeen_42 (by decide) ?_
    cases h2
    exact wp_zret (x := (1 : Int32)) rfl narrow_b1 dX7_tellsWhatWasSeen_43
  · rw [if_neg c4] at h2
    refine wp_aload_n dX7_tellsWhatWasSeen_10 rfl ?_
    obtain ⟨x5, e7, h6⟩ := Option.bind_eq_some_iff.mp h2
    clear h2
    refine wp_getR okX7 (k := 12) (by decide) tw310 dX7_tellsWhatWasSeen_11 e7 ?_
    refine wp_iload_n dX7_tellsWhatWasSeen_14 rfl ?_
    refine wp_aload_n dX7_tellsWhatWasSeen_15 rfl ?_
    obtain ⟨x8, e10, h9⟩ := Option.bind_eq_some_iff.mp h6
    clear h6
    refine wp_getR okX7 (k := 9) (by decide) tw307 dX7_tellsWhatWasSeen_16 e10 ?_
    refine wp_iload_n dX7_tellsWhatWasSeen_19 rfl ?_
    obtain ⟨x11, e13, h12⟩ := Option.bind_eq_some_iff.mp h9
    clear h9
    refine wp_iald dX7_tellsWhatWasSeen_20 e13 ?_
    obtain ⟨q14, e16, h15⟩ := Option.bind_eq_some_iff.mp h12
    clear h12
    refine wp_Si (As := [.int l1, .int x11]) (S := [.ref x5]) okM_X7_useAt tw599 tw598 rfl ⟨(Nat.le_of_ble_eq_true rfl), (Nat.le_of_ble_eq_true rfl)⟩ (Nat.le_of_ble_eq_true rfl) rfl dX7_tellsWhatWasSeen_21 (MX7_useAt e16) ?_
    obtain ⟨x17, e19, h18⟩ := Option.bind_eq_some_iff.mp h15
    clear h15
    refine wp_iald dX7_tellsWhatWasSeen_24 e19 ?_
    refine wp_aload_n dX7_tellsWhatWasSeen_25 rfl ?_
    obtain ⟨x20, e22, h21⟩ := Option.bind_eq_some_iff.mp h18
    clear h18
    refine wp_getR okX7 (k := 10) (by decide) tw308 dX7_tellsWhatWasSeen_26 e22 ?_
    refine wp_iload_n dX7_tellsWhatWasSeen_29 rfl ?_
    obtain ⟨x23, e25, h24⟩ := Option.bind_eq_some_iff.mp h21
    clear h21
    refine wp_iald dX7_tellsWhatWasSeen_30 e25 ?_
    refine wp_icmp_eq (tgt := 36) dX7_tellsWhatWasSeen_31 (by decide) (fun c26 => ?_) (fun c26 => ?_)
    · rw [if_pos c26] at h24
      refine wp_iinc (v := (l2 + (1 : Int32))) (L1 := [some (.ref l0), some (.int l1), some (.int (l2 + (1 : Int32)))]) dX7_tellsWhatWasSeen_36 (Nat.le_of_ble_eq_true rfl) rfl (congrArg (fun z => l2 + z) (by decide)) rfl ?_
      refine wp_goto (tgt := 2) dX7_tellsWhatWasSeen_39 (by decide) ?_
      exact WP.wk (hk0 _ _ _ _ _ h24) (And.intro rfl (And.intro rfl (And.intro rfl trivial)))
    · rw [if_neg c26] at h24
      refine wp_iconst (v := (0 : Int32)) dX7_tellsWhatWasSeen_34 (by decide) ?_
      cases h24
      exact wp_zret (x := (0 : Int32)) rfl narrow_b0 dX7_tellsWhatWasSeen_35
def eX7_tellsWhatWasSeen (k : KTX7_tellsWhatWasSeen) (w : XW) (l0 : Nat) (l1 : Int32) : Option (Int32 × XW) :=
  k w l0 l1 (0 : Int32)
theorem EX7_tellsWhatWasSeen {K : CX} {l : Launch} {n0 k0 : Nat} {k : KTX7_tellsWhatWasSeen} (hk0 : ∀ (w : XW) (l0 : Nat) (l1 : Int32) (l2 : Int32) (q : Int32 × XW), k w l0 l1 l2 = some q → WP K l mX7_tellsWhatWasSeen 2 41 n0 k0 (some (.int q.1)) q.2 2 [some (.ref l0), some (.int l1), some (.int l2)] [] w) {w : XW} {l0 : Nat} {l1 : Int32} {q : Int32 × XW} (h0 : eX7_tellsWhatWasSeen k w l0 l1 = some q) : WP K l mX7_tellsWhatWasSeen 2 41 n0 k0 (some (.int q.1)) q.2 0 [some (.ref l0), some (.int l1), none] [] w := by
  unfold eX7_tellsWhatWasSeen at h0
  refine wp_iconst (v := (0 : Int32)) dX7_tellsWhatWasSeen_0 (by decide) ?_
  refine wp_istore_n (L1 := [some (.ref l0), some (.int l1), some (.int (0 : Int32))]) dX7_tellsWhatWasSeen_1 (Nat.le_of_ble_eq_true rfl) rfl ?_
  exact WP.wk (hk0 _ _ _ _ _ h0) (And.intro rfl (And.intro rfl (And.intro rfl trivial)))
def loX7_tellsWhatWasSeen : Nat → KTX7_tellsWhatWasSeen
  | 0 => fun _ _ _ _ => none
  | n + 1 => hX7_tellsWhatWasSeen_2 (loX7_tellsWhatWasSeen n)
theorem LOX7_tellsWhatWasSeen {K : CX} {l : Launch} {n0 k0 : Nat} : ∀ n : Nat, (∀ (w : XW) (l0 : Nat) (l1 : Int32) (l2 : Int32) (q : Int32 × XW), (loX7_tellsWhatWasSeen n) w l0 l1 l2 = some q → WP K l mX7_tellsWhatWasSeen 2 41 n0 k0 (some (.int q.1)) q.2 2 [some (.ref l0), some (.int l1), some (.int l2)] [] w) := by
  intro n
  induction n with
  | zero => exact fun _ _ _ _ q h => (by cases h)
  | succ n ih => exact fun _ _ _ _ q h => HX7_tellsWhatWasSeen_2 ih h
def fX7_tellsWhatWasSeen (w : XW) (l0 : Nat) (l1 : Int32) : Option (Int32 × XW) := if isO w l0 7 = true then eX7_tellsWhatWasSeen (loX7_tellsWhatWasSeen FU) w l0 l1 else none
theorem OX7_tellsWhatWasSeen {w : XW} {l0 : Nat} {l1 : Int32} {q : Int32 × XW} (h : fX7_tellsWhatWasSeen w l0 l1 = some q) : isO w l0 7 = true := Decidable.byContradiction fun z => by unfold fX7_tellsWhatWasSeen at h; rw [if_neg z] at h; cases h
theorem MX7_tellsWhatWasSeen {K : CX} {l : Launch} {w : XW} {l0 : Nat} {l1 : Int32} {q : Int32 × XW} (h : fX7_tellsWhatWasSeen w l0 l1 = some q) : MT K l mX7_tellsWhatWasSeen 2 41 [.ref l0, .int l1] w (some (.int q.1)) q.2 := by
  have z := OX7_tellsWhatWasSeen h
  unfold fX7_tellsWhatWasSeen at h
  rw [if_pos z] at h
  exact MT.of (by decide) (Nat.le_of_ble_eq_true rfl) rfl (EX7_tellsWhatWasSeen (LOX7_tellsWhatWasSeen FU) h)
