/-! FractionRunModel.order(I)I: frames 7, words 162 -/
abbrev mX8_order : MR := (⟨"FractionRunModel", "order", "(I)I"⟩, prog_10_method_50_code, 9, (some .int))
theorem dX8_order_0 : decode prog_10_method_50_code 0 = .ok (.iload_n 1, 1) := by decide +kernel
theorem dX8_order_1 : decode prog_10_method_50_code 1 = .ok (.i2l, 1) := by decide +kernel
theorem dX8_order_2 : decode prog_10_method_50_code 2 = .ok (.ldc2_w 206, 3) := by decide +kernel
theorem dX8_order_5 : decode prog_10_method_50_code 5 = .ok (.ldc2_w 208, 3) := by decide +kernel
theorem dX8_order_8 : decode prog_10_method_50_code 8 = .ok (.invokestatic 88, 3) := by decide +kernel
theorem dX8_order_11 : decode prog_10_method_50_code 11 = .ok (.ifCond .ne 5, 3) := by decide +kernel
theorem dX8_order_14 : decode prog_10_method_50_code 14 = .ok (.iconst (-1), 1) := by decide +kernel
theorem dX8_order_15 : decode prog_10_method_50_code 15 = .ok (.ireturn, 1) := by decide +kernel
theorem dX8_order_16 : decode prog_10_method_50_code 16 = .ok (.aload_n 0, 1) := by decide +kernel
theorem dX8_order_17 : decode prog_10_method_50_code 17 = .ok (.getfield 25, 3) := by decide +kernel
theorem dX8_order_20 : decode prog_10_method_50_code 20 = .ok (.bipush 14, 2) := by decide +kernel
theorem dX8_order_22 : decode prog_10_method_50_code 22 = .ok (.iaload, 1) := by decide +kernel
theorem dX8_order_23 : decode prog_10_method_50_code 23 = .ok (.istore_n 2, 1) := by decide +kernel
theorem dX8_order_24 : decode prog_10_method_50_code 24 = .ok (.iload_n 2, 1) := by decide +kernel
theorem dX8_order_25 : decode prog_10_method_50_code 25 = .ok (.iconst 5, 1) := by decide +kernel
theorem dX8_order_26 : decode prog_10_method_50_code 26 = .ok (.if_icmp .gt 8, 3) := by decide +kernel
theorem dX8_order_29 : decode prog_10_method_50_code 29 = .ok (.iload_n 1, 1) := by decide +kernel
theorem dX8_order_30 : decode prog_10_method_50_code 30 = .ok (.iload_n 2, 1) := by decide +kernel
theorem dX8_order_31 : decode prog_10_method_50_code 31 = .ok (.if_icmp .lt 6, 3) := by decide +kernel
theorem dX8_order_34 : decode prog_10_method_50_code 34 = .ok (.bipush (-4), 2) := by decide +kernel
theorem dX8_order_36 : decode prog_10_method_50_code 36 = .ok (.ireturn, 1) := by decide +kernel
theorem dX8_order_37 : decode prog_10_method_50_code 37 = .ok (.iconst 0, 1) := by decide +kernel
theorem dX8_order_38 : decode prog_10_method_50_code 38 = .ok (.istore_n 3, 1) := by decide +kernel
theorem dX8_order_39 : decode prog_10_method_50_code 39 = .ok (.iconst 0, 1) := by decide +kernel
theorem dX8_order_40 : decode prog_10_method_50_code 40 = .ok (.istore 4, 2) := by decide +kernel
theorem dX8_order_42 : decode prog_10_method_50_code 42 = .ok (.iload 4, 2) := by decide +kernel
theorem dX8_order_44 : decode prog_10_method_50_code 44 = .ok (.aload_n 0, 1) := by decide +kernel
theorem dX8_order_45 : decode prog_10_method_50_code 45 = .ok (.getfield 72, 3) := by decide +kernel
theorem dX8_order_48 : decode prog_10_method_50_code 48 = .ok (.if_icmp .ge 30, 3) := by decide +kernel
theorem dX8_order_51 : decode prog_10_method_50_code 51 = .ok (.aload_n 0, 1) := by decide +kernel
theorem dX8_order_52 : decode prog_10_method_50_code 52 = .ok (.iconst 0, 1) := by decide +kernel
theorem dX8_order_53 : decode prog_10_method_50_code 53 = .ok (.iload 4, 2) := by decide +kernel
theorem dX8_order_55 : decode prog_10_method_50_code 55 = .ok (.invokevirtual 167, 3) := by decide +kernel
theorem dX8_order_58 : decode prog_10_method_50_code 58 = .ok (.ifCond .lt 14, 3) := by decide +kernel
theorem dX8_order_61 : decode prog_10_method_50_code 61 = .ok (.aload_n 0, 1) := by decide +kernel
theorem dX8_order_62 : decode prog_10_method_50_code 62 = .ok (.getfield 41, 3) := by decide +kernel
theorem dX8_order_65 : decode prog_10_method_50_code 65 = .ok (.iload_n 3, 1) := by decide +kernel
theorem dX8_order_66 : decode prog_10_method_50_code 66 = .ok (.iload 4, 2) := by decide +kernel
theorem dX8_order_68 : decode prog_10_method_50_code 68 = .ok (.iastore, 1) := by decide +kernel
theorem dX8_order_69 : decode prog_10_method_50_code 69 = .ok (.iinc 3 1, 3) := by decide +kernel
theorem dX8_order_72 : decode prog_10_method_50_code 72 = .ok (.iinc 4 1, 3) := by decide +kernel
theorem dX8_order_75 : decode prog_10_method_50_code 75 = .ok (.goto (-33), 3) := by decide +kernel
theorem dX8_order_78 : decode prog_10_method_50_code 78 = .ok (.iconst 1, 1) := by decide +kernel
theorem dX8_order_79 : decode prog_10_method_50_code 79 = .ok (.istore 4, 2) := by decide +kernel
theorem dX8_order_81 : decode prog_10_method_50_code 81 = .ok (.iconst 2, 1) := by decide +kernel
theorem dX8_order_82 : decode prog_10_method_50_code 82 = .ok (.istore 5, 2) := by decide +kernel
theorem dX8_order_84 : decode prog_10_method_50_code 84 = .ok (.iload 5, 2) := by decide +kernel
theorem dX8_order_86 : decode prog_10_method_50_code 86 = .ok (.iload_n 2, 1) := by decide +kernel
theorem dX8_order_87 : decode prog_10_method_50_code 87 = .ok (.if_icmp .gt 16, 3) := by decide +kernel
theorem dX8_order_90 : decode prog_10_method_50_code 90 = .ok (.iload 4, 2) := by decide +kernel
theorem dX8_order_92 : decode prog_10_method_50_code 92 = .ok (.iload 5, 2) := by decide +kernel
theorem dX8_order_94 : decode prog_10_method_50_code 94 = .ok (.imul, 1) := by decide +kernel
theorem dX8_order_95 : decode prog_10_method_50_code 95 = .ok (.istore 4, 2) := by decide +kernel
theorem dX8_order_97 : decode prog_10_method_50_code 97 = .ok (.iinc 5 1, 3) := by decide +kernel
theorem dX8_order_100 : decode prog_10_method_50_code 100 = .ok (.goto (-16), 3) := by decide +kernel
theorem dX8_order_103 : decode prog_10_method_50_code 103 = .ok (.sipush 999, 3) := by decide +kernel
theorem dX8_order_106 : decode prog_10_method_50_code 106 = .ok (.istore 5, 2) := by decide +kernel
theorem dX8_order_108 : decode prog_10_method_50_code 108 = .ok (.iconst 0, 1) := by decide +kernel
theorem dX8_order_109 : decode prog_10_method_50_code 109 = .ok (.istore 6, 2) := by decide +kernel
theorem dX8_order_111 : decode prog_10_method_50_code 111 = .ok (.iload 6, 2) := by decide +kernel
theorem dX8_order_113 : decode prog_10_method_50_code 113 = .ok (.iload 4, 2) := by decide +kernel
theorem dX8_order_115 : decode prog_10_method_50_code 115 = .ok (.if_icmp .ge 141, 3) := by decide +kernel
theorem dX8_order_118 : decode prog_10_method_50_code 118 = .ok (.aload_n 0, 1) := by decide +kernel
theorem dX8_order_119 : decode prog_10_method_50_code 119 = .ok (.iconst 0, 1) := by decide +kernel
theorem dX8_order_120 : decode prog_10_method_50_code 120 = .ok (.sipush 198, 3) := by decide +kernel
theorem dX8_order_123 : decode prog_10_method_50_code 123 = .ok (.invokevirtual 155, 3) := by decide +kernel
theorem dX8_order_126 : decode prog_10_method_50_code 126 = .ok (.aload_n 0, 1) := by decide +kernel
theorem dX8_order_127 : decode prog_10_method_50_code 127 = .ok (.sipush 198, 3) := by decide +kernel
theorem dX8_order_130 : decode prog_10_method_50_code 130 = .ok (.iload 6, 2) := by decide +kernel
theorem dX8_order_132 : decode prog_10_method_50_code 132 = .ok (.iload_n 2, 1) := by decide +kernel
theorem dX8_order_133 : decode prog_10_method_50_code 133 = .ok (.invokevirtual 210, 3) := by decide +kernel
theorem dX8_order_136 : decode prog_10_method_50_code 136 = .ok (.iconst 0, 1) := by decide +kernel
theorem dX8_order_137 : decode prog_10_method_50_code 137 = .ok (.istore 7, 2) := by decide +kernel
theorem dX8_order_139 : decode prog_10_method_50_code 139 = .ok (.iload 7, 2) := by decide +kernel
theorem dX8_order_141 : decode prog_10_method_50_code 141 = .ok (.iload_n 2, 1) := by decide +kernel
theorem dX8_order_142 : decode prog_10_method_50_code 142 = .ok (.if_icmp .ge 50, 3) := by decide +kernel
theorem dX8_order_145 : decode prog_10_method_50_code 145 = .ok (.aload_n 0, 1) := by decide +kernel
theorem dX8_order_146 : decode prog_10_method_50_code 146 = .ok (.getfield 44, 3) := by decide +kernel
theorem dX8_order_149 : decode prog_10_method_50_code 149 = .ok (.iload 7, 2) := by decide +kernel
theorem dX8_order_151 : decode prog_10_method_50_code 151 = .ok (.iload 5, 2) := by decide +kernel
theorem dX8_order_153 : decode prog_10_method_50_code 153 = .ok (.sipush 999, 3) := by decide +kernel
theorem dX8_order_156 : decode prog_10_method_50_code 156 = .ok (.if_icmp .ne 22, 3) := by decide +kernel
theorem dX8_order_159 : decode prog_10_method_50_code 159 = .ok (.iload 6, 2) := by decide +kernel
theorem dX8_order_161 : decode prog_10_method_50_code 161 = .ok (.ifCond .ne 17, 3) := by decide +kernel
theorem dX8_order_164 : decode prog_10_method_50_code 164 = .ok (.aload_n 0, 1) := by decide +kernel
theorem dX8_order_165 : decode prog_10_method_50_code 165 = .ok (.getfield 25, 3) := by decide +kernel
theorem dX8_order_168 : decode prog_10_method_50_code 168 = .ok (.sipush 204, 3) := by decide +kernel
theorem dX8_order_171 : decode prog_10_method_50_code 171 = .ok (.iload 7, 2) := by decide +kernel
theorem dX8_order_173 : decode prog_10_method_50_code 173 = .ok (.iadd, 1) := by decide +kernel
theorem dX8_order_174 : decode prog_10_method_50_code 174 = .ok (.iaload, 1) := by decide +kernel
theorem dX8_order_175 : decode prog_10_method_50_code 175 = .ok (.goto 10, 3) := by decide +kernel
theorem dX8_order_178 : decode prog_10_method_50_code 178 = .ok (.aload_n 0, 1) := by decide +kernel
theorem dX8_order_179 : decode prog_10_method_50_code 179 = .ok (.getfield 44, 3) := by decide +kernel
theorem dX8_order_182 : decode prog_10_method_50_code 182 = .ok (.iload 7, 2) := by decide +kernel
theorem dX8_order_184 : decode prog_10_method_50_code 184 = .ok (.iaload, 1) := by decide +kernel
theorem dX8_order_185 : decode prog_10_method_50_code 185 = .ok (.iastore, 1) := by decide +kernel
theorem dX8_order_186 : decode prog_10_method_50_code 186 = .ok (.iinc 7 1, 3) := by decide +kernel
theorem dX8_order_189 : decode prog_10_method_50_code 189 = .ok (.goto (-50), 3) := by decide +kernel
theorem dX8_order_192 : decode prog_10_method_50_code 192 = .ok (.aload_n 0, 1) := by decide +kernel
theorem dX8_order_193 : decode prog_10_method_50_code 193 = .ok (.sipush 198, 3) := by decide +kernel
theorem dX8_order_196 : decode prog_10_method_50_code 196 = .ok (.invokevirtual 193, 3) := by decide +kernel
theorem dX8_order_199 : decode prog_10_method_50_code 199 = .ok (.istore 7, 2) := by decide +kernel
theorem dX8_order_201 : decode prog_10_method_50_code 201 = .ok (.iload 7, 2) := by decide +kernel
theorem dX8_order_203 : decode prog_10_method_50_code 203 = .ok (.ifCond .lt 47, 3) := by decide +kernel
theorem dX8_order_206 : decode prog_10_method_50_code 206 = .ok (.iload 7, 2) := by decide +kernel
theorem dX8_order_208 : decode prog_10_method_50_code 208 = .ok (.iload 5, 2) := by decide +kernel
theorem dX8_order_210 : decode prog_10_method_50_code 210 = .ok (.if_icmp .ge 40, 3) := by decide +kernel
theorem dX8_order_213 : decode prog_10_method_50_code 213 = .ok (.iload 7, 2) := by decide +kernel
theorem dX8_order_215 : decode prog_10_method_50_code 215 = .ok (.istore 5, 2) := by decide +kernel
theorem dX8_order_217 : decode prog_10_method_50_code 217 = .ok (.iconst 0, 1) := by decide +kernel
theorem dX8_order_218 : decode prog_10_method_50_code 218 = .ok (.istore 8, 2) := by decide +kernel
theorem dX8_order_220 : decode prog_10_method_50_code 220 = .ok (.iload 8, 2) := by decide +kernel
theorem dX8_order_222 : decode prog_10_method_50_code 222 = .ok (.iload_n 2, 1) := by decide +kernel
theorem dX8_order_223 : decode prog_10_method_50_code 223 = .ok (.if_icmp .ge 27, 3) := by decide +kernel
theorem dX8_order_226 : decode prog_10_method_50_code 226 = .ok (.aload_n 0, 1) := by decide +kernel
theorem dX8_order_227 : decode prog_10_method_50_code 227 = .ok (.getfield 44, 3) := by decide +kernel
theorem dX8_order_230 : decode prog_10_method_50_code 230 = .ok (.iload 8, 2) := by decide +kernel
theorem dX8_order_232 : decode prog_10_method_50_code 232 = .ok (.aload_n 0, 1) := by decide +kernel
theorem dX8_order_233 : decode prog_10_method_50_code 233 = .ok (.getfield 25, 3) := by decide +kernel
theorem dX8_order_236 : decode prog_10_method_50_code 236 = .ok (.sipush 204, 3) := by decide +kernel
theorem dX8_order_239 : decode prog_10_method_50_code 239 = .ok (.iload 8, 2) := by decide +kernel
theorem dX8_order_241 : decode prog_10_method_50_code 241 = .ok (.iadd, 1) := by decide +kernel
theorem dX8_order_242 : decode prog_10_method_50_code 242 = .ok (.iaload, 1) := by decide +kernel
theorem dX8_order_243 : decode prog_10_method_50_code 243 = .ok (.iastore, 1) := by decide +kernel
theorem dX8_order_244 : decode prog_10_method_50_code 244 = .ok (.iinc 8 1, 3) := by decide +kernel
theorem dX8_order_247 : decode prog_10_method_50_code 247 = .ok (.goto (-27), 3) := by decide +kernel
theorem dX8_order_250 : decode prog_10_method_50_code 250 = .ok (.iinc 6 1, 3) := by decide +kernel
theorem dX8_order_253 : decode prog_10_method_50_code 253 = .ok (.goto (-142), 3) := by decide +kernel
theorem dX8_order_256 : decode prog_10_method_50_code 256 = .ok (.iload 5, 2) := by decide +kernel
theorem dX8_order_258 : decode prog_10_method_50_code 258 = .ok (.sipush 999, 3) := by decide +kernel
theorem dX8_order_261 : decode prog_10_method_50_code 261 = .ok (.if_icmp .ne 8, 3) := by decide +kernel
theorem dX8_order_264 : decode prog_10_method_50_code 264 = .ok (.bipush (-4), 2) := by decide +kernel
theorem dX8_order_266 : decode prog_10_method_50_code 266 = .ok (.goto 18, 3) := by decide +kernel
theorem dX8_order_269 : decode prog_10_method_50_code 269 = .ok (.iload_n 1, 1) := by decide +kernel
theorem dX8_order_270 : decode prog_10_method_50_code 270 = .ok (.ifCond .ge 8, 3) := by decide +kernel
theorem dX8_order_273 : decode prog_10_method_50_code 273 = .ok (.iload 5, 2) := by decide +kernel
theorem dX8_order_275 : decode prog_10_method_50_code 275 = .ok (.goto 9, 3) := by decide +kernel
theorem dX8_order_278 : decode prog_10_method_50_code 278 = .ok (.aload_n 0, 1) := by decide +kernel
theorem dX8_order_279 : decode prog_10_method_50_code 279 = .ok (.getfield 44, 3) := by decide +kernel
theorem dX8_order_282 : decode prog_10_method_50_code 282 = .ok (.iload_n 1, 1) := by decide +kernel
theorem dX8_order_283 : decode prog_10_method_50_code 283 = .ok (.iaload, 1) := by decide +kernel
theorem dX8_order_284 : decode prog_10_method_50_code 284 = .ok (.ireturn, 1) := by decide +kernel
theorem okM_X8_order : okM mX8_order 1 := ⟨tw961, tw15, by decide, by decide, by decide +kernel⟩
abbrev KTX8_order : Type := (XW → Nat → Int32 → Int32 → Int32 → Int32 → Option (Int32 × XW)) × (XW → Nat → Int32 → Int32 → Int32 → Int32 → Option (Int32 × XW)) × (XW → Nat → Int32 → Int32 → Int32 → Int32 → Int32 → Option (Int32 × XW)) × (XW → Nat → Int32 → Int32 → Int32 → Int32 → Int32 → Int32 → Option (Int32 × XW)) × (XW → Nat → Int32 → Int32 → Int32 → Int32 → Int32 → Int32 → Option (Int32 × XW))
def bX8_order_284 (k : KTX8_order) (w : XW) (s0 : Int32) : Option (Int32 × XW) :=
  some (s0, w)
theorem BX8_order_284 {K : CX} {l : Launch} {n0 k0 : Nat} {k : KTX8_order} (hk0 : ∀ (w : XW) (l0 : Nat) (l1 : Int32) (l2 : Int32) (l3 : Int32) (l4 : Int32) (q : Int32 × XW), k.1 w l0 l1 l2 l3 l4 = some q → WP K l mX8_order 7 162 n0 k0 (some (.int q.1)) q.2 42 [some (.ref l0), some (.int l1), some (.int l2), some (.int l3), some (.int l4), none, none, none, none] [] w) (hk1 : ∀ (w : XW) (l0 : Nat) (l1 : Int32) (l2 : Int32) (l4 : Int32) (l5 : Int32) (q : Int32 × XW), k.2.1 w l0 l1 l2 l4 l5 = some q → WP K l mX8_order 7 162 n0 k0 (some (.int q.1)) q.2 84 [some (.ref l0), some (.int l1), some (.int l2), none, some (.int l4), some (.int l5), none, none, none] [] w) (hk2 : ∀ (w : XW) (l0 : Nat) (l1 : Int32) (l2 : Int32) (l4 : Int32) (l5 : Int32) (l6 : Int32) (q : Int32 × XW), k.2.2.1 w l0 l1 l2 l4 l5 l6 = some q → WP K l mX8_order 7 162 n0 k0 (some (.int q.1)) q.2 111 [some (.ref l0), some (.int l1), some (.int l2), none, some (.int l4), some (.int l5), some (.int l6), none, none] [] w) (hk3 : ∀ (w : XW) (l0 : Nat) (l1 : Int32) (l2 : Int32) (l4 : Int32) (l5 : Int32) (l6 : Int32) (l7 : Int32) (q : Int32 × XW), k.2.2.2.1 w l0 l1 l2 l4 l5 l6 l7 = some q → WP K l mX8_order 7 162 n0 k0 (some (.int q.1)) q.2 139 [some (.ref l0), some (.int l1), some (.int l2), none, some (.int l4), some (.int l5), some (.int l6), some (.int l7), none] [] w) (hk4 : ∀ (w : XW) (l0 : Nat) (l1 : Int32) (l2 : Int32) (l4 : Int32) (l5 : Int32) (l6 : Int32) (l8 : Int32) (q : Int32 × XW), k.2.2.2.2 w l0 l1 l2 l4 l5 l6 l8 = some q → WP K l mX8_order 7 162 n0 k0 (some (.int q.1)) q.2 220 [some (.ref l0), some (.int l1), some (.int l2), none, some (.int l4), some (.int l5), some (.int l6), none, some (.int l8)] [] w) {w : XW} {s0 : Int32} {q : Int32 × XW} (h0 : bX8_order_284 k w s0 = some q) : WP K l mX8_order 7 162 n0 k0 (some (.int q.1)) q.2 284 [none, none, none, none, none, none, none, none, none] [.int s0] w := by
  unfold bX8_order_284 at h0
  cases h0
  exact wp_iret rfl dX8_order_284
def bX8_order_250 (k : KTX8_order) (w : XW) (l0 : Nat) (l1 : Int32) (l2 : Int32) (l4 : Int32) (l5 : Int32) (l6 : Int32) : Option (Int32 × XW) :=
  k.2.2.1 w l0 l1 l2 l4 l5 (l6 + (1 : Int32))
theorem BX8_order_250 {K : CX} {l : Launch} {n0 k0 : Nat} {k : KTX8_order} (hk0 : ∀ (w : XW) (l0 : Nat) (l1 : Int32) (l2 : Int32) (l3 : Int32) (l4 : Int32) (q : Int32 × XW), k.1 w l0 l1 l2 l3 l4 = some q → WP K l mX8_order 7 162 n0 k0 (some (.int q.1)) q.2 42 [some (.ref l0), some (.int l1), some (.int l2), some (.int l3), some (.int l4), none, none, none, none] [] w) (hk1 : ∀ (w : XW) (l0 : Nat) (l1 : Int32) (l2 : Int32) (l4 : Int32) (l5 : Int32) (q : Int32 × XW), k.2.1 w l0 l1 l2 l4 l5 = some q → WP K l mX8_order 7 162 n0 k0 (some (.int q.1)) q.2 84 [some (.ref l0), some (.int l1), some (.int l2), none, some (.int l4), some (.int l5), none, none, none] [] w) (hk2 : ∀ (w : XW) (l0 : Nat) (l1 : Int32) (l2 : Int32) (l4 : Int32) (l5 : Int32) (l6 : Int32) (q : Int32 × XW), k.2.2.1 w l0 l1 l2 l4 l5 l6 = some q → WP K l mX8_order 7 162 n0 k0 (some (.int q.1)) q.2 111 [some (.ref l0), some (.int l1), some (.int l2), none, some (.int l4), some (.int l5), some (.int l6), none, none] [] w) (hk3 : ∀ (w : XW) (l0 : Nat) (l1 : Int32) (l2 : Int32) (l4 : Int32) (l5 : Int32) (l6 : Int32) (l7 : Int32) (q : Int32 × XW), k.2.2.2.1 w l0 l1 l2 l4 l5 l6 l7 = some q → WP K l mX8_order 7 162 n0 k0 (some (.int q.1)) q.2 139 [some (.ref l0), some (.int l1), some (.int l2), none, some (.int l4), some (.int l5), some (.int l6), some (.int l7), none] [] w) (hk4 : ∀ (w : XW) (l0 : Nat) (l1 : Int32) (l2 : Int32) (l4 : Int32) (l5 : Int32) (l6 : Int32) (l8 : Int32) (q : Int32 × XW), k.2.2.2.2 w l0 l1 l2 l4 l5 l6 l8 = some q → WP K l mX8_order 7 162 n0 k0 (some (.int q.1)) q.2 220 [some (.ref l0), some (.int l1), some (.int l2), none, some (.int l4), some (.int l5), some (.int l6), none, some (.int l8)] [] w) {w : XW} {l0 : Nat} {l1 : Int32} {l2 : Int32} {l4 : Int32} {l5 : Int32} {l6 : Int32} {q : Int32 × XW} (h0 : bX8_order_250 k w l0 l1 l2 l4 l5 l6 = some q) : WP K l mX8_order 7 162 n0 k0 (some (.int q.1)) q.2 250 [some (.ref l0), some (.int l1), some (.int l2), none, some (.int l4), some (.int l5), some (.int l6), none, none] [] w := by
  unfold bX8_order_250 at h0
  refine wp_iinc (v := (l6 + (1 : Int32))) (L1 := [some (.ref l0), some (.int l1), some (.int l2), none, some (.int l4), some (.int l5), some (.int (l6 + (1 : Int32))), none, none]) dX8_order_250 (Nat.le_of_ble_eq_true rfl) rfl (congrArg (fun z => l6 + z) (by decide)) rfl ?_
  refine wp_goto (tgt := 111) dX8_order_253 (by decide) ?_
  exact WP.wk (hk2 _ _ _ _ _ _ _ _ h0) (And.intro rfl (And.intro rfl (And.intro rfl (And.intro rfl (And.intro rfl (And.intro rfl trivial))))))
def bX8_order_185 (k : KTX8_order) (w : XW) (l0 : Nat) (l1 : Int32) (l2 : Int32) (l4 : Int32) (l5 : Int32) (l6 : Int32) (l7 : Int32) (s0 : Nat) (s1 : Int32) (s2 : Int32) : Option (Int32 × XW) :=
  (sI w 0 s0 s1 s2).bind fun w1 =>
  k.2.2.2.1 w1 l0 l1 l2 l4 l5 l6 (l7 + (1 : Int32))
theorem BX8_order_185 {K : CX} {l : Launch} {n0 k0 : Nat} {k : KTX8_order} (hk0 : ∀ (w : XW) (l0 : Nat) (l1 : Int32) (l2 : Int32) (l3 : Int32) (l4 : Int32) (q : Int32 × XW), k.1 w l0 l1 l2 l3 l4 = some q → WP K l mX8_order 7 162 n0 k0 (some (.int q.1)) q.2 42 [some (.ref l0), some (.int l1), some (.int l2), some (.int l3), some (.int l4), none, none, none, none] [] w) (hk1 : ∀ (w : XW) (l0 : Nat) (l1 : Int32) (l2 : Int32) (l4 : Int32) (l5 : Int32) (q : Int32 × XW), k.2.1 w l0 l1 l2 l4 l5 = some q → WP K l mX8_order 7 162 n0 k0 (some (.int q.1)) q.2 84 [some (.ref l0), some (.int l1), some (.int l2), none, some (.int l4), some (.int l5), none, none, none] [] w) (hk2 : ∀ (w : XW) (l0 : Nat) (l1 : Int32) (l2 : Int32) (l4 : Int32) (l5 : Int32) (l6 : Int32) (q : Int32 × XW), k.2.2.1 w l0 l1 l2 l4 l5 l6 = some q → WP K l mX8_order 7 162 n0 k0 (some (.int q.1)) q.2 111 [some (.ref l0), some (.int l1), some (.int l2), none, some (.int l4), some (.int l5), some (.int l6), none, none] [] w) (hk3 : ∀ (w : XW) (l0 : Nat) (l1 : Int32) (l2 : Int32) (l4 : Int32) (l5 : Int32) (l6 : Int32) (l7 : Int32) (q : Int32 × XW), k.2.2.2.1 w l0 l1 l2 l4 l5 l6 l7 = some q → WP K l mX8_order 7 162 n0 k0 (some (.int q.1)) q.2 139 [some (.ref l0), some (.int l1), some (.int l2), none, some (.int l4), some (.int l5), some (.int l6), some (.int l7), none] [] w) (hk4 : ∀ (w : XW) (l0 : Nat) (l1 : Int32) (l2 : Int32) (l4 : Int32) (l5 : Int32) (l6 : Int32) (l8 : Int32) (q : Int32 × XW), k.2.2.2.2 w l0 l1 l2 l4 l5 l6 l8 = some q → WP K l mX8_order 7 162 n0 k0 (some (.int q.1)) q.2 220 [some (.ref l0), some (.int l1), some (.int l2), none, some (.int l4), some (.int l5), some (.int l6), none, some (.int l8)] [] w) {w : XW} {l0 : Nat} {l1 : Int32} {l2 : Int32} {l4 : Int32} {l5 : Int32} {l6 : Int32} {l7 : Int32} {s0 : Nat} {s1 : Int32} {s2 : Int32} {q : Int32 × XW} (h0 : bX8_order_185 k w l0 l1 l2 l4 l5 l6 l7 s0 s1 s2 = some q) : WP K l mX8_order 7 162 n0 k0 (some (.int q.1)) q.2 185 [some (.ref l0), some (.int l1), some (.int l2), none, some (.int l4), some (.int l5), some (.int l6), some (.int l7), none] [.int s2, .int s1, .ref s0] w := by
  unfold bX8_order_185 at h0
  obtain ⟨w1, e3, h2⟩ := Option.bind_eq_some_iff.mp h0
  clear h0
  refine wp_iast dX8_order_185 e3 ?_
  refine wp_iinc (v := (l7 + (1 : Int32))) (L1 := [some (.ref l0), some (.int l1), some (.int l2), none, some (.int l4), some (.int l5), some (.int l6), some (.int (l7 + (1 : Int32))), none]) dX8_order_186 (Nat.le_of_ble_eq_true rfl) rfl (congrArg (fun z => l7 + z) (by decide)) rfl ?_
  refine wp_goto (tgt := 139) dX8_order_189 (by decide) ?_
  exact WP.wk (hk3 _ _ _ _ _ _ _ _ _ h2) (And.intro rfl (And.intro rfl (And.intro rfl (And.intro rfl (And.intro rfl (And.intro rfl (And.intro rfl trivial)))))))
def bX8_order_178 (k : KTX8_order) (w : XW) (l0 : Nat) (l1 : Int32) (l2 : Int32) (l4 : Int32) (l5 : Int32) (l6 : Int32) (l7 : Int32) (s0 : Nat) (s1 : Int32) : Option (Int32 × XW) :=
  (gR w l0 8 21).bind fun x1 =>
  (aI w 0 x1 l7).bind fun x4 =>
  bX8_order_185 k w l0 l1 l2 l4 l5 l6 l7 s0 s1 x4
theorem BX8_order_178 {K : CX} {l : Launch} {n0 k0 : Nat} {k : KTX8_order} (hk0 : ∀ (w : XW) (l0 : Nat) (l1 : Int32) (l2 : Int32) (l3 : Int32) (l4 : Int32) (q : Int32 × XW), k.1 w l0 l1 l2 l3 l4 = some q → WP K l mX8_order 7 162 n0 k0 (some (.int q.1)) q.2 42 [some (.ref l0), some (.int l1), some (.int l2), some (.int l3), some (.int l4), none, none, none, none] [] w) (hk1 : ∀ (w : XW) (l0 : Nat) (l1 : Int32) (l2 : Int32) (l4 : Int32) (l5 : Int32) (q : Int32 × XW), k.2.1 w l0 l1 l2 l4 l5 = some q → WP K l mX8_order 7 162 n0 k0 (some (.int q.1)) q.2 84 [some (.ref l0), some (.int l1), some (.int l2), none, some (.int l4), some (.int l5), none, none, none] [] w) (hk2 : ∀ (w : XW) (l0 : Nat) (l1 : Int32) (l2 : Int32) (l4 : Int32) (l5 : Int32) (l6 : Int32) (q : Int32 × XW), k.2.2.1 w l0 l1 l2 l4 l5 l6 = some q → WP K l mX8_order 7 162 n0 k0 (some (.int q.1)) q.2 111 [some (.ref l0), some (.int l1), some (.int l2), none, some (.int l4), some (.int l5), some (.int l6), none, none] [] w) (hk3 : ∀ (w : XW) (l0 : Nat) (l1 : Int32) (l2 : Int32) (l4 : Int32) (l5 : Int32) (l6 : Int32) (l7 : Int32) (q : Int32 × XW), k.2.2.2.1 w l0 l1 l2 l4 l5 l6 l7 = some q → WP K l mX8_order 7 162 n0 k0 (some (.int q.1)) q.2 139 [some (.ref l0), some (.int l1), some (.int l2), none, some (.int l4), some (.int l5), some (.int l6), some (.int l7), none] [] w) (hk4 : ∀ (w : XW) (l0 : Nat) (l1 : Int32) (l2 : Int32) (l4 : Int32) (l5 : Int32) (l6 : Int32) (l8 : Int32) (q : Int32 × XW), k.2.2.2.2 w l0 l1 l2 l4 l5 l6 l8 = some q → WP K l mX8_order 7 162 n0 k0 (some (.int q.1)) q.2 220 [some (.ref l0), some (.int l1), some (.int l2), none, some (.int l4), some (.int l5), some (.int l6), none, some (.int l8)] [] w) {w : XW} {l0 : Nat} {l1 : Int32} {l2 : Int32} {l4 : Int32} {l5 : Int32} {l6 : Int32} {l7 : Int32} {s0 : Nat} {s1 : Int32} {q : Int32 × XW} (h0 : bX8_order_178 k w l0 l1 l2 l4 l5 l6 l7 s0 s1 = some q) : WP K l mX8_order 7 162 n0 k0 (some (.int q.1)) q.2 178 [some (.ref l0), some (.int l1), some (.int l2), none, some (.int l4), some (.int l5), some (.int l6), some (.int l7), none] [.int s1, .ref s0] w := by
  unfold bX8_order_178 at h0
  refine wp_aload_n dX8_order_178 rfl ?_
  obtain ⟨x1, e3, h2⟩ := Option.bind_eq_some_iff.mp h0
  clear h0
  refine wp_getR okX8 (k := 21) (by decide) tw726 dX8_order_179 e3 ?_
  refine wp_iload dX8_order_182 rfl ?_
  obtain ⟨x4, e6, h5⟩ := Option.bind_eq_some_iff.mp h2
  clear h2
  refine wp_iald dX8_order_184 e6 ?_
  exact WP.wk (BX8_order_185 hk0 hk1 hk2 hk3 hk4 h5) (And.intro rfl (And.intro rfl (And.intro rfl (And.intro rfl (And.intro rfl (And.intro rfl (And.intro rfl trivial)))))))
def bX8_order_72 (k : KTX8_order) (w : XW) (l0 : Nat) (l1 : Int32) (l2 : Int32) (l3 : Int32) (l4 : Int32) : Option (Int32 × XW) :=
  k.1 w l0 l1 l2 l3 (l4 + (1 : Int32))
theorem BX8_order_72 {K : CX} {l : Launch} {n0 k0 : Nat} {k : KTX8_order} (hk0 : ∀ (w : XW) (l0 : Nat) (l1 : Int32) (l2 : Int32) (l3 : Int32) (l4 : Int32) (q : Int32 × XW), k.1 w l0 l1 l2 l3 l4 = some q → WP K l mX8_order 7 162 n0 k0 (some (.int q.1)) q.2 42 [some (.ref l0), some (.int l1), some (.int l2), some (.int l3), some (.int l4), none, none, none, none] [] w) (hk1 : ∀ (w : XW) (l0 : Nat) (l1 : Int32) (l2 : Int32) (l4 : Int32) (l5 : Int32) (q : Int32 × XW), k.2.1 w l0 l1 l2 l4 l5 = some q → WP K l mX8_order 7 162 n0 k0 (some (.int q.1)) q.2 84 [some (.ref l0), some (.int l1), some (.int l2), none, some (.int l4), some (.int l5), none, none, none] [] w) (hk2 : ∀ (w : XW) (l0 : Nat) (l1 : Int32) (l2 : Int32) (l4 : Int32) (l5 : Int32) (l6 : Int32) (q : Int32 × XW), k.2.2.1 w l0 l1 l2 l4 l5 l6 = some q → WP K l mX8_order 7 162 n0 k0 (some (.int q.1)) q.2 111 [some (.ref l0), some (.int l1), some (.int l2), none, some (.int l4), some (.int l5), some (.int l6), none, none] [] w) (hk3 : ∀ (w : XW) (l0 : Nat) (l1 : Int32) (l2 : Int32) (l4 : Int32) (l5 : Int32) (l6 : Int32) (l7 : Int32) (q : Int32 × XW), k.2.2.2.1 w l0 l1 l2 l4 l5 l6 l7 = some q → WP K l mX8_order 7 162 n0 k0 (some (.int q.1)) q.2 139 [some (.ref l0), some (.int l1), some (.int l2), none, some (.int l4), some (.int l5), some (.int l6), some (.int l7), none] [] w) (hk4 : ∀ (w : XW) (l0 : Nat) (l1 : Int32) (l2 : Int32) (l4 : Int32) (l5 : Int32) (l6 : Int32) (l8 : Int32) (q : Int32 × XW), k.2.2.2.2 w l0 l1 l2 l4 l5 l6 l8 = some q → WP K l mX8_order 7 162 n0 k0 (some (.int q.1)) q.2 220 [some (.ref l0), some (.int l1), some (.int l2), none, some (.int l4), some (.int l5), some (.int l6), none, some (.int l8)] [] w) {w : XW} {l0 : Nat} {l1 : Int32} {l2 : Int32} {l3 : Int32} {l4 : Int32} {q : Int32 × XW} (h0 : bX8_order_72 k w l0 l1 l2 l3 l4 = some q) : WP K l mX8_order 7 162 n0 k0 (some (.int q.1)) q.2 72 [some (.ref l0), some (.int l1), some (.int l2), some (.int l3), some (.int l4), none, none, none, none] [] w := by
  unfold bX8_order_72 at h0
  refine wp_iinc (v := (l4 + (1 : Int32))) (L1 := [some (.ref l0), some (.int l1), some (.int l2), some (.int l3), some (.int (l4 + (1 : Int32))), none, none, none, none]) dX8_order_72 (Nat.le_of_ble_eq_true rfl) rfl (congrArg (fun z => l4 + z) (by decide)) rfl ?_
  refine wp_goto (tgt := 42) dX8_order_75 (by decide) ?_
  exact WP.wk (hk0 _ _ _ _ _ _ _ h0) (And.intro rfl (And.intro rfl (And.intro rfl (And.intro rfl (And.intro rfl trivial)))))
def bX8_order_34 (k : KTX8_order) (w : XW) : Option (Int32 × XW) :=
  some ((-4 : Int32), w)
theorem BX8_order_34 {K : CX} {l : Launch} {n0 k0 : Nat} {k : KTX8_order} (hk0 : ∀ (w : XW) (l0 : Nat) (l1 : Int32) (l2 : Int32) (l3 : Int32) (l4 : Int32) (q : Int32 × XW), k.1 w l0 l1 l2 l3 l4 = some q → WP K l mX8_order 7 162 n0 k0 (some (.int q.1)) q.2 42 [some (.ref l0), some (.int l1), some (.int l2), some (.int l3), some (.int l4), none, none, none, none] [] w) (hk1 : ∀ (w : XW) (l0 : Nat) (l1 : Int32) (l2 : Int32) (l4 : Int32) (l5 : Int32) (q : Int32 × XW), k.2.1 w l0 l1 l2 l4 l5 = some q → WP K l mX8_order 7 162 n0 k0 (some (.int q.1)) q.2 84 [some (.ref l0), some (.int l1), some (.int l2), none, some (.int l4), some (.int l5), none, none, none] [] w) (hk2 : ∀ (w : XW) (l0 : Nat) (l1 : Int32) (l2 : Int32) (l4 : Int32) (l5 : Int32) (l6 : Int32) (q : Int32 × XW), k.2.2.1 w l0 l1 l2 l4 l5 l6 = some q → WP K l mX8_order 7 162 n0 k0 (some (.int q.1)) q.2 111 [some (.ref l0), some (.int l1), some (.int l2), none, some (.int l4), some (.int l5), some (.int l6), none, none] [] w) (hk3 : ∀ (w : XW) (l0 : Nat) (l1 : Int32) (l2 : Int32) (l4 : Int32) (l5 : Int32) (l6 : Int32) (l7 : Int32) (q : Int32 × XW), k.2.2.2.1 w l0 l1 l2 l4 l5 l6 l7 = some q → WP K l mX8_order 7 162 n0 k0 (some (.int q.1)) q.2 139 [some (.ref l0), some (.int l1), some (.int l2), none, some (.int l4), some (.int l5), some (.int l6), some (.int l7), none] [] w) (hk4 : ∀ (w : XW) (l0 : Nat) (l1 : Int32) (l2 : Int32) (l4 : Int32) (l5 : Int32) (l6 : Int32) (l8 : Int32) (q : Int32 × XW), k.2.2.2.2 w l0 l1 l2 l4 l5 l6 l8 = some q → WP K l mX8_order 7 162 n0 k0 (some (.int q.1)) q.2 220 [some (.ref l0), some (.int l1), some (.int l2), none, some (.int l4), some (.int l5), some (.int l6), none, some (.int l8)] [] w) {w : XW} {q : Int32 × XW} (h0 : bX8_order_34 k w = some q) : WP K l mX8_order 7 162 n0 k0 (some (.int q.1)) q.2 34 [none, none, none, none, none, none, none, none, none] [] w := by
  unfold bX8_order_34 at h0
  refine wp_bipush (v := (-4 : Int32)) dX8_order_34 (by decide) ?_
  cases h0
  exact wp_iret rfl dX8_order_36
def hX8_order_220 (k : KTX8_order) (w : XW) (l0 : Nat) (l1 : Int32) (l2 : Int32) (l4 : Int32) (l5 : Int32) (l6 : Int32) (l8 : Int32) : Option (Int32 × XW) :=
  if l2 ≤ l8 then
  bX8_order_250 k w l0 l1 l2 l4 l5 l6
  else
  (gR w l0 8 21).bind fun x2 =>
  (gR w l0 8 7).bind fun x5 =>
  (aI w 0 x5 ((204 : Int32) + l8)).bind fun x8 =>
  (sI w 0 x2 l8 x8).bind fun w11 =>
  k.2.2.2.2 w11 l0 l1 l2 l4 l5 l6 (l8 + (1 : Int32))
theorem HX8_order_220 {K : CX} {l : Launch} {n0 k0 : Nat} {k : KTX8_order} (hk0 : ∀ (w : XW) (l0 : Nat) (l1 : Int32) (l2 : Int32) (l3 : Int32) (l4 : Int32) (q : Int32 × XW), k.1 w l0 l1 l2 l3 l4 = some q → WP K l mX8_order 7 162 n0 k0 (some (.int q.1)) q.2 42 [some (.ref l0), some (.int l1), some (.int l2), some (.int l3), some (.int l4), none, none, none, none] [] w) (hk1 : ∀ (w : XW) (l0 : Nat) (l1 : Int32) (l2 : Int32) (l4 : Int32) (l5 : Int32) (q : Int32 × XW), k.2.1 w l0 l1 l2 l4 l5 = some q → WP K l mX8_order 7 162 n0 k0 (some (.int q.1)) q.2 84 [some (.ref l0), some (.int l1), some (.int l2), none, some (.int l4), some (.int l5), none, none, none] [] w) (hk2 : ∀ (w : XW) (l0 : Nat) (l1 : Int32) (l2 : Int32) (l4 : Int32) (l5 : Int32) (l6 : Int32) (q : Int32 × XW), k.2.2.1 w l0 l1 l2 l4 l5 l6 = some q → WP K l mX8_order 7 162 n0 k0 (some (.int q.1)) q.2 111 [some (.ref l0), some (.int l1), some (.int l2), none, some (.int l4), some (.int l5), some (.int l6), none, none] [] w) (hk3 : ∀ (w : XW) (l0 : Nat) (l1 : Int32) (l2 : Int32) (l4 : Int32) (l5 : Int32) (l6 : Int32) (l7 : Int32) (q : Int32 × XW), k.2.2.2.1 w l0 l1 l2 l4 l5 l6 l7 = some q → WP K l mX8_order 7 162 n0 k0 (some (.int q.1)) q.2 139 [some (.ref l0), some (.int l1), some (.int l2), none, some (.int l4), some (.int l5), some (.int l6), some (.int l7), none] [] w) (hk4 : ∀ (w : XW) (l0 : Nat) (l1 : Int32) (l2 : Int32) (l4 : Int32) (l5 : Int32) (l6 : Int32) (l8 : Int32) (q : Int32 × XW), k.2.2.2.2 w l0 l1 l2 l4 l5 l6 l8 = some q → WP K l mX8_order 7 162 n0 k0 (some (.int q.1)) q.2 220 [some (.ref l0), some (.int l1), some (.int l2), none, some (.int l4), some (.int l5), some (.int l6), none, some (.int l8)] [] w) {w : XW} {l0 : Nat} {l1 : Int32} {l2 : Int32} {l4 : Int32} {l5 : Int32} {l6 : Int32} {l8 : Int32} {q : Int32 × XW} (h0 : hX8_order_220 k w l0 l1 l2 l4 l5 l6 l8 = some q) : WP K l mX8_order 7 162 n0 k0 (some (.int q.1)) q.2 220 [some (.ref l0), some (.int l1), some (.int l2), none, some (.int l4), some (.int l5), some (.int l6), none, some (.int l8)] [] w := by
  unfold hX8_order_220 at h0
  refine wp_iload dX8_order_220 rfl ?_
  refine wp_iload_n dX8_order_222 rfl ?_
  refine wp_icmp_ge (tgt := 250) dX8_order_223 (by decide) (fun c1 => ?_) (fun c1 => ?_)
  · rw [if_pos c1] at h0
    exact WP.wk (BX8_order_250 hk0 hk1 hk2 hk3 hk4 h0) (And.intro rfl (And.intro rfl (And.intro rfl (And.intro rfl (And.intro rfl (And.intro rfl trivial))))))
  · rw [if_neg c1] at h0
    refine wp_aload_n dX8_order_226 rfl ?_
    obtain ⟨x2, e4, h3⟩ := Option.bind_eq_some_iff.mp h0
    clear h0
    refine wp_getR okX8 (k := 21) (by decide) tw726 dX8_order_227 e4 ?_
    refine wp_iload dX8_order_230 rfl ?_
    refine wp_aload_n dX8_order_232 rfl ?_
    obtain ⟨x5, e7, h6⟩ := Option.bind_eq_some_iff.mp h3
    clear h3
    refine wp_getR okX8 (k := 7) (by decide) tw712 dX8_order_233 e7 ?_
    refine wp_sipush (v := (204 : Int32)) dX8_order_236 (by decide) ?_
    refine wp_iload dX8_order_239 rfl ?_
    refine wp_iadd dX8_order_241 ?_
    obtain ⟨x8, e10, h9⟩ := Option.bind_eq_some_iff.mp h6
    clear h6
    refine wp_iald dX8_order_242 e10 ?_
    obtain ⟨w11, e13, h12⟩ := Option.bind_eq_some_iff.mp h9
    clear h9
    refine wp_iast dX8_order_243 e13 ?_
    refine wp_iinc (v := (l8 + (1 : Int32))) (L1 := [some (.ref l0), some (.int l1), some (.int l2), none, some (.int l4), some (.int l5), some (.int l6), none, some (.int (l8 + (1 : Int32)))]) dX8_order_244 (Nat.le_of_ble_eq_true rfl) rfl (congrArg (fun z => l8 + z) (by decide)) rfl ?_
    refine wp_goto (tgt := 220) dX8_order_247 (by decide) ?_
    exact WP.wk (hk4 _ _ _ _ _ _ _ _ _ h12) (And.intro rfl (And.intro rfl (And.intro rfl (And.intro rfl (And.intro rfl (And.intro rfl (And.intro rfl trivial)))))))
def hX8_order_139 (k : KTX8_order) (w : XW) (l0 : Nat) (l1 : Int32) (l2 : Int32) (l4 : Int32) (l5 : Int32) (l6 : Int32) (l7 : Int32) : Option (Int32 × XW) :=
  if l2 ≤ l7 then
  (fX8_restsBy w l0 (198 : Int32)).bind fun q2 =>
  if q2.1 < 0 then
  bX8_order_250 k q2.2 l0 l1 l2 l4 l5 l6
  else
  if l5 ≤ q2.1 then
  bX8_order_250 k q2.2 l0 l1 l2 l4 l5 l6
  else
  k.2.2.2.2 q2.2 l0 l1 l2 l4 q2.1 l6 (0 : Int32)
  else
  (gR w l0 8 21).bind fun x7 =>
  if l5 = (999 : Int32) then
  if l6 = 0 then
  (gR w l0 8 7).bind fun x12 =>
  (aI w 0 x12 ((204 : Int32) + l7)).bind fun x15 =>
  bX8_order_185 k w l0 l1 l2 l4 l5 l6 l7 x7 l7 x15
  else
  bX8_order_178 k w l0 l1 l2 l4 l5 l6 l7 x7 l7
  else
  bX8_order_178 k w l0 l1 l2 l4 l5 l6 l7 x7 l7
theorem HX8_order_139 {K : CX} {l : Launch} {n0 k0 : Nat} {k : KTX8_order} (hk0 : ∀ (w : XW) (l0 : Nat) (l1 : Int32) (l2 : Int32) (l3 : Int32) (l4 : Int32) (q : Int32 × XW), k.1 w l0 l1 l2 l3 l4 = some q → WP K l mX8_order 7 162 n0 k0 (some (.int q.1)) q.2 42 [some (.ref l0), some (.int l1), some (.int l2), some (.int l3), some (.int l4), none, none, none, none] [] w) (hk1 : ∀ (w : XW) (l0 : Nat) (l1 : Int32) (l2 : Int32) (l4 : Int32) (l5 : Int32) (q : Int32 × XW), k.2.1 w l0 l1 l2 l4 l5 = some q → WP K l mX8_order 7 162 n0 k0 (some (.int q.1)) q.2 84 [some (.ref l0), some (.int l1), some (.int l2), none, some (.int l4), some (.int l5), none, none, none] [] w) (hk2 : ∀ (w : XW) (l0 : Nat) (l1 : Int32) (l2 : Int32) (l4 : Int32) (l5 : Int32) (l6 : Int32) (q : Int32 × XW), k.2.2.1 w l0 l1 l2 l4 l5 l6 = some q → WP K l mX8_order 7 162 n0 k0 (some (.int q.1)) q.2 111 [some (.ref l0), some (.int l1), some (.int l2), none, some (.int l4), some (.int l5), some (.int l6), none, none] [] w) (hk3 : ∀ (w : XW) (l0 : Nat) (l1 : Int32) (l2 : Int32) (l4 : Int32) (l5 : Int32) (l6 : Int32) (l7 : Int32) (q : Int32 × XW), k.2.2.2.1 w l0 l1 l2 l4 l5 l6 l7 = some q → WP K l mX8_order 7 162 n0 k0 (some (.int q.1)) q.2 139 [some (.ref l0), some (.int l1), some (.int l2), none, some (.int l4), some (.int l5), some (.int l6), some (.int l7), none] [] w) (hk4 : ∀ (w : XW) (l0 : Nat) (l1 : Int32) (l2 : Int32) (l4 : Int32) (l5 : Int32) (l6 : Int32) (l8 : Int32) (q : Int32 × XW), k.2.2.2.2 w l0 l1 l2 l4 l5 l6 l8 = some q → WP K l mX8_order 7 162 n0 k0 (some (.int q.1)) q.2 220 [some (.ref l0), some (.int l1), some (.int l2), none, some (.int l4), some (.int l5), some (.int l6), none, some (.int l8)] [] w) {w : XW} {l0 : Nat} {l1 : Int32} {l2 : Int32} {l4 : Int32} {l5 : Int32} {l6 : Int32} {l7 : Int32} {q : Int32 × XW} (h0 : hX8_order_139 k w l0 l1 l2 l4 l5 l6 l7 = some q) : WP K l mX8_order 7 162 n0 k0 (some (.int q.1)) q.2 139 [some (.ref l0), some (.int l1), some (.int l2), none, some (.int l4), some (.int l5), some (.int l6), some (.int l7), none] [] w := by
  unfold hX8_order_139 at h0
  refine wp_iload dX8_order_139 rfl ?_
  refine wp_iload_n dX8_order_141 rfl ?_
  refine wp_icmp_ge (tgt := 192) dX8_order_142 (by decide) (fun c1 => ?_) (fun c1 => ?_)
  · rw [if_pos c1] at h0
    refine wp_aload_n dX8_order_192 rfl ?_
    refine wp_sipush (v := (198 : Int32)) dX8_order_193 (by decide) ?_
    obtain ⟨q2, e4, h3⟩ := Option.bind_eq_some_iff.mp h0
    clear h0
    refine wp_Vi (As := [.int (198 : Int32)]) (S := []) okM_X8_restsBy tw932 twP_X8_restsBy tw930 (OX8_restsBy e4) rfl rfl rfl ⟨(Nat.le_of_ble_eq_true rfl), (Nat.le_of_ble_eq_true rfl)⟩ (Nat.le_of_ble_eq_true rfl) rfl dX8_order_196 (MX8_restsBy e4) ?_
    refine wp_istore (L1 := [some (.ref l0), some (.int l1), some (.int l2), none, some (.int l4), some (.int l5), some (.int l6), some (.int q2.1), none]) dX8_order_199 (Nat.le_of_ble_eq_true rfl) rfl ?_
    refine wp_iload dX8_order_201 rfl ?_
    refine wp_if_lt (tgt := 250) dX8_order_203 (by decide) (fun c5 => ?_) (fun c5 => ?_)
    · rw [if_pos c5] at h3
      exact WP.wk (BX8_order_250 hk0 hk1 hk2 hk3 hk4 h3) (And.intro rfl (And.intro rfl (And.intro rfl (And.intro rfl (And.intro rfl (And.intro rfl trivial))))))
    · rw [if_neg c5] at h3
      refine wp_iload dX8_order_206 rfl ?_
      refine wp_iload dX8_order_208 rfl ?_
      refine wp_icmp_ge (tgt := 250) dX8_order_210 (by decide) (fun c6 => ?_) (fun c6 => ?_)
      · rw [if_pos c6] at h3
        exact WP.wk (BX8_order_250 hk0 hk1 hk2 hk3 hk4 h3) (And.intro rfl (And.intro rfl (And.intro rfl (And.intro rfl (And.intro rfl (And.intro rfl trivial))))))
      · rw [if_neg c6] at h3
        refine wp_iload dX8_order_213 rfl ?_
        refine wp_istore (L1 := [some (.ref l0), some (.int l1), some (.int l2), none, some (.int l4), some (.int q2.1), some (.int l6), some (.int q2.1), none]) dX8_order_215 (Nat.le_of_ble_eq_true rfl) rfl ?_
        refine wp_iconst (v := (0 : Int32)) dX8_order_217 (by decide) ?_
        refine wp_istore (L1 := [some (.ref l0), some (.int l1), some (.int l2), none, some (.int l4), some (.int q2.1), some (.int l6), some (.int q2.1), some (.int (0 : Int32))]) dX8_order_218 (Nat.le_of_ble_eq_true rfl) rfl ?_
        exact WP.wk (hk4 _ _ _ _ _ _ _ _ _ h3) (And.intro rfl (And.intro rfl (And.intro rfl (And.intro rfl (And.intro rfl (And.intro rfl (And.intro rfl trivial)))))))
  · rw [if_neg c1] at h0
    refine wp_aload_n dX8_order_145 rfl ?_
    obtain ⟨x7, e9, h8⟩ := Option.bind_eq_some_iff.mp h0
    clear h0
    refine wp_getR okX8 (k := 21) (by decide) tw726 dX8_order_146 e9 ?_
    refine wp_iload dX8_order_149 rfl ?_
    refine wp_iload dX8_order_151 rfl ?_
    refine wp_sipush (v := (999 : Int32)) dX8_order_153 (by decide) ?_
    refine wp_icmp_ne (tgt := 178) dX8_order_156 (by decide) (fun c10 => ?_) (fun c10 => ?_)
    · rw [if_neg c10] at h8
      exact WP.wk (BX8_order_178 hk0 hk1 hk2 hk3 hk4 h8) (And.intro rfl (And.intro rfl (And.intro rfl (And.intro rfl (And.intro rfl (And.intro rfl (And.intro rfl trivial)))))))
    · rw [if_pos c10] at h8
      refine wp_iload dX8_order_159 rfl ?_
      refine wp_if_ne (tgt := 178) dX8_order_161 (by decide) (fun c11 => ?_) (fun c11 => ?_)
      · rw [if_neg c11] at h8
        exact WP.wk (BX8_order_178 hk0 hk1 hk2 hk3 hk4 h8) (And.intro rfl (And.intro rfl (And.intro rfl (And.intro rfl (And.intro rfl (And.intro rfl (And.intro rfl trivial)))))))
      · rw [if_pos c11] at h8
        refine wp_aload_n dX8_order_164 rfl ?_
        obtain ⟨x12, e14, h13⟩ := Option.bind_eq_some_iff.mp h8
        clear h8
        refine wp_getR okX8 (k := 7) (by decide) tw712 dX8_order_165 e14 ?_
        refine wp_sipush (v := (204 : Int32)) dX8_order_168 (by decide) ?_
        refine wp_iload dX8_order_171 rfl ?_
        refine wp_iadd dX8_order_173 ?_
        obtain ⟨x15, e17, h16⟩ := Option.bind_eq_some_iff.mp h13
        clear h13
        refine wp_iald dX8_order_174 e17 ?_
        refine wp_goto (tgt := 185) dX8_order_175 (by decide) ?_
        exact WP.wk (BX8_order_185 hk0 hk1 hk2 hk3 hk4 h16) (And.intro rfl (And.intro rfl (And.intro rfl (And.intro rfl (And.intro rfl (And.intro rfl (And.intro rfl trivial)))))))
def hX8_order_111 (k : KTX8_order) (w : XW) (l0 : Nat) (l1 : Int32) (l2 : Int32) (l4 : Int32) (l5 : Int32) (l6 : Int32) : Option (Int32 × XW) :=
  if l4 ≤ l6 then
  if l5 = (999 : Int32) then
  bX8_order_284 k w (-4 : Int32)
  else
  if 0 ≤ l1 then
  (gR w l0 8 21).bind fun x4 =>
  (aI w 0 x4 l1).bind fun x7 =>
  bX8_order_284 k w x7
  else
  bX8_order_284 k w l5
  else
  (fX8_copies w l0 (0 : Int32) (198 : Int32)).bind fun q10 =>
  (fX8_orders q10 l0 (198 : Int32) l6 l2).bind fun q13 =>
  k.2.2.2.1 q13 l0 l1 l2 l4 l5 l6 (0 : Int32)
theorem HX8_order_111 {K : CX} {l : Launch} {n0 k0 : Nat} {k : KTX8_order} (hk0 : ∀ (w : XW) (l0 : Nat) (l1 : Int32) (l2 : Int32) (l3 : Int32) (l4 : Int32) (q : Int32 × XW), k.1 w l0 l1 l2 l3 l4 = some q → WP K l mX8_order 7 162 n0 k0 (some (.int q.1)) q.2 42 [some (.ref l0), some (.int l1), some (.int l2), some (.int l3), some (.int l4), none, none, none, none] [] w) (hk1 : ∀ (w : XW) (l0 : Nat) (l1 : Int32) (l2 : Int32) (l4 : Int32) (l5 : Int32) (q : Int32 × XW), k.2.1 w l0 l1 l2 l4 l5 = some q → WP K l mX8_order 7 162 n0 k0 (some (.int q.1)) q.2 84 [some (.ref l0), some (.int l1), some (.int l2), none, some (.int l4), some (.int l5), none, none, none] [] w) (hk2 : ∀ (w : XW) (l0 : Nat) (l1 : Int32) (l2 : Int32) (l4 : Int32) (l5 : Int32) (l6 : Int32) (q : Int32 × XW), k.2.2.1 w l0 l1 l2 l4 l5 l6 = some q → WP K l mX8_order 7 162 n0 k0 (some (.int q.1)) q.2 111 [some (.ref l0), some (.int l1), some (.int l2), none, some (.int l4), some (.int l5), some (.int l6), none, none] [] w) (hk3 : ∀ (w : XW) (l0 : Nat) (l1 : Int32) (l2 : Int32) (l4 : Int32) (l5 : Int32) (l6 : Int32) (l7 : Int32) (q : Int32 × XW), k.2.2.2.1 w l0 l1 l2 l4 l5 l6 l7 = some q → WP K l mX8_order 7 162 n0 k0 (some (.int q.1)) q.2 139 [some (.ref l0), some (.int l1), some (.int l2), none, some (.int l4), some (.int l5), some (.int l6), some (.int l7), none] [] w) (hk4 : ∀ (w : XW) (l0 : Nat) (l1 : Int32) (l2 : Int32) (l4 : Int32) (l5 : Int32) (l6 : Int32) (l8 : Int32) (q : Int32 × XW), k.2.2.2.2 w l0 l1 l2 l4 l5 l6 l8 = some q → WP K l mX8_order 7 162 n0 k0 (some (.int q.1)) q.2 220 [some (.ref l0), some (.int l1), some (.int l2), none, some (.int l4), some (.int l5), some (.int l6), none, some (.int l8)] [] w) {w : XW} {l0 : Nat} {l1 : Int32} {l2 : Int32} {l4 : Int32} {l5 : Int32} {l6 : Int32} {q : Int32 × XW} (h0 : hX8_order_111 k w l0 l1 l2 l4 l5 l6 = some q) : WP K l mX8_order 7 162 n0 k0 (some (.int q.1)) q.2 111 [some (.ref l0), some (.int l1), some (.int l2), none, some (.int l4), some (.int l5), some (.int l6), none, none] [] w := by
  unfold hX8_order_111 at h0
  refine wp_iload dX8_order_111 rfl ?_
  refine wp_iload dX8_order_113 rfl ?_
  refine wp_icmp_ge (tgt := 256) dX8_order_115 (by decide) (fun c1 => ?_) (fun c1 => ?_)
  · rw [if_pos c1] at h0
    refine wp_iload dX8_order_256 rfl ?_
    refine wp_sipush (v := (999 : Int32)) dX8_order_258 (by decide) ?_
    refine wp_icmp_ne (tgt := 269) dX8_order_261 (by decide) (fun c2 => ?_) (fun c2 => ?_)
    · rw [if_neg c2] at h0
      refine wp_iload_n dX8_order_269 rfl ?_
      refine wp_if_ge (tgt := 278) dX8_order_270 (by decide) (fun c3 => ?_) (fun c3 => ?_)
      · rw [if_pos c3] at h0
        refine wp_aload_n dX8_order_278 rfl ?_
        obtain ⟨x4, e6, h5⟩ := Option.bind_eq_some_iff.mp h0
        clear h0
        refine wp_getR okX8 (k := 21) (by decide) tw726 dX8_order_279 e6 ?_
        refine wp_iload_n dX8_order_282 rfl ?_
        obtain ⟨x7, e9, h8⟩ := Option.bind_eq_some_iff.mp h5
        clear h5
        refine wp_iald dX8_order_283 e9 ?_
        exact WP.wk (BX8_order_284 hk0 hk1 hk2 hk3 hk4 h8) trivial
      · rw [if_neg c3] at h0
        refine wp_iload dX8_order_273 rfl ?_
        refine wp_goto (tgt := 284) dX8_order_275 (by decide) ?_
        exact WP.wk (BX8_order_284 hk0 hk1 hk2 hk3 hk4 h0) trivial
    · rw [if_pos c2] at h0
      refine wp_bipush (v := (-4 : Int32)) dX8_order_264 (by decide) ?_
      refine wp_goto (tgt := 284) dX8_order_266 (by decide) ?_
      exact WP.wk (BX8_order_284 hk0 hk1 hk2 hk3 hk4 h0) trivial
  · rw [if_neg c1] at h0
    refine wp_aload_n dX8_order_118 rfl ?_
    refine wp_iconst (v := (0 : Int32)) dX8_order_119 (by decide) ?_
    refine wp_sipush (v := (198 : Int32)) dX8_order_120 (by decide) ?_
    obtain ⟨q10, e12, h11⟩ := Option.bind_eq_some_iff.mp h0
    clear h0
    refine wp_Vv (As := [.int (0 : Int32), .int (198 : Int32)]) (S := []) okM_X8_copies tw877 twP_X8_copies tw875 (OX8_copies e12) rfl rfl rfl ⟨(Nat.le_of_ble_eq_true rfl), (Nat.le_of_ble_eq_true rfl)⟩ (Nat.le_of_ble_eq_true rfl) rfl dX8_order_123 (MX8_copies e12) ?_
    refine wp_aload_n dX8_order_126 rfl ?_
    refine wp_sipush (v := (198 : Int32)) dX8_order_127 (by decide) ?_
    refine wp_iload dX8_order_130 rfl ?_
    refine wp_iload_n dX8_order_132 rfl ?_
    obtain ⟨q13, e15, h14⟩ := Option.bind_eq_some_iff.mp h11
    clear h11
    refine wp_Vv (As := [.int (198 : Int32), .int l6, .int l2]) (S := []) okM_X8_orders tw966 twP_X8_orders tw964 (OX8_orders e15) rfl rfl rfl ⟨(Nat.le_of_ble_eq_true rfl), (Nat.le_of_ble_eq_true rfl)⟩ (Nat.le_of_ble_eq_true rfl) rfl dX8_order_133 (MX8_orders e15) ?_
    refine wp_iconst (v := (0 : Int32)) dX8_order_136 (by decide) ?_
    refine wp_istore (L1 := [some (.ref l0), some (.int l1), some (.int l2), none, some (.int l4), some (.int l5), some (.int l6), some (.int (0 : Int32)), none]) dX8_order_137 (Nat.le_of_ble_eq_true rfl) rfl ?_
    exact WP.wk (hk3 _ _ _ _ _ _ _ _ _ h14) (And.intro rfl (And.intro rfl (And.intro rfl (And.intro rfl (And.intro rfl (And.intro rfl (And.intro rfl trivial)))))))
def hX8_order_84 (k : KTX8_order) (w : XW) (l0 : Nat) (l1 : Int32) (l2 : Int32) (l4 : Int32) (l5 : Int32) : Option (Int32 × XW) :=
  if l2 < l5 then
  k.2.2.1 w l0 l1 l2 l4 (999 : Int32) (0 : Int32)
  else
  k.2.1 w l0 l1 l2 (l4 * l5) (l5 + (1 : Int32))
theorem HX8_order_84 {K : CX} {l : Launch} {n0 k0 : Nat} {k : KTX8_order} (hk0 : ∀ (w : XW) (l0 : Nat) (l1 : Int32) (l2 : Int32) (l3 : Int32) (l4 : Int32) (q : Int32 × XW), k.1 w l0 l1 l2 l3 l4 = some q → WP K l mX8_order 7 162 n0 k0 (some (.int q.1)) q.2 42 [some (.ref l0), some (.int l1), some (.int l2), some (.int l3), some (.int l4), none, none, none, none] [] w) (hk1 : ∀ (w : XW) (l0 : Nat) (l1 : Int32) (l2 : Int32) (l4 : Int32) (l5 : Int32) (q : Int32 × XW), k.2.1 w l0 l1 l2 l4 l5 = some q → WP K l mX8_order 7 162 n0 k0 (some (.int q.1)) q.2 84 [some (.ref l0), some (.int l1), some (.int l2), none, some (.int l4), some (.int l5), none, none, none] [] w) (hk2 : ∀ (w : XW) (l0 : Nat) (l1 : Int32) (l2 : Int32) (l4 : Int32) (l5 : Int32) (l6 : Int32) (q : Int32 × XW), k.2.2.1 w l0 l1 l2 l4 l5 l6 = some q → WP K l mX8_order 7 162 n0 k0 (some (.int q.1)) q.2 111 [some (.ref l0), some (.int l1), some (.int l2), none, some (.int l4), some (.int l5), some (.int l6), none, none] [] w) (hk3 : ∀ (w : XW) (l0 : Nat) (l1 : Int32) (l2 : Int32) (l4 : Int32) (l5 : Int32) (l6 : Int32) (l7 : Int32) (q : Int32 × XW), k.2.2.2.1 w l0 l1 l2 l4 l5 l6 l7 = some q → WP K l mX8_order 7 162 n0 k0 (some (.int q.1)) q.2 139 [some (.ref l0), some (.int l1), some (.int l2), none, some (.int l4), some (.int l5), some (.int l6), some (.int l7), none] [] w) (hk4 : ∀ (w : XW) (l0 : Nat) (l1 : Int32) (l2 : Int32) (l4 : Int32) (l5 : Int32) (l6 : Int32) (l8 : Int32) (q : Int32 × XW), k.2.2.2.2 w l0 l1 l2 l4 l5 l6 l8 = some q → WP K l mX8_order 7 162 n0 k0 (some (.int q.1)) q.2 220 [some (.ref l0), some (.int l1), some (.int l2), none, some (.int l4), some (.int l5), some (.int l6), none, some (.int l8)] [] w) {w : XW} {l0 : Nat} {l1 : Int32} {l2 : Int32} {l4 : Int32} {l5 : Int32} {q : Int32 × XW} (h0 : hX8_order_84 k w l0 l1 l2 l4 l5 = some q) : WP K l mX8_order 7 162 n0 k0 (some (.int q.1)) q.2 84 [some (.ref l0), some (.int l1), some (.int l2), none, some (.int l4), some (.int l5), none, none, none] [] w := by
  unfold hX8_order_84 at h0
  refine wp_iload dX8_order_84 rfl ?_
  refine wp_iload_n dX8_order_86 rfl ?_
  refine wp_icmp_gt (tgt := 103) dX8_order_87 (by decide) (fun c1 => ?_) (fun c1 => ?_)
  · rw [if_pos c1] at h0
    refine wp_sipush (v := (999 : Int32)) dX8_order_103 (by decide) ?_
    refine wp_istore (L1 := [some (.ref l0), some (.int l1), some (.int l2), none, some (.int l4), some (.int (999 : Int32)), none, none, none]) dX8_order_106 (Nat.le_of_ble_eq_true rfl) rfl ?_
    refine wp_iconst (v := (0 : Int32)) dX8_order_108 (by decide) ?_
    refine wp_istore (L1 := [some (.ref l0), some (.int l1), some (.int l2), none, some (.int l4), some (.int (999 : Int32)), some (.int (0 : Int32)), none, none]) dX8_order_109 (Nat.le_of_ble_eq_true rfl) rfl ?_
    exact WP.wk (hk2 _ _ _ _ _ _ _ _ h0) (And.intro rfl (And.intro rfl (And.intro rfl (And.intro rfl (And.intro rfl (And.intro rfl trivial))))))
  · rw [if_neg c1] at h0
    refine wp_iload dX8_order_90 rfl ?_
    refine wp_iload dX8_order_92 rfl ?_
    refine wp_imul dX8_order_94 ?_
    refine wp_istore (L1 := [some (.ref l0), some (.int l1), some (.int l2), none, some (.int (l4 * l5)), some (.int l5), none, none, none]) dX8_order_95 (Nat.le_of_ble_eq_true rfl) rfl ?_
    refine wp_iinc (v := (l5 + (1 : Int32))) (L1 := [some (.ref l0), some (.int l1), some (.int l2), none, some (.int (l4 * l5)), some (.int (l5 + (1 : Int32))), none, none, none]) dX8_order_97 (Nat.le_of_ble_eq_true rfl) rfl (congrArg (fun z => l5 + z) (by decide)) rfl ?_
    refine wp_goto (tgt := 84) dX8_order_100 (by decide) ?_
    exact WP.wk (hk1 _ _ _ _ _ _ _ h0) (And.intro rfl (And.intro rfl (And.intro rfl (And.intro rfl (And.intro rfl trivial)))))
def hX8_order_42 (k : KTX8_order) (w : XW) (l0 : Nat) (l1 : Int32) (l2 : Int32) (l3 : Int32) (l4 : Int32) : Option (Int32 × XW) :=
  (gI w l0 8 0).bind fun x1 =>
  if x1 ≤ l4 then
  k.2.1 w l0 l1 l2 (1 : Int32) (2 : Int32)
  else
  (fX8_placeOf w l0 (0 : Int32) l4).bind fun q5 =>
  if q5.1 < 0 then
  bX8_order_72 k q5.2 l0 l1 l2 l3 l4
  else
  (gR q5.2 l0 8 20).bind fun x9 =>
  (sI q5.2 0 x9 l3 l4).bind fun w12 =>
  bX8_order_72 k w12 l0 l1 l2 (l3 + (1 : Int32)) l4
theorem HX8_order_42 {K : CX} {l : Launch} {n0 k0 : Nat} {k : KTX8_order} (hk0 : ∀ (w : XW) (l0 : Nat) (l1 : Int32) (l2 : Int32) (l3 : Int32) (l4 : Int32) (q : Int32 × XW), k.1 w l0 l1 l2 l3 l4 = some q → WP K l mX8_order 7 162 n0 k0 (some (.int q.1)) q.2 42 [some (.ref l0), some (.int l1), some (.int l2), some (.int l3), some (.int l4), none, none, none, none] [] w) (hk1 : ∀ (w : XW) (l0 : Nat) (l1 : Int32) (l2 : Int32) (l4 : Int32) (l5 : Int32) (q : Int32 × XW), k.2.1 w l0 l1 l2 l4 l5 = some q → WP K l mX8_order 7 162 n0 k0 (some (.int q.1)) q.2 84 [some (.ref l0), some (.int l1), some (.int l2), none, some (.int l4), some (.int l5), none, none, none] [] w) (hk2 : ∀ (w : XW) (l0 : Nat) (l1 : Int32) (l2 : Int32) (l4 : Int32) (l5 : Int32) (l6 : Int32) (q : Int32 × XW), k.2.2.1 w l0 l1 l2 l4 l5 l6 = some q → WP K l mX8_order 7 162 n0 k0 (some (.int q.1)) q.2 111 [some (.ref l0), some (.int l1), some (.int l2), none, some (.int l4), some (.int l5), some (.int l6), none, none] [] w) (hk3 : ∀ (w : XW) (l0 : Nat) (l1 : Int32) (l2 : Int32) (l4 : Int32) (l5 : Int32) (l6 : Int32) (l7 : Int32) (q : Int32 × XW), k.2.2.2.1 w l0 l1 l2 l4 l5 l6 l7 = some q → WP K l mX8_order 7 162 n0 k0 (some (.int q.1)) q.2 139 [some (.ref l0), some (.int l1), some (.int l2), none, some (.int l4), some (.int l5), some (.int l6), some (.int l7), none] [] w) (hk4 : ∀ (w : XW) (l0 : Nat) (l1 : Int32) (l2 : Int32) (l4 : Int32) (l5 : Int32) (l6 : Int32) (l8 : Int32) (q : Int32 × XW), k.2.2.2.2 w l0 l1 l2 l4 l5 l6 l8 = some q → WP K l mX8_order 7 162 n0 k0 (some (.int q.1)) q.2 220 [some (.ref l0), some (.int l1), some (.int l2), none, some (.int l4), some (.int l5), some (.int l6), none, some (.int l8)] [] w) {w : XW} {l0 : Nat} {l1 : Int32} {l2 : Int32} {l3 : Int32} {l4 : Int32} {q : Int32 × XW} (h0 : hX8_order_42 k w l0 l1 l2 l3 l4 = some q) : WP K l mX8_order 7 162 n0 k0 (some (.int q.1)) q.2 42 [some (.ref l0), some (.int l1), some (.int l2), some (.int l3), some (.int l4), none, none, none, none] [] w := by
  unfold hX8_order_42 at h0
  refine wp_iload dX8_order_42 rfl ?_
  refine wp_aload_n dX8_order_44 rfl ?_
  obtain ⟨x1, e3, h2⟩ := Option.bind_eq_some_iff.mp h0
  clear h0
  refine wp_getI okX8 (k := 0) (by decide) tw705 dX8_order_45 e3 ?_
  refine wp_icmp_ge (tgt := 78) dX8_order_48 (by decide) (fun c4 => ?_) (fun c4 => ?_)
  · rw [if_pos c4] at h2
    refine wp_iconst (v := (1 : Int32)) dX8_order_78 (by decide) ?_
    refine wp_istore (L1 := [some (.ref l0), some (.int l1), some (.int l2), some (.int l3), some (.int (1 : Int32)), none, none, none, none]) dX8_order_79 (Nat.le_of_ble_eq_true rfl) rfl ?_
    refine wp_iconst (v := (2 : Int32)) dX8_order_81 (by decide) ?_
    refine wp_istore (L1 := [some (.ref l0), some (.int l1), some (.int l2), some (.int l3), some (.int (1 : Int32)), some (.int (2 : Int32)), none, none, none]) dX8_order_82 (Nat.le_of_ble_eq_true rfl) rfl ?_
    exact WP.wk (hk1 _ _ _ _ _ _ _ h2) (And.intro rfl (And.intro rfl (And.intro rfl (And.intro rfl (And.intro rfl trivial)))))
  · rw [if_neg c4] at h2
    refine wp_aload_n dX8_order_51 rfl ?_
    refine wp_iconst (v := (0 : Int32)) dX8_order_52 (by decide) ?_
    refine wp_iload dX8_order_53 rfl ?_
    obtain ⟨q5, e7, h6⟩ := Option.bind_eq_some_iff.mp h2
    clear h2
    refine wp_Vi (As := [.int (0 : Int32), .int l4]) (S := []) okM_X8_placeOf tw844 twP_X8_placeOf tw842 (OX8_placeOf e7) rfl rfl rfl ⟨(Nat.le_of_ble_eq_true rfl), (Nat.le_of_ble_eq_true rfl)⟩ (Nat.le_of_ble_eq_true rfl) rfl dX8_order_55 (MX8_placeOf e7) ?_
    refine wp_if_lt (tgt := 72) dX8_order_58 (by decide) (fun c8 => ?_) (fun c8 => ?_)
    · rw [if_pos c8] at h6
      exact WP.wk (BX8_order_72 hk0 hk1 hk2 hk3 hk4 h6) (And.intro rfl (And.intro rfl (And.intro rfl (And.intro rfl (And.intro rfl trivial)))))
    · rw [if_neg c8] at h6
      refine wp_aload_n dX8_order_61 rfl ?_
      obtain ⟨x9, e11, h10⟩ := Option.bind_eq_some_iff.mp h6
      clear h6
      refine wp_getR okX8 (k := 20) (by decide) tw725 dX8_order_62 e11 ?_
      refine wp_iload_n dX8_order_65 rfl ?_
      refine wp_iload dX8_order_66 rfl ?_
      obtain ⟨w12, e14, h13⟩ := Option.bind_eq_some_iff.mp h10
      clear h10
      refine wp_iast dX8_order_68 e14 ?_
      refine wp_iinc (v := (l3 + (1 : Int32))) (L1 := [some (.ref l0), some (.int l1), some (.int l2), some (.int (l3 + (1 : Int32))), some (.int l4), none, none, none, none]) dX8_order_69 (Nat.le_of_ble_eq_true rfl) rfl (congrArg (fun z => l3 + z) (by decide)) rfl ?_
      exact WP.wk (BX8_order_72 hk0 hk1 hk2 hk3 hk4 h13) (And.intro rfl (And.intro rfl (And.intro rfl (And.intro rfl (And.intro rfl trivial)))))
def eX8_order (k : KTX8_order) (w : XW) (l0 : Nat) (l1 : Int32) : Option (Int32 × XW) :=
  (fX8_in w (l1.toInt64) (-1 : Int64) (7 : Int64)).bind fun q1 =>
  if q1.1 = 0 then
  some ((-1 : Int32), q1.2)
  else
  (gR q1.2 l0 8 7).bind fun x5 =>
  (aI q1.2 0 x5 (14 : Int32)).bind fun x8 =>
  if (5 : Int32) < x8 then
  bX8_order_34 k q1.2
  else
  if l1 < x8 then
  k.1 q1.2 l0 l1 x8 (0 : Int32) (0 : Int32)
  else
  bX8_order_34 k q1.2
theorem EX8_order {K : CX} {l : Launch} {n0 k0 : Nat} {k : KTX8_order} (hk0 : ∀ (w : XW) (l0 : Nat) (l1 : Int32) (l2 : Int32) (l3 : Int32) (l4 : Int32) (q : Int32 × XW), k.1 w l0 l1 l2 l3 l4 = some q → WP K l mX8_order 7 162 n0 k0 (some (.int q.1)) q.2 42 [some (.ref l0), some (.int l1), some (.int l2), some (.int l3), some (.int l4), none, none, none, none] [] w) (hk1 : ∀ (w : XW) (l0 : Nat) (l1 : Int32) (l2 : Int32) (l4 : Int32) (l5 : Int32) (q : Int32 × XW), k.2.1 w l0 l1 l2 l4 l5 = some q → WP K l mX8_order 7 162 n0 k0 (some (.int q.1)) q.2 84 [some (.ref l0), some (.int l1), some (.int l2), none, some (.int l4), some (.int l5), none, none, none] [] w) (hk2 : ∀ (w : XW) (l0 : Nat) (l1 : Int32) (l2 : Int32) (l4 : Int32) (l5 : Int32) (l6 : Int32) (q : Int32 × XW), k.2.2.1 w l0 l1 l2 l4 l5 l6 = some q → WP K l mX8_order 7 162 n0 k0 (some (.int q.1)) q.2 111 [some (.ref l0), some (.int l1), some (.int l2), none, some (.int l4), some (.int l5), some (.int l6), none, none] [] w) (hk3 : ∀ (w : XW) (l0 : Nat) (l1 : Int32) (l2 : Int32) (l4 : Int32) (l5 : Int32) (l6 : Int32) (l7 : Int32) (q : Int32 × XW), k.2.2.2.1 w l0 l1 l2 l4 l5 l6 l7 = some q → WP K l mX8_order 7 162 n0 k0 (some (.int q.1)) q.2 139 [some (.ref l0), some (.int l1), some (.int l2), none, some (.int l4), some (.int l5), some (.int l6), some (.int l7), none] [] w) (hk4 : ∀ (w : XW) (l0 : Nat) (l1 : Int32) (l2 : Int32) (l4 : Int32) (l5 : Int32) (l6 : Int32) (l8 : Int32) (q : Int32 × XW), k.2.2.2.2 w l0 l1 l2 l4 l5 l6 l8 = some q → WP K l mX8_order 7 162 n0 k0 (some (.int q.1)) q.2 220 [some (.ref l0), some (.int l1), some (.int l2), none, some (.int l4), some (.int l5), some (.int l6), none, some (.int l8)] [] w) {w : XW} {l0 : Nat} {l1 : Int32} {q : Int32 × XW} (h0 : eX8_order k w l0 l1 = some q) : WP K l mX8_order 7 162 n0 k0 (some (.int q.1)) q.2 0 [some (.ref l0), some (.int l1), none, none, none, none, none, none, none] [] w := by
  unfold eX8_order at h0
  refine wp_iload_n dX8_order_0 rfl ?_
  refine wp_i2l dX8_order_1 ?_
  refine wp_ldc2 tw962 dX8_order_2 ?_
  refine wp_ldc2 tw963 dX8_order_5 ?_
  obtain ⟨q1, e3, h2⟩ := Option.bind_eq_some_iff.mp h0
  clear h0
  refine wp_Si (As := [.long (l1.toInt64), .long (-1 : Int64), .long (7 : Int64)]) (S := []) okM_X8_in tw785 tw784 rfl ⟨(Nat.le_of_ble_eq_true rfl), (Nat.le_of_ble_eq_true rfl)⟩ (Nat.le_of_ble_eq_true rfl) rfl dX8_order_8 (MX8_in e3) ?_
  refine wp_if_ne (tgt := 16) dX8_order_11 (by decide) (fun c4 => ?_) (fun c4 => ?_)
  · rw [if_neg c4] at h2
    refine wp_aload_n dX8_order_16 rfl ?_
    obtain ⟨x5, e7, h6⟩ := Option.bind_eq_some_iff.mp h2
    clear h2
    refine wp_getR okX8 (k := 7) (by decide) tw712 dX8_order_17 e7 ?_
    refine wp_bipush (v := (14 : Int32)) dX8_order_20 (by decide) ?_
    obtain ⟨x8, e10, h9⟩ := Option.bind_eq_some_iff.mp h6
    clear h6
    refine wp_iald dX8_order_22 e10 ?_
    refine wp_istore_n (L1 := [some (.ref l0), some (.int l1), some (.int x8), none, none, none, none, none, none]) dX8_order_23 (Nat.le_of_ble_eq_true rfl) rfl ?_
    refine wp_iload_n dX8_order_24 rfl ?_
    refine wp_iconst (v := (5 : Int32)) dX8_order_25 (by decide) ?_
    refine wp_icmp_gt (tgt := 34) dX8_order_26 (by decide) (fun c11 => ?_) (fun c11 => ?_)
    · rw [if_pos c11] at h9
      exact WP.wk (BX8_order_34 hk0 hk1 hk2 hk3 hk4 h9) trivial
    · rw [if_neg c11] at h9
      refine wp_iload_n dX8_order_29 rfl ?_
      refine wp_iload_n dX8_order_30 rfl ?_
      refine wp_icmp_lt (tgt := 37) dX8_order_31 (by decide) (fun c12 => ?_) (fun c12 => ?_)
      · rw [if_pos c12] at h9
        refine wp_iconst (v := (0 : Int32)) dX8_order_37 (by decide) ?_
        refine wp_istore_n (L1 := [some (.ref l0), some (.int l1), some (.int x8), some (.int (0 : Int32)), none, none, none, none, none]) dX8_order_38 (Nat.le_of_ble_eq_true rfl) rfl ?_
        refine wp_iconst (v := (0 : Int32)) dX8_order_39 (by decide) ?_
        refine wp_istore (L1 := [some (.ref l0), some (.int l1), some (.int x8), some (.int (0 : Int32)), some (.int (0 : Int32)), none, none, none, none]) dX8_order_40 (Nat.le_of_ble_eq_true rfl) rfl ?_
        exact WP.wk (hk0 _ _ _ _ _ _ _ h9) (And.intro rfl (And.intro rfl (And.intro rfl (And.intro rfl (And.intro rfl trivial)))))
      · rw [if_neg c12] at h9
        exact WP.wk (BX8_order_34 hk0 hk1 hk2 hk3 hk4 h9) trivial
  · rw [if_pos c4] at h2
    refine wp_iconst (v := (-1 : Int32)) dX8_order_14 (by decide) ?_
    cases h2
    exact wp_iret rfl dX8_order_15
def loX8_order : Nat → KTX8_order
  | 0 => (fun _ _ _ _ _ _ => none, fun _ _ _ _ _ _ => none, fun _ _ _ _ _ _ _ => none, fun _ _ _ _ _ _ _ _ => none, fun _ _ _ _ _ _ _ _ => none)
  | n + 1 => (hX8_order_42 (loX8_order n), hX8_order_84 (loX8_order n), hX8_order_111 (loX8_order n), hX8_order_139 (loX8_order n), hX8_order_220 (loX8_order n))
theorem LOX8_order {K : CX} {l : Launch} {n0 k0 : Nat} : ∀ n : Nat, (∀ (w : XW) (l0 : Nat) (l1 : Int32) (l2 : Int32) (l3 : Int32) (l4 : Int32) (q : Int32 × XW), (loX8_order n).1 w l0 l1 l2 l3 l4 = some q → WP K l mX8_order 7 162 n0 k0 (some (.int q.1)) q.2 42 [some (.ref l0), some (.int l1), some (.int l2), some (.int l3), some (.int l4), none, none, none, none] [] w) ∧ (∀ (w : XW) (l0 : Nat) (l1 : Int32) (l2 : Int32) (l4 : Int32) (l5 : Int32) (q : Int32 × XW), (loX8_order n).2.1 w l0 l1 l2 l4 l5 = some q → WP K l mX8_order 7 162 n0 k0 (some (.int q.1)) q.2 84 [some (.ref l0), some (.int l1), some (.int l2), none, some (.int l4), some (.int l5), none, none, none] [] w) ∧ (∀ (w : XW) (l0 : Nat) (l1 : Int32) (l2 : Int32) (l4 : Int32) (l5 : Int32) (l6 : Int32) (q : Int32 × XW), (loX8_order n).2.2.1 w l0 l1 l2 l4 l5 l6 = some q → WP K l mX8_order 7 162 n0 k0 (some (.int q.1)) q.2 111 [some (.ref l0), some (.int l1), some (.int l2), none, some (.int l4), some (.int l5), some (.int l6), none, none] [] w) ∧ (∀ (w : XW) (l0 : Nat) (l1 : Int32) (l2 : Int32) (l4 : Int32) (l5 : Int32) (l6 : Int32) (l7 : Int32) (q : Int32 × XW), (loX8_order n).2.2.2.1 w l0 l1 l2 l4 l5 l6 l7 = some q → WP K l mX8_order 7 162 n0 k0 (some (.int q.1)) q.2 139 [some (.ref l0), some (.int l1), some (.int l2), none, some (.int l4), some (.int l5), some (.int l6), some (.int l7), none] [] w) ∧ (∀ (w : XW) (l0 : Nat) (l1 : Int32) (l2 : Int32) (l4 : Int32) (l5 : Int32) (l6 : Int32) (l8 : Int32) (q : Int32 × XW), (loX8_order n).2.2.2.2 w l0 l1 l2 l4 l5 l6 l8 = some q → WP K l mX8_order 7 162 n0 k0 (some (.int q.1)) q.2 220 [some (.ref l0), some (.int l1), some (.int l2), none, some (.int l4), some (.int l5), some (.int l6), none, some (.int l8)] [] w) := by
  intro n
  induction n with
  | zero => exact ⟨fun _ _ _ _ _ _ q h => (by cases h), fun _ _ _ _ _ _ q h => (by cases h), fun _ _ _ _ _ _ _ q h => (by cases h), fun _ _ _ _ _ _ _ _ q h => (by cases h), fun _ _ _ _ _ _ _ _ q h => (by cases h)⟩
  | succ n ih => exact ⟨fun _ _ _ _ _ _ q h => HX8_order_42 ih.1 ih.2.1 ih.2.2.1 ih.2.2.2.1 ih.2.2.2.2 h, fun _ _ _ _ _ _ q h => HX8_order_84 ih.1 ih.2.1 ih.2.2.1 ih.2.2.2.1 ih.2.2.2.2 h, fun _ _ _ _ _ _ _ q h => HX8_order_111 ih.1 ih.2.1 ih.2.2.1 ih.2.2.2.1 ih.2.2.2.2 h, fun _ _ _ _ _ _ _ _ q h => HX8_order_139 ih.1 ih.2.1 ih.2.2.1 ih.2.2.2.1 ih.2.2.2.2 h, fun _ _ _ _ _ _ _ _ q h => HX8_order_220 ih.1 ih.2.1 ih.2.2.1 ih.2.2.2.1 ih.2.2.2.2 h⟩
def fX8_order (w : XW) (l0 : Nat) (l1 : Int32) : Option (Int32 × XW) := if isO w l0 8 = true then eX8_order (loX8_order FU) w l0 l1 else none
theorem OX8_order {w : XW} {l0 : Nat} {l1 : Int32} {q : Int32 × XW} (h : fX8_order w l0 l1 = some q) : isO w l0 8 = true := Decidable.byContradiction fun z => by unfold fX8_order at h; rw [if_neg z] at h; cases h
theorem MX8_order {K : CX} {l : Launch} {w : XW} {l0 : Nat} {l1 : Int32} {q : Int32 × XW} (h : fX8_order w l0 l1 = some q) : MT K l mX8_order 7 162 [.ref l0, .int l1] w (some (.int q.1)) q.2 := by
  have z := OX8_order h
  unfold fX8_order at h
  rw [if_pos z] at h
  exact MT.of (by decide) (Nat.le_of_ble_eq_true rfl) rfl (EX8_order (LOX8_order FU).1 (LOX8_order FU).2.1 (LOX8_order FU).2.2.1 (LOX8_order FU).2.2.2.1 (LOX8_order FU).2.2.2.2 h)
/-! FractionRun$State.beginAtPowerOfTwo(I)V: frames 2, words 40 -/
abbrev mX5_beginAtPowerOfTwo : MR := (⟨"FractionRun$State", "beginAtPowerOfTwo", "(I)V"⟩, prog_7_method_3_code, 3, none)
theorem dX5_beginAtPowerOfTwo_0 : decode prog_7_method_3_code 0 = .ok (.iconst 0, 1) := by decide +kernel
theorem dX5_beginAtPowerOfTwo_1 : decode prog_7_method_3_code 1 = .ok (.istore_n 2, 1) := by decide +kernel
theorem dX5_beginAtPowerOfTwo_2 : decode prog_7_method_3_code 2 = .ok (.iload_n 2, 1) := by decide +kernel
theorem dX5_beginAtPowerOfTwo_3 : decode prog_7_method_3_code 3 = .ok (.bipush 6, 2) := by decide +kernel
theorem dX5_beginAtPowerOfTwo_5 : decode prog_7_method_3_code 5 = .ok (.if_icmp .ge 16, 3) := by decide +kernel
theorem dX5_beginAtPowerOfTwo_8 : decode prog_7_method_3_code 8 = .ok (.aload_n 0, 1) := by decide +kernel
theorem dX5_beginAtPowerOfTwo_9 : decode prog_7_method_3_code 9 = .ok (.getfield 9, 3) := by decide +kernel
theorem dX5_beginAtPowerOfTwo_12 : decode prog_7_method_3_code 12 = .ok (.iload_n 2, 1) := by decide +kernel
theorem dX5_beginAtPowerOfTwo_13 : decode prog_7_method_3_code 13 = .ok (.iconst 0, 1) := by decide +kernel
theorem dX5_beginAtPowerOfTwo_14 : decode prog_7_method_3_code 14 = .ok (.iastore, 1) := by decide +kernel
theorem dX5_beginAtPowerOfTwo_15 : decode prog_7_method_3_code 15 = .ok (.iinc 2 1, 3) := by decide +kernel
theorem dX5_beginAtPowerOfTwo_18 : decode prog_7_method_3_code 18 = .ok (.goto (-16), 3) := by decide +kernel
theorem dX5_beginAtPowerOfTwo_21 : decode prog_7_method_3_code 21 = .ok (.aload_n 0, 1) := by decide +kernel
theorem dX5_beginAtPowerOfTwo_22 : decode prog_7_method_3_code 22 = .ok (.getfield 9, 3) := by decide +kernel
theorem dX5_beginAtPowerOfTwo_25 : decode prog_7_method_3_code 25 = .ok (.iconst 0, 1) := by decide +kernel
theorem dX5_beginAtPowerOfTwo_26 : decode prog_7_method_3_code 26 = .ok (.iload_n 1, 1) := by decide +kernel
theorem dX5_beginAtPowerOfTwo_27 : decode prog_7_method_3_code 27 = .ok (.iastore, 1) := by decide +kernel
theorem dX5_beginAtPowerOfTwo_28 : decode prog_7_method_3_code 28 = .ok (.aload_n 0, 1) := by decide +kernel
theorem dX5_beginAtPowerOfTwo_29 : decode prog_7_method_3_code 29 = .ok (.invokevirtual 36, 3) := by decide +kernel
theorem dX5_beginAtPowerOfTwo_32 : decode prog_7_method_3_code 32 = .ok (.return_, 1) := by decide +kernel
theorem okM_X5_beginAtPowerOfTwo : okM mX5_beginAtPowerOfTwo 1 := ⟨tw565, tw5, by decide, by decide, by decide +kernel⟩
abbrev KTX5_beginAtPowerOfTwo : Type := (XW → Nat → Int32 → Int32 → Option XW)
def hX5_beginAtPowerOfTwo_2 (k : KTX5_beginAtPowerOfTwo) (w : XW) (l0 : Nat) (l1 : Int32) (l2 : Int32) : Option XW :=
  if (6 : Int32) ≤ l2 then
  (gR w l0 5 0).bind fun x2 =>
  (sI w 0 x2 (0 : Int32) l1).bind fun w5 =>
  (fX5_forgetSteps w5 l0).bind fun q8 =>
  some q8
  else
  (gR w l0 5 0).bind fun x11 =>
  (sI w 0 x11 l2 (0 : Int32)).bind fun w14 =>
  k w14 l0 l1 (l2 + (1 : Int32))
theorem HX5_beginAtPowerOfTwo_2 {K : CX} {l : Launch} {n0 k0 : Nat} {k : KTX5_beginAtPowerOfTwo} (hk0 : ∀ (w : XW) (l0 : Nat) (l1 : Int32) (l2 : Int32) (q : XW), k w l0 l1 l2 = some q → WP K l mX5_beginAtPowerOfTwo 2 40 n0 k0 none q 2 [some (.ref l0), some (.int l1), some (.int l2)] [] w) {w : XW} {l0 : Nat} {l1 : Int32} {l2 : Int32} {q : XW} (h0 : hX5_beginAtPowerOfTwo_2 k w l0 l1 l2 = some q) : WP K l mX5_beginAtPowerOfTwo 2 40 n0 k0 none q 2 [some (.ref l0), some (.int l1), some (.int l2)] [] w := by
  unfold hX5_beginAtPowerOfTwo_2 at h0
  refine wp_iload_n dX5_beginAtPowerOfTwo_2 rfl ?_
  refine wp_bipush (v := (6 : Int32)) dX5_beginAtPowerOfTwo_3 (by decide) ?_
  refine wp_icmp_ge (tgt := 21) dX5_beginAtPowerOfTwo_5 (by decide) (fun c1 => ?_) (fun c1 => ?_)
  · rw [if_pos c1] at h0
    refine wp_aload_n dX5_beginAtPowerOfTwo_21 rfl ?_
    obtain ⟨x2, e4, h3⟩ := Option.bind_eq_some_iff.mp h0
    clear h0
    refine wp_getR okX5 (k := 0) (by decide) tw92 dX5_beginAtPowerOfTwo_22 e4 ?_
    refine wp_iconst (v := (0 : Int32)) dX5_beginAtPowerOfTwo_25 (by decide) ?_
    refine wp_iload_n dX5_beginAtPowerOfTwo_26 rfl ?_
    obtain ⟨w5, e7, h6⟩ := Option.bind_eq_some_iff.mp h3
    clear h3
    refine wp_iast dX5_beginAtPowerOfTwo_27 e7 ?_
    refine wp_aload_n dX5_beginAtPowerOfTwo_28 rfl ?_
    obtain ⟨q8, e10, h9⟩ := Option.bind_eq_some_iff.mp h6
    clear h6
    refine wp_Vv (As := []) (S := []) okM_X5_forgetSteps tw296 twP_X5_forgetSteps tw294 (OX5_forgetSteps e10) rfl rfl rfl ⟨(Nat.le_of_ble_eq_true rfl), (Nat.le_of_ble_eq_true rfl)⟩ (Nat.le_of_ble_eq_true rfl) rfl dX5_beginAtPowerOfTwo_29 (MX5_forgetSteps e10) ?_
    cases h9
    exact wp_vret rfl dX5_beginAtPowerOfTwo_32
  · rw [if_neg c1] at h0
    refine wp_aload_n dX5_beginAtPowerOfTwo_8 rfl ?_
    obtain ⟨x11, e13, h12⟩ := Option.bind_eq_some_iff.mp h0
    clear h0
    refine wp_getR okX5 (k := 0) (by decide) tw92 dX5_beginAtPowerOfTwo_9 e13 ?_
    refine wp_iload_n dX5_beginAtPowerOfTwo_12 rfl ?_
    refine wp_iconst (v := (0 : Int32)) dX5_beginAtPowerOfTwo_13 (by decide) ?_
    obtain ⟨w14, e16, h15⟩ := Option.bind_eq_some_iff.mp h12
    clear h12
    refine wp_iast dX5_beginAtPowerOfTwo_14 e16 ?_
    refine wp_iinc (v := (l2 + (1 : Int32))) (L1 := [some (.ref l0), some (.int l1), some (.int (l2 + (1 : Int32)))]) dX5_beginAtPowerOfTwo_15 (Nat.le_of_ble_eq_true rfl) rfl (congrArg (fun z => l2 + z) (by decide)) rfl ?_
    refine wp_goto (tgt := 2) dX5_beginAtPowerOfTwo_18 (by decide) ?_
    exact WP.wk (hk0 _ _ _ _ _ h15) (And.intro rfl (And.intro rfl (And.intro rfl trivial)))
def eX5_beginAtPowerOfTwo (k : KTX5_beginAtPowerOfTwo) (w : XW) (l0 : Nat) (l1 : Int32) : Option XW :=
  k w l0 l1 (0 : Int32)
theorem EX5_beginAtPowerOfTwo {K : CX} {l : Launch} {n0 k0 : Nat} {k : KTX5_beginAtPowerOfTwo} (hk0 : ∀ (w : XW) (l0 : Nat) (l1 : Int32) (l2 : Int32) (q : XW), k w l0 l1 l2 = some q → WP K l mX5_beginAtPowerOfTwo 2 40 n0 k0 none q 2 [some (.ref l0), some (.int l1), some (.int l2)] [] w) {w : XW} {l0 : Nat} {l1 : Int32} {q : XW} (h0 : eX5_beginAtPowerOfTwo k w l0 l1 = some q) : WP K l mX5_beginAtPowerOfTwo 2 40 n0 k0 none q 0 [some (.ref l0), some (.int l1), none] [] w := by
  unfold eX5_beginAtPowerOfTwo at h0
  refine wp_iconst (v := (0 : Int32)) dX5_beginAtPowerOfTwo_0 (by decide) ?_
  refine wp_istore_n (L1 := [some (.ref l0), some (.int l1), some (.int (0 : Int32))]) dX5_beginAtPowerOfTwo_1 (Nat.le_of_ble_eq_true rfl) rfl ?_
  exact WP.wk (hk0 _ _ _ _ _ h0) (And.intro rfl (And.intro rfl (And.intro rfl trivial)))
def loX5_beginAtPowerOfTwo : Nat → KTX5_beginAtPowerOfTwo
  | 0 => fun _ _ _ _ => none
  | n + 1 => hX5_beginAtPowerOfTwo_2 (loX5_beginAtPowerOfTwo n)
theorem LOX5_beginAtPowerOfTwo {K : CX} {l : Launch} {n0 k0 : Nat} : ∀ n : Nat, (∀ (w : XW) (l0 : Nat) (l1 : Int32) (l2 : Int32) (q : XW), (loX5_beginAtPowerOfTwo n) w l0 l1 l2 = some q → WP K l mX5_beginAtPowerOfTwo 2 40 n0 k0 none q 2 [some (.ref l0), some (.int l1), some (.int l2)] [] w) := by
  intro n
  induction n with
  | zero => exact fun _ _ _ _ q h => (by cases h)
  | succ n ih => exact fun _ _ _ _ q h => HX5_beginAtPowerOfTwo_2 ih h
def fX5_beginAtPowerOfTwo (w : XW) (l0 : Nat) (l1 : Int32) : Option XW := if isO w l0 5 = true then eX5_beginAtPowerOfTwo (loX5_beginAtPowerOfTwo FU) w l0 l1 else none
theorem OX5_beginAtPowerOfTwo {w : XW} {l0 : Nat} {l1 : Int32} {q : XW} (h : fX5_beginAtPowerOfTwo w l0 l1 = some q) : isO w l0 5 = true := Decidable.byContradiction fun z => by unfold fX5_beginAtPowerOfTwo at h; rw [if_neg z] at h; cases h
theorem MX5_beginAtPowerOfTwo {K : CX} {l : Launch} {w : XW} {l0 : Nat} {l1 : Int32} {q : XW} (h : fX5_beginAtPowerOfTwo w l0 l1 = some q) : MT K l mX5_beginAtPowerOfTwo 2 40 [.ref l0, .int l1] w none q := by
  have z := OX5_beginAtPowerOfTwo h
  unfold fX5_beginAtPowerOfTwo at h
  rw [if_pos z] at h
  exact MT.of (by decide) (Nat.le_of_ble_eq_true rfl) rfl (EX5_beginAtPowerOfTwo (LOX5_beginAtPowerOfTwo FU) h)
/-! FractionRun.powerAtRestFrom(II)I: frames 6, words 139 -/
abbrev mX7_powerAtRestFrom : MR := (⟨"FractionRun", "powerAtRestFrom", "(II)I"⟩, prog_1_method_38_code, 3, (some .int))
theorem dX7_powerAtRestFrom_0 : decode prog_1_method_38_code 0 = .ok (.aload_n 0, 1) := by decide +kernel
theorem dX7_powerAtRestFrom_1 : decode prog_1_method_38_code 1 = .ok (.getfield 40, 3) := by decide +kernel
theorem dX7_powerAtRestFrom_4 : decode prog_1_method_38_code 4 = .ok (.aload_n 0, 1) := by decide +kernel
theorem dX7_powerAtRestFrom_5 : decode prog_1_method_38_code 5 = .ok (.getfield 36, 3) := by decide +kernel
theorem dX7_powerAtRestFrom_8 : decode prog_1_method_38_code 8 = .ok (.invokevirtual 189, 3) := by decide +kernel
theorem dX7_powerAtRestFrom_11 : decode prog_1_method_38_code 11 = .ok (.aload_n 0, 1) := by decide +kernel
theorem dX7_powerAtRestFrom_12 : decode prog_1_method_38_code 12 = .ok (.getfield 40, 3) := by decide +kernel
theorem dX7_powerAtRestFrom_15 : decode prog_1_method_38_code 15 = .ok (.iload_n 1, 1) := by decide +kernel
theorem dX7_powerAtRestFrom_16 : decode prog_1_method_38_code 16 = .ok (.invokevirtual 289, 3) := by decide +kernel
theorem dX7_powerAtRestFrom_19 : decode prog_1_method_38_code 19 = .ok (.aload_n 0, 1) := by decide +kernel
theorem dX7_powerAtRestFrom_20 : decode prog_1_method_38_code 20 = .ok (.getfield 40, 3) := by decide +kernel
theorem dX7_powerAtRestFrom_23 : decode prog_1_method_38_code 23 = .ok (.aload_n 0, 1) := by decide +kernel
theorem dX7_powerAtRestFrom_24 : decode prog_1_method_38_code 24 = .ok (.getfield 26, 3) := by decide +kernel
theorem dX7_powerAtRestFrom_27 : decode prog_1_method_38_code 27 = .ok (.sipush 200, 3) := by decide +kernel
theorem dX7_powerAtRestFrom_30 : decode prog_1_method_38_code 30 = .ok (.invokevirtual 195, 3) := by decide +kernel
theorem dX7_powerAtRestFrom_33 : decode prog_1_method_38_code 33 = .ok (.bipush (-4), 2) := by decide +kernel
theorem dX7_powerAtRestFrom_35 : decode prog_1_method_38_code 35 = .ok (.if_icmp .ne 8, 3) := by decide +kernel
theorem dX7_powerAtRestFrom_38 : decode prog_1_method_38_code 38 = .ok (.bipush (-4), 2) := by decide +kernel
theorem dX7_powerAtRestFrom_40 : decode prog_1_method_38_code 40 = .ok (.goto 12, 3) := by decide +kernel
theorem dX7_powerAtRestFrom_43 : decode prog_1_method_38_code 43 = .ok (.aload_n 0, 1) := by decide +kernel
theorem dX7_powerAtRestFrom_44 : decode prog_1_method_38_code 44 = .ok (.getfield 40, 3) := by decide +kernel
theorem dX7_powerAtRestFrom_47 : decode prog_1_method_38_code 47 = .ok (.getfield 147, 3) := by decide +kernel
theorem dX7_powerAtRestFrom_50 : decode prog_1_method_38_code 50 = .ok (.iload_n 2, 1) := by decide +kernel
theorem dX7_powerAtRestFrom_51 : decode prog_1_method_38_code 51 = .ok (.iaload, 1) := by decide +kernel
theorem dX7_powerAtRestFrom_52 : decode prog_1_method_38_code 52 = .ok (.ireturn, 1) := by decide +kernel
theorem okM_X7_powerAtRestFrom : okM mX7_powerAtRestFrom 2 := ⟨tw561, tw1, by decide, by decide, by decide +kernel⟩
def bX7_powerAtRestFrom_52 (w : XW) (s0 : Int32) : Option (Int32 × XW) :=
  some (s0, w)
theorem BX7_powerAtRestFrom_52 {K : CX} {l : Launch} {n0 k0 : Nat} {w : XW} {s0 : Int32} {q : Int32 × XW} (h0 : bX7_powerAtRestFrom_52 w s0 = some q) : WP K l mX7_powerAtRestFrom 6 139 n0 k0 (some (.int q.1)) q.2 52 [none, none, none] [.int s0] w := by
  unfold bX7_powerAtRestFrom_52 at h0
  cases h0
  exact wp_iret rfl dX7_powerAtRestFrom_52
def eX7_powerAtRestFrom (w : XW) (l0 : Nat) (l1 : Int32) (l2 : Int32) : Option (Int32 × XW) :=
  (gR w l0 7 5).bind fun x1 =>
  (gR w l0 7 4).bind fun x4 =>
  (fX5_copyFrom w x1 x4).bind fun q7 =>
  (gR q7 l0 7 5).bind fun x10 =>
  (fX5_beginAtPowerOfTwo q7 x10 l1).bind fun q13 =>
  (gR q13 l0 7 5).bind fun x16 =>
  (gR q13 l0 7 2).bind fun x19 =>
  (fX5_stepsToRest q13 x16 x19 (200 : Int32)).bind fun q22 =>
  if q22.1 = (-4 : Int32) then
  bX7_powerAtRestFrom_52 q22.2 (-4 : Int32)
  else
  (gR q22.2 l0 7 5).bind fun x26 =>
  (gR q22.2 x26 5 0).bind fun x29 =>
  (aI q22.2 0 x29 l2).bind fun x32 =>
  bX7_powerAtRestFrom_52 q22.2 x32
theorem EX7_powerAtRestFrom {K : CX} {l : Launch} {n0 k0 : Nat} {w : XW} {l0 : Nat} {l1 : Int32} {l2 : Int32} {q : Int32 × XW} (h0 : eX7_powerAtRestFrom w l0 l1 l2 = some q) : WP K l mX7_powerAtRestFrom 6 139 n0 k0 (some (.int q.1)) q.2 0 [some (.ref l0), some (.int l1), some (.int l2)] [] w := by
  unfold eX7_powerAtRestFrom at h0
  refine wp_aload_n dX7_powerAtRestFrom_0 rfl ?_
  obtain ⟨x1, e3, h2⟩ := Option.bind_eq_some_iff.mp h0
  clear h0
  refine wp_getR okX7 (k := 5) (by decide) tw303 dX7_powerAtRestFrom_1 e3 ?_
  refine wp_aload_n dX7_powerAtRestFrom_4 rfl ?_
  obtain ⟨x4, e6, h5⟩ := Option.bind_eq_some_iff.mp h2
  clear h2
  refine wp_getR okX7 (k := 4) (by decide) tw302 dX7_powerAtRestFrom_5 e6 ?_
  obtain ⟨q7, e9, h8⟩ := Option.bind_eq_some_iff.mp h5
  clear h5
  refine wp_Vv (As := [.ref x4]) (S := []) okM_X5_copyFrom tw419 tw420 tw474 (OX5_copyFrom e9) rfl rfl rfl ⟨(Nat.le_of_ble_eq_true rfl), (Nat.le_of_ble_eq_true rfl)⟩ (Nat.le_of_ble_eq_true rfl) rfl dX7_powerAtRestFrom_8 (MX5_copyFrom e9) ?_
  refine wp_aload_n dX7_powerAtRestFrom_11 rfl ?_
  obtain ⟨x10, e12, h11⟩ := Option.bind_eq_some_iff.mp h8
  clear h8
  refine wp_getR okX7 (k := 5) (by decide) tw303 dX7_powerAtRestFrom_12 e12 ?_
  refine wp_iload_n dX7_powerAtRestFrom_15 rfl ?_
  obtain ⟨q13, e15, h14⟩ := Option.bind_eq_some_iff.mp h11
  clear h11
  refine wp_Vv (As := [.int l1]) (S := []) okM_X5_beginAtPowerOfTwo tw563 tw564 tw562 (OX5_beginAtPowerOfTwo e15) rfl rfl rfl ⟨(Nat.le_of_ble_eq_true rfl), (Nat.le_of_ble_eq_true rfl)⟩ (Nat.le_of_ble_eq_true rfl) rfl dX7_powerAtRestFrom_16 (MX5_beginAtPowerOfTwo e15) ?_
  refine wp_aload_n dX7_powerAtRestFrom_19 rfl ?_
  obtain ⟨x16, e18, h17⟩ := Option.bind_eq_some_iff.mp h14
  clear h14
  refine wp_getR okX7 (k := 5) (by decide) tw303 dX7_powerAtRestFrom_20 e18 ?_
  refine wp_aload_n dX7_powerAtRestFrom_23 rfl ?_
  obtain ⟨x19, e21, h20⟩ := Option.bind_eq_some_iff.mp h17
  clear h17
  refine wp_getR okX7 (k := 2) (by decide) tw300 dX7_powerAtRestFrom_24 e21 ?_
  refine wp_sipush (v := (200 : Int32)) dX7_powerAtRestFrom_27 (by decide) ?_
  obtain ⟨q22, e24, h23⟩ := Option.bind_eq_some_iff.mp h20
  clear h20
  refine wp_Vi (As := [.ref x19, .int (200 : Int32)]) (S := []) okM_X5_stepsToRest tw485 tw486 tw484 (OX5_stepsToRest e24) rfl rfl rfl ⟨(Nat.le_of_ble_eq_true rfl), (Nat.le_of_ble_eq_true rfl)⟩ (Nat.le_of_ble_eq_true rfl) rfl dX7_powerAtRestFrom_30 (MX5_stepsToRest e24) ?_
  refine wp_bipush (v := (-4 : Int32)) dX7_powerAtRestFrom_33 (by decide) ?_
  refine wp_icmp_ne (tgt := 43) dX7_powerAtRestFrom_35 (by decide) (fun c25 => ?_) (fun c25 => ?_)
  · rw [if_neg c25] at h23
    refine wp_aload_n dX7_powerAtRestFrom_43 rfl ?_
    obtain ⟨x26, e28, h27⟩ := Option.bind_eq_some_iff.mp h23
    clear h23
    refine wp_getR okX7 (k := 5) (by decide) tw303 dX7_powerAtRestFrom_44 e28 ?_
    obtain ⟨x29, e31, h30⟩ := Option.bind_eq_some_iff.mp h27
    clear h27
    refine wp_getR okX5 (k := 0) (by decide) tw94 dX7_powerAtRestFrom_47 e31 ?_
    refine wp_iload_n dX7_powerAtRestFrom_50 rfl ?_
    obtain ⟨x32, e34, h33⟩ := Option.bind_eq_some_iff.mp h30
    clear h30
    refine wp_iald dX7_powerAtRestFrom_51 e34 ?_
    exact WP.wk (BX7_powerAtRestFrom_52 h33) trivial
  · rw [if_pos c25] at h23
    refine wp_bipush (v := (-4 : Int32)) dX7_powerAtRestFrom_38 (by decide) ?_
    refine wp_goto (tgt := 52) dX7_powerAtRestFrom_40 (by decide) ?_
    exact WP.wk (BX7_powerAtRestFrom_52 h23) trivial
def fX7_powerAtRestFrom (w : XW) (l0 : Nat) (l1 : Int32) (l2 : Int32) : Option (Int32 × XW) := if isO w l0 7 = true then eX7_powerAtRestFrom w l0 l1 l2 else none
theorem OX7_powerAtRestFrom {w : XW} {l0 : Nat} {l1 : Int32} {l2 : Int32} {q : Int32 × XW} (h : fX7_powerAtRestFrom w l0 l1 l2 = some q) : isO w l0 7 = true := Decidable.byContradiction fun z => by unfold fX7_powerAtRestFrom at h; rw [if_neg z] at h; cases h
theorem MX7_powerAtRestFrom {K : CX} {l : Launch} {w : XW} {l0 : Nat} {l1 : Int32} {l2 : Int32} {q : Int32 × XW} (h : fX7_powerAtRestFrom w l0 l1 l2 = some q) : MT K l mX7_powerAtRestFrom 6 139 [.ref l0, .int l1, .int l2] w (some (.int q.1)) q.2 := by
  have z := OX7_powerAtRestFrom h
  unfold fX7_powerAtRestFrom at h
  rw [if_pos z] at h
  exact MT.of (by decide) (Nat.le_of_ble_eq_true rfl) rfl (EX7_powerAtRestFrom h)
/-! FractionRun.map(II)I: frames 7, words 161 -/
abbrev mX7_map : MR := (⟨"FractionRun", "map", "(II)I"⟩, prog_1_method_21_code, 3, (some .int))
theorem dX7_map_0 : decode prog_1_method_21_code 0 = .ok (.iload_n 1, 1) := by decide +kernel
theorem dX7_map_1 : decode prog_1_method_21_code 1 = .ok (.ifCond .lt 16, 3) := by decide +kernel
theorem dX7_map_4 : decode prog_1_method_21_code 4 = .ok (.iload_n 1, 1) := by decide +kernel
theorem dX7_map_5 : decode prog_1_method_21_code 5 = .ok (.bipush 40, 2) := by decide +kernel
theorem dX7_map_7 : decode prog_1_method_21_code 7 = .ok (.if_icmp .gt 10, 3) := by decide +kernel
theorem dX7_map_10 : decode prog_1_method_21_code 10 = .ok (.iload_n 2, 1) := by decide +kernel
theorem dX7_map_11 : decode prog_1_method_21_code 11 = .ok (.invokestatic 144, 3) := by decide +kernel
theorem dX7_map_14 : decode prog_1_method_21_code 14 = .ok (.ifCond .ne 5, 3) := by decide +kernel
theorem dX7_map_17 : decode prog_1_method_21_code 17 = .ok (.iconst (-1), 1) := by decide +kernel
theorem dX7_map_18 : decode prog_1_method_21_code 18 = .ok (.ireturn, 1) := by decide +kernel
theorem dX7_map_19 : decode prog_1_method_21_code 19 = .ok (.aload_n 0, 1) := by decide +kernel
theorem dX7_map_20 : decode prog_1_method_21_code 20 = .ok (.iload_n 1, 1) := by decide +kernel
theorem dX7_map_21 : decode prog_1_method_21_code 21 = .ok (.iload_n 2, 1) := by decide +kernel
theorem dX7_map_22 : decode prog_1_method_21_code 22 = .ok (.invokevirtual 227, 3) := by decide +kernel
theorem dX7_map_25 : decode prog_1_method_21_code 25 = .ok (.ireturn, 1) := by decide +kernel
theorem okM_X7_map : okM mX7_map 2 := ⟨tw557, tw1, by decide, by decide, by decide +kernel⟩
def bX7_map_17 (w : XW) : Option (Int32 × XW) :=
  some ((-1 : Int32), w)
theorem BX7_map_17 {K : CX} {l : Launch} {n0 k0 : Nat} {w : XW} {q : Int32 × XW} (h0 : bX7_map_17 w = some q) : WP K l mX7_map 7 161 n0 k0 (some (.int q.1)) q.2 17 [none, none, none] [] w := by
  unfold bX7_map_17 at h0
  refine wp_iconst (v := (-1 : Int32)) dX7_map_17 (by decide) ?_
  cases h0
  exact wp_iret rfl dX7_map_18
def eX7_map (w : XW) (l0 : Nat) (l1 : Int32) (l2 : Int32) : Option (Int32 × XW) :=
  if l1 < 0 then
  bX7_map_17 w
  else
  if (40 : Int32) < l1 then
  bX7_map_17 w
  else
  (fX7_isPrime w l2).bind fun q3 =>
  if q3.1 = 0 then
  bX7_map_17 q3.2
  else
  (fX7_powerAtRestFrom q3.2 l0 l1 l2).bind fun q7 =>
  some (q7.1, q7.2)
theorem EX7_map {K : CX} {l : Launch} {n0 k0 : Nat} {w : XW} {l0 : Nat} {l1 : Int32} {l2 : Int32} {q : Int32 × XW} (h0 : eX7_map w l0 l1 l2 = some q) : WP K l mX7_map 7 161 n0 k0 (some (.int q.1)) q.2 0 [some (.ref l0), some (.int l1), some (.int l2)] [] w := by
  unfold eX7_map at h0
  refine wp_iload_n dX7_map_0 rfl ?_
  refine wp_if_lt (tgt := 17) dX7_map_1 (by decide) (fun c1 => ?_) (fun c1 => ?_)
  · rw [if_pos c1] at h0
    exact WP.wk (BX7_map_17 h0) trivial
  · rw [if_neg c1] at h0
    refine wp_iload_n dX7_map_4 rfl ?_
    refine wp_bipush (v := (40 : Int32)) dX7_map_5 (by decide) ?_
    refine wp_icmp_gt (tgt := 17) dX7_map_7 (by decide) (fun c2 => ?_) (fun c2 => ?_)
    · rw [if_pos c2] at h0
      exact WP.wk (BX7_map_17 h0) trivial
    · rw [if_neg c2] at h0
      refine wp_iload_n dX7_map_10 rfl ?_
      obtain ⟨q3, e5, h4⟩ := Option.bind_eq_some_iff.mp h0
      clear h0
      refine wp_Si (As := [.int l2]) (S := []) okM_X7_isPrime tw399 tw398 rfl ⟨(Nat.le_of_ble_eq_true rfl), (Nat.le_of_ble_eq_true rfl)⟩ (Nat.le_of_ble_eq_true rfl) rfl dX7_map_11 (MX7_isPrime e5) ?_
      refine wp_if_ne (tgt := 19) dX7_map_14 (by decide) (fun c6 => ?_) (fun c6 => ?_)
      · rw [if_neg c6] at h4
        refine wp_aload_n dX7_map_19 rfl ?_
        refine wp_iload_n dX7_map_20 rfl ?_
        refine wp_iload_n dX7_map_21 rfl ?_
        obtain ⟨q7, e9, h8⟩ := Option.bind_eq_some_iff.mp h4
        clear h4
        refine wp_Vi (As := [.int l1, .int l2]) (S := []) okM_X7_powerAtRestFrom tw560 twP_X7_powerAtRestFrom tw558 (OX7_powerAtRestFrom e9) rfl rfl rfl ⟨(Nat.le_of_ble_eq_true rfl), (Nat.le_of_ble_eq_true rfl)⟩ (Nat.le_of_ble_eq_true rfl) rfl dX7_map_22 (MX7_powerAtRestFrom e9) ?_
        cases h8
        exact wp_iret rfl dX7_map_25
      · rw [if_pos c6] at h4
        exact WP.wk (BX7_map_17 h4) trivial
def fX7_map (w : XW) (l0 : Nat) (l1 : Int32) (l2 : Int32) : Option (Int32 × XW) := if isO w l0 7 = true then eX7_map w l0 l1 l2 else none
theorem OX7_map {w : XW} {l0 : Nat} {l1 : Int32} {l2 : Int32} {q : Int32 × XW} (h : fX7_map w l0 l1 l2 = some q) : isO w l0 7 = true := Decidable.byContradiction fun z => by unfold fX7_map at h; rw [if_neg z] at h; cases h
theorem MX7_map {K : CX} {l : Launch} {w : XW} {l0 : Nat} {l1 : Int32} {l2 : Int32} {q : Int32 × XW} (h : fX7_map w l0 l1 l2 = some q) : MT K l mX7_map 7 161 [.ref l0, .int l1, .int l2] w (some (.int q.1)) q.2 := by
  have z := OX7_map h
  unfold fX7_map at h
  rw [if_pos z] at h
  exact MT.of (by decide) (Nat.le_of_ble_eq_true rfl) rfl (EX7_map h)
/-! FractionRunModel.mapOf(II)I: frames 7, words 162 -/
abbrev mX8_mapOf : MR := (⟨"FractionRunModel", "mapOf", "(II)I"⟩, prog_10_method_51_code, 4, (some .int))
theorem dX8_mapOf_0 : decode prog_10_method_51_code 0 = .ok (.aload_n 0, 1) := by decide +kernel
theorem dX8_mapOf_1 : decode prog_10_method_51_code 1 = .ok (.iconst 0, 1) := by decide +kernel
theorem dX8_mapOf_2 : decode prog_10_method_51_code 2 = .ok (.sipush 198, 3) := by decide +kernel
theorem dX8_mapOf_5 : decode prog_10_method_51_code 5 = .ok (.invokevirtual 155, 3) := by decide +kernel
theorem dX8_mapOf_8 : decode prog_10_method_51_code 8 = .ok (.iconst 0, 1) := by decide +kernel
theorem dX8_mapOf_9 : decode prog_10_method_51_code 9 = .ok (.istore_n 3, 1) := by decide +kernel
theorem dX8_mapOf_10 : decode prog_10_method_51_code 10 = .ok (.iload_n 3, 1) := by decide +kernel
theorem dX8_mapOf_11 : decode prog_10_method_51_code 11 = .ok (.bipush 6, 2) := by decide +kernel
theorem dX8_mapOf_13 : decode prog_10_method_51_code 13 = .ok (.if_icmp .ge 28, 3) := by decide +kernel
theorem dX8_mapOf_16 : decode prog_10_method_51_code 16 = .ok (.aload_n 0, 1) := by decide +kernel
theorem dX8_mapOf_17 : decode prog_10_method_51_code 17 = .ok (.getfield 25, 3) := by decide +kernel
theorem dX8_mapOf_20 : decode prog_10_method_51_code 20 = .ok (.sipush 198, 3) := by decide +kernel
theorem dX8_mapOf_23 : decode prog_10_method_51_code 23 = .ok (.iload_n 3, 1) := by decide +kernel
theorem dX8_mapOf_24 : decode prog_10_method_51_code 24 = .ok (.iadd, 1) := by decide +kernel
theorem dX8_mapOf_25 : decode prog_10_method_51_code 25 = .ok (.iload_n 3, 1) := by decide +kernel
theorem dX8_mapOf_26 : decode prog_10_method_51_code 26 = .ok (.ifCond .ne 7, 3) := by decide +kernel
theorem dX8_mapOf_29 : decode prog_10_method_51_code 29 = .ok (.iload_n 1, 1) := by decide +kernel
theorem dX8_mapOf_30 : decode prog_10_method_51_code 30 = .ok (.goto 4, 3) := by decide +kernel
theorem dX8_mapOf_33 : decode prog_10_method_51_code 33 = .ok (.iconst 0, 1) := by decide +kernel
theorem dX8_mapOf_34 : decode prog_10_method_51_code 34 = .ok (.iastore, 1) := by decide +kernel
theorem dX8_mapOf_35 : decode prog_10_method_51_code 35 = .ok (.iinc 3 1, 3) := by decide +kernel
theorem dX8_mapOf_38 : decode prog_10_method_51_code 38 = .ok (.goto (-28), 3) := by decide +kernel
theorem dX8_mapOf_41 : decode prog_10_method_51_code 41 = .ok (.aload_n 0, 1) := by decide +kernel
theorem dX8_mapOf_42 : decode prog_10_method_51_code 42 = .ok (.getfield 25, 3) := by decide +kernel
theorem dX8_mapOf_45 : decode prog_10_method_51_code 45 = .ok (.sipush 213, 3) := by decide +kernel
theorem dX8_mapOf_48 : decode prog_10_method_51_code 48 = .ok (.iconst 0, 1) := by decide +kernel
theorem dX8_mapOf_49 : decode prog_10_method_51_code 49 = .ok (.iastore, 1) := by decide +kernel
theorem dX8_mapOf_50 : decode prog_10_method_51_code 50 = .ok (.aload_n 0, 1) := by decide +kernel
theorem dX8_mapOf_51 : decode prog_10_method_51_code 51 = .ok (.getfield 25, 3) := by decide +kernel
theorem dX8_mapOf_54 : decode prog_10_method_51_code 54 = .ok (.sipush 214, 3) := by decide +kernel
theorem dX8_mapOf_57 : decode prog_10_method_51_code 57 = .ok (.iconst 0, 1) := by decide +kernel
theorem dX8_mapOf_58 : decode prog_10_method_51_code 58 = .ok (.iastore, 1) := by decide +kernel
theorem dX8_mapOf_59 : decode prog_10_method_51_code 59 = .ok (.aload_n 0, 1) := by decide +kernel
theorem dX8_mapOf_60 : decode prog_10_method_51_code 60 = .ok (.getfield 25, 3) := by decide +kernel
theorem dX8_mapOf_63 : decode prog_10_method_51_code 63 = .ok (.sipush 215, 3) := by decide +kernel
theorem dX8_mapOf_66 : decode prog_10_method_51_code 66 = .ok (.iconst 0, 1) := by decide +kernel
theorem dX8_mapOf_67 : decode prog_10_method_51_code 67 = .ok (.iastore, 1) := by decide +kernel
theorem dX8_mapOf_68 : decode prog_10_method_51_code 68 = .ok (.aload_n 0, 1) := by decide +kernel
theorem dX8_mapOf_69 : decode prog_10_method_51_code 69 = .ok (.sipush 198, 3) := by decide +kernel
theorem dX8_mapOf_72 : decode prog_10_method_51_code 72 = .ok (.invokevirtual 193, 3) := by decide +kernel
theorem dX8_mapOf_75 : decode prog_10_method_51_code 75 = .ok (.ifCond .ge 8, 3) := by decide +kernel
theorem dX8_mapOf_78 : decode prog_10_method_51_code 78 = .ok (.bipush (-4), 2) := by decide +kernel
theorem dX8_mapOf_80 : decode prog_10_method_51_code 80 = .ok (.goto 13, 3) := by decide +kernel
theorem dX8_mapOf_83 : decode prog_10_method_51_code 83 = .ok (.aload_n 0, 1) := by decide +kernel
theorem dX8_mapOf_84 : decode prog_10_method_51_code 84 = .ok (.getfield 25, 3) := by decide +kernel
theorem dX8_mapOf_87 : decode prog_10_method_51_code 87 = .ok (.sipush 198, 3) := by decide +kernel
theorem dX8_mapOf_90 : decode prog_10_method_51_code 90 = .ok (.iload_n 2, 1) := by decide +kernel
theorem dX8_mapOf_91 : decode prog_10_method_51_code 91 = .ok (.iadd, 1) := by decide +kernel
theorem dX8_mapOf_92 : decode prog_10_method_51_code 92 = .ok (.iaload, 1) := by decide +kernel
theorem dX8_mapOf_93 : decode prog_10_method_51_code 93 = .ok (.ireturn, 1) := by decide +kernel
theorem okM_X8_mapOf : okM mX8_mapOf 2 := ⟨tw976, tw15, by decide, by decide, by decide +kernel⟩
abbrev KTX8_mapOf : Type := (XW → Nat → Int32 → Int32 → Int32 → Option (Int32 × XW))
def bX8_mapOf_93 (k : KTX8_mapOf) (w : XW) (s0 : Int32) : Option (Int32 × XW) :=
  some (s0, w)
theorem BX8_mapOf_93 {K : CX} {l : Launch} {n0 k0 : Nat} {k : KTX8_mapOf} (hk0 : ∀ (w : XW) (l0 : Nat) (l1 : Int32) (l2 : Int32) (l3 : Int32) (q : Int32 × XW), k w l0 l1 l2 l3 = some q → WP K l mX8_mapOf 7 162 n0 k0 (some (.int q.1)) q.2 10 [some (.ref l0), some (.int l1), some (.int l2), some (.int l3)] [] w) {w : XW} {s0 : Int32} {q : Int32 × XW} (h0 : bX8_mapOf_93 k w s0 = some q) : WP K l mX8_mapOf 7 162 n0 k0 (some (.int q.1)) q.2 93 [none, none, none, none] [.int s0] w := by
  unfold bX8_mapOf_93 at h0
  cases h0
  exact wp_iret rfl dX8_mapOf_93
def bX8_mapOf_34 (k : KTX8_mapOf) (w : XW) (l0 : Nat) (l1 : Int32) (l2 : Int32) (l3 : Int32) (s0 : Nat) (s1 : Int32) (s2 : Int32) : Option (Int32 × XW) :=
  (sI w 0 s0 s1 s2).bind fun w1 =>
  k w1 l0 l1 l2 (l3 + (1 : Int32))
theorem BX8_mapOf_34 {K : CX} {l : Launch} {n0 k0 : Nat} {k : KTX8_mapOf} (hk0 : ∀ (w : XW) (l0 : Nat) (l1 : Int32) (l2 : Int32) (l3 : Int32) (q : Int32 × XW), k w l0 l1 l2 l3 = some q → WP K l mX8_mapOf 7 162 n0 k0 (some (.int q.1)) q.2 10 [some (.ref l0), some (.int l1), some (.int l2), some (.int l3)] [] w) {w : XW} {l0 : Nat} {l1 : Int32} {l2 : Int32} {l3 : Int32} {s0 : Nat} {s1 : Int32} {s2 : Int32} {q : Int32 × XW} (h0 : bX8_mapOf_34 k w l0 l1 l2 l3 s0 s1 s2 = some q) : WP K l mX8_mapOf 7 162 n0 k0 (some (.int q.1)) q.2 34 [some (.ref l0), some (.int l1), some (.int l2), some (.int l3)] [.int s2, .int s1, .ref s0] w := by
  unfold bX8_mapOf_34 at h0
  obtain ⟨w1, e3, h2⟩ := Option.bind_eq_some_iff.mp h0
  clear h0
  refine wp_iast dX8_mapOf_34 e3 ?_
  refine wp_iinc (v := (l3 + (1 : Int32))) (L1 := [some (.ref l0), some (.int l1), some (.int l2), some (.int (l3 + (1 : Int32)))]) dX8_mapOf_35 (Nat.le_of_ble_eq_true rfl) rfl (congrArg (fun z => l3 + z) (by decide)) rfl ?_
  refine wp_goto (tgt := 10) dX8_mapOf_38 (by decide) ?_
  exact WP.wk (hk0 _ _ _ _ _ _ h2) (And.intro rfl (And.intro rfl (And.intro rfl (And.intro rfl trivial))))
def hX8_mapOf_10 (k : KTX8_mapOf) (w : XW) (l0 : Nat) (l1 : Int32) (l2 : Int32) (l3 : Int32) : Option (Int32 × XW) :=
  if (6 : Int32) ≤ l3 then
  (gR w l0 8 7).bind fun x2 =>
  (sI w 0 x2 (213 : Int32) (0 : Int32)).bind fun w5 =>
  (gR w5 l0 8 7).bind fun x8 =>
  (sI w5 0 x8 (214 : Int32) (0 : Int32)).bind fun w11 =>
  (gR w11 l0 8 7).bind fun x14 =>
  (sI w11 0 x14 (215 : Int32) (0 : Int32)).bind fun w17 =>
  (fX8_restsBy w17 l0 (198 : Int32)).bind fun q20 =>
  if 0 ≤ q20.1 then
  (gR q20.2 l0 8 7).bind fun x24 =>
  (aI q20.2 0 x24 ((198 : Int32) + l2)).bind fun x27 =>
  bX8_mapOf_93 k q20.2 x27
  else
  bX8_mapOf_93 k q20.2 (-4 : Int32)
  else
  (gR w l0 8 7).bind fun x30 =>
  if l3 = 0 then
  bX8_mapOf_34 k w l0 l1 l2 l3 x30 ((198 : Int32) + l3) l1
  else
  bX8_mapOf_34 k w l0 l1 l2 l3 x30 ((198 : Int32) + l3) (0 : Int32)
theorem HX8_mapOf_10 {K : CX} {l : Launch} {n0 k0 : Nat} {k : KTX8_mapOf} (hk0 : ∀ (w : XW) (l0 : Nat) (l1 : Int32) (l2 : Int32) (l3 : Int32) (q : Int32 × XW), k w l0 l1 l2 l3 = some q → WP K l mX8_mapOf 7 162 n0 k0 (some (.int q.1)) q.2 10 [some (.ref l0), some (.int l1), some (.int l2), some (.int l3)] [] w) {w : XW} {l0 : Nat} {l1 : Int32} {l2 : Int32} {l3 : Int32} {q : Int32 × XW} (h0 : hX8_mapOf_10 k w l0 l1 l2 l3 = some q) : WP K l mX8_mapOf 7 162 n0 k0 (some (.int q.1)) q.2 10 [some (.ref l0), some (.int l1), some (.int l2), some (.int l3)] [] w := by
  unfold hX8_mapOf_10 at h0
  refine wp_iload_n dX8_mapOf_10 rfl ?_
  refine wp_bipush (v := (6 : Int32)) dX8_mapOf_11 (by decide) ?_
  refine wp_icmp_ge (tgt := 41) dX8_mapOf_13 (by decide) (fun c1 => ?_) (fun c1 => ?_)
  · rw [if_pos c1] at h0
    refine wp_aload_n dX8_mapOf_41 rfl ?_
    obtain ⟨x2, e4, h3⟩ := Option.bind_eq_some_iff.mp h0
    clear h0
    refine wp_getR okX8 (k := 7) (by decide) tw712 dX8_mapOf_42 e4 ?_
    refine wp_sipush (v := (213 : Int32)) dX8_mapOf_45 (by decide) ?_
    refine wp_iconst (v := (0 : Int32)) dX8_mapOf_48 (by decide) ?_
    obtain ⟨w5, e7, h6⟩ := Option.bind_eq_some_iff.mp h3
    clear h3
    refine wp_iast dX8_mapOf_49 e7 ?_
    refine wp_aload_n dX8_mapOf_50 rfl ?_
    obtain ⟨x8, e10, h9⟩ := Option.bind_eq_some_iff.mp h6
    clear h6
    refine wp_getR okX8 (k := 7) (by decide) tw712 dX8_mapOf_51 e10 ?_
    refine wp_sipush (v := (214 : Int32)) dX8_mapOf_54 (by decide) ?_
    refine wp_iconst (v := (0 : Int32)) dX8_mapOf_57 (by decide) ?_
    obtain ⟨w11, e13, h12⟩ := Option.bind_eq_some_iff.mp h9
    clear h9
    refine wp_iast dX8_mapOf_58 e13 ?_
    refine wp_aload_n dX8_mapOf_59 rfl ?_
    obtain ⟨x14, e16, h15⟩ := Option.bind_eq_some_iff.mp h12
    clear h12
    refine wp_getR okX8 (k := 7) (by decide) tw712 dX8_mapOf_60 e16 ?_
    refine wp_sipush (v := (215 : Int32)) dX8_mapOf_63 (by decide) ?_
    refine wp_iconst (v := (0 : Int32)) dX8_mapOf_66 (by decide) ?_
    obtain ⟨w17, e19, h18⟩ := Option.bind_eq_some_iff.mp h15
    clear h15
    refine wp_iast dX8_mapOf_67 e19 ?_
    refine wp_aload_n dX8_mapOf_68 rfl ?_
    refine wp_sipush (v := (198 : Int32)) dX8_mapOf_69 (by decide) ?_
    obtain ⟨q20, e22, h21⟩ := Option.bind_eq_some_iff.mp h18
    clear h18
    refine wp_Vi (As := [.int (198 : Int32)]) (S := []) okM_X8_restsBy tw932 twP_X8_restsBy tw930 (OX8_restsBy e22) rfl rfl rfl ⟨(Nat.le_of_ble_eq_true rfl), (Nat.le_of_ble_eq_true rfl)⟩ (Nat.le_of_ble_eq_true rfl) rfl dX8_mapOf_72 (MX8_restsBy e22) ?_
    refine wp_if_ge (tgt := 83) dX8_mapOf_75 (by decide) (fun c23 => ?_) (fun c23 => ?_)
    · rw [if_pos c23] at h21
      refine wp_aload_n dX8_mapOf_83 rfl ?_
      obtain ⟨x24, e26, h25⟩ := Option.bind_eq_some_iff.mp h21
      clear h21
      refine wp_getR okX8 (k := 7) (by decide) tw712 dX8_mapOf_84 e26 ?_
      refine wp_sipush (v := (198 : Int32)) dX8_mapOf_87 (by decide) ?_
      refine wp_iload_n dX8_mapOf_90 rfl ?_
      refine wp_iadd dX8_mapOf_91 ?_
      obtain ⟨x27, e29, h28⟩ := Option.bind_eq_some_iff.mp h25
      clear h25
      refine wp_iald dX8_mapOf_92 e29 ?_
      exact WP.wk (BX8_mapOf_93 hk0 h28) trivial
    · rw [if_neg c23] at h21
      refine wp_bipush (v := (-4 : Int32)) dX8_mapOf_78 (by decide) ?_
      refine wp_goto (tgt := 93) dX8_mapOf_80 (by decide) ?_
      exact WP.wk (BX8_mapOf_93 hk0 h21) trivial
  · rw [if_neg c1] at h0
    refine wp_aload_n dX8_mapOf_16 rfl ?_
    obtain ⟨x30, e32, h31⟩ := Option.bind_eq_some_iff.mp h0
    clear h0
    refine wp_getR okX8 (k := 7) (by decide) tw712 dX8_mapOf_17 e32 ?_
    refine wp_sipush (v := (198 : Int32)) dX8_mapOf_20 (by decide) ?_
    refine wp_iload_n dX8_mapOf_23 rfl ?_
    refine wp_iadd dX8_mapOf_24 ?_
    refine wp_iload_n dX8_mapOf_25 rfl ?_
    refine wp_if_ne (tgt := 33) dX8_mapOf_26 (by decide) (fun c33 => ?_) (fun c33 => ?_)
    · rw [if_neg c33] at h31
      refine wp_iconst (v := (0 : Int32)) dX8_mapOf_33 (by decide) ?_
      exact WP.wk (BX8_mapOf_34 hk0 h31) (And.intro rfl (And.intro rfl (And.intro rfl (And.intro rfl trivial))))
    · rw [if_pos c33] at h31
      refine wp_iload_n dX8_mapOf_29 rfl ?_
      refine wp_goto (tgt := 34) dX8_mapOf_30 (by decide) ?_
      exact WP.wk (BX8_mapOf_34 hk0 h31) (And.intro rfl (And.intro rfl (And.intro rfl (And.intro rfl trivial))))
def eX8_mapOf (k : KTX8_mapOf) (w : XW) (l0 : Nat) (l1 : Int32) (l2 : Int32) : Option (Int32 × XW) :=
  (fX8_copies w l0 (0 : Int32) (198 : Int32)).bind fun q1 =>
  k q1 l0 l1 l2 (0 : Int32)
theorem EX8_mapOf {K : CX} {l : Launch} {n0 k0 : Nat} {k : KTX8_mapOf} (hk0 : ∀ (w : XW) (l0 : Nat) (l1 : Int32) (l2 : Int32) (l3 : Int32) (q : Int32 × XW), k w l0 l1 l2 l3 = some q → WP K l mX8_mapOf 7 162 n0 k0 (some (.int q.1)) q.2 10 [some (.ref l0), some (.int l1), some (.int l2), some (.int l3)] [] w) {w : XW} {l0 : Nat} {l1 : Int32} {l2 : Int32} {q : Int32 × XW} (h0 : eX8_mapOf k w l0 l1 l2 = some q) : WP K l mX8_mapOf 7 162 n0 k0 (some (.int q.1)) q.2 0 [some (.ref l0), some (.int l1), some (.int l2), none] [] w := by
  unfold eX8_mapOf at h0
  refine wp_aload_n dX8_mapOf_0 rfl ?_
  refine wp_iconst (v := (0 : Int32)) dX8_mapOf_1 (by decide) ?_
  refine wp_sipush (v := (198 : Int32)) dX8_mapOf_2 (by decide) ?_
  obtain ⟨q1, e3, h2⟩ := Option.bind_eq_some_iff.mp h0
  clear h0
  refine wp_Vv (As := [.int (0 : Int32), .int (198 : Int32)]) (S := []) okM_X8_copies tw877 twP_X8_copies tw875 (OX8_copies e3) rfl rfl rfl ⟨(Nat.le_of_ble_eq_true rfl), (Nat.le_of_ble_eq_true rfl)⟩ (Nat.le_of_ble_eq_true rfl) rfl dX8_mapOf_5 (MX8_copies e3) ?_
  refine wp_iconst (v := (0 : Int32)) dX8_mapOf_8 (by decide) ?_
  refine wp_istore_n (L1 := [some (.ref l0), some (.int l1), some (.int l2), some (.int (0 : Int32))]) dX8_mapOf_9 (Nat.le_of_ble_eq_true rfl) rfl ?_
  exact WP.wk (hk0 _ _ _ _ _ _ h2) (And.intro rfl (And.intro rfl (And.intro rfl (And.intro rfl trivial))))
def loX8_mapOf : Nat → KTX8_mapOf
  | 0 => fun _ _ _ _ _ => none
  | n + 1 => hX8_mapOf_10 (loX8_mapOf n)
theorem LOX8_mapOf {K : CX} {l : Launch} {n0 k0 : Nat} : ∀ n : Nat, (∀ (w : XW) (l0 : Nat) (l1 : Int32) (l2 : Int32) (l3 : Int32) (q : Int32 × XW), (loX8_mapOf n) w l0 l1 l2 l3 = some q → WP K l mX8_mapOf 7 162 n0 k0 (some (.int q.1)) q.2 10 [some (.ref l0), some (.int l1), some (.int l2), some (.int l3)] [] w) := by
  intro n
  induction n with
  | zero => exact fun _ _ _ _ _ q h => (by cases h)
  | succ n ih => exact fun _ _ _ _ _ q h => HX8_mapOf_10 ih h
def fX8_mapOf (w : XW) (l0 : Nat) (l1 : Int32) (l2 : Int32) : Option (Int32 × XW) := if isO w l0 8 = true then eX8_mapOf (loX8_mapOf FU) w l0 l1 l2 else none
theorem OX8_mapOf {w : XW} {l0 : Nat} {l1 : Int32} {l2 : Int32} {q : Int32 × XW} (h : fX8_mapOf w l0 l1 l2 = some q) : isO w l0 8 = true := Decidable.byContradiction fun z => by unfold fX8_mapOf at h; rw [if_neg z] at h; cases h
theorem MX8_mapOf {K : CX} {l : Launch} {w : XW} {l0 : Nat} {l1 : Int32} {l2 : Int32} {q : Int32 × XW} (h : fX8_mapOf w l0 l1 l2 = some q) : MT K l mX8_mapOf 7 162 [.ref l0, .int l1, .int l2] w (some (.int q.1)) q.2 := by
  have z := OX8_mapOf h
  unfold fX8_mapOf at h
  rw [if_pos z] at h
  exact MT.of (by decide) (Nat.le_of_ble_eq_true rfl) rfl (EX8_mapOf (LOX8_mapOf FU) h)
