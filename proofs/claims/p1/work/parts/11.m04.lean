/-! FractionRunModel.<init>()V: frames 4, words 87 -/
abbrev mX8_init : MR := (⟨"FractionRunModel", "<init>", "()V"⟩, prog_10_method_1_code, 1, none)
theorem dX8_init_0 : decode prog_10_method_1_code 0 = .ok (.aload_n 0, 1) := by decide +kernel
theorem dX8_init_1 : decode prog_10_method_1_code 1 = .ok (.invokespecial 1, 3) := by decide +kernel
theorem dX8_init_4 : decode prog_10_method_1_code 4 = .ok (.aload_n 0, 1) := by decide +kernel
theorem dX8_init_5 : decode prog_10_method_1_code 5 = .ok (.bipush 8, 2) := by decide +kernel
theorem dX8_init_7 : decode prog_10_method_1_code 7 = .ok (.newarray .int, 2) := by decide +kernel
theorem dX8_init_9 : decode prog_10_method_1_code 9 = .ok (.putfield 7, 3) := by decide +kernel
theorem dX8_init_12 : decode prog_10_method_1_code 12 = .ok (.aload_n 0, 1) := by decide +kernel
theorem dX8_init_13 : decode prog_10_method_1_code 13 = .ok (.bipush 48, 2) := by decide +kernel
theorem dX8_init_15 : decode prog_10_method_1_code 15 = .ok (.newarray .int, 2) := by decide +kernel
theorem dX8_init_17 : decode prog_10_method_1_code 17 = .ok (.putfield 13, 3) := by decide +kernel
theorem dX8_init_20 : decode prog_10_method_1_code 20 = .ok (.aload_n 0, 1) := by decide +kernel
theorem dX8_init_21 : decode prog_10_method_1_code 21 = .ok (.bipush 8, 2) := by decide +kernel
theorem dX8_init_23 : decode prog_10_method_1_code 23 = .ok (.newarray .int, 2) := by decide +kernel
theorem dX8_init_25 : decode prog_10_method_1_code 25 = .ok (.putfield 16, 3) := by decide +kernel
theorem dX8_init_28 : decode prog_10_method_1_code 28 = .ok (.aload_n 0, 1) := by decide +kernel
theorem dX8_init_29 : decode prog_10_method_1_code 29 = .ok (.bipush 48, 2) := by decide +kernel
theorem dX8_init_31 : decode prog_10_method_1_code 31 = .ok (.newarray .int, 2) := by decide +kernel
theorem dX8_init_33 : decode prog_10_method_1_code 33 = .ok (.putfield 19, 3) := by decide +kernel
theorem dX8_init_36 : decode prog_10_method_1_code 36 = .ok (.aload_n 0, 1) := by decide +kernel
theorem dX8_init_37 : decode prog_10_method_1_code 37 = .ok (.bipush 6, 2) := by decide +kernel
theorem dX8_init_39 : decode prog_10_method_1_code 39 = .ok (.newarray .int, 2) := by decide +kernel
theorem dX8_init_41 : decode prog_10_method_1_code 41 = .ok (.putfield 22, 3) := by decide +kernel
theorem dX8_init_44 : decode prog_10_method_1_code 44 = .ok (.aload_n 0, 1) := by decide +kernel
theorem dX8_init_45 : decode prog_10_method_1_code 45 = .ok (.sipush 234, 3) := by decide +kernel
theorem dX8_init_48 : decode prog_10_method_1_code 48 = .ok (.newarray .int, 2) := by decide +kernel
theorem dX8_init_50 : decode prog_10_method_1_code 50 = .ok (.putfield 25, 3) := by decide +kernel
theorem dX8_init_53 : decode prog_10_method_1_code 53 = .ok (.aload_n 0, 1) := by decide +kernel
theorem dX8_init_54 : decode prog_10_method_1_code 54 = .ok (.sipush 200, 3) := by decide +kernel
theorem dX8_init_57 : decode prog_10_method_1_code 57 = .ok (.newarray .byte, 2) := by decide +kernel
theorem dX8_init_59 : decode prog_10_method_1_code 59 = .ok (.putfield 28, 3) := by decide +kernel
theorem dX8_init_62 : decode prog_10_method_1_code 62 = .ok (.aload_n 0, 1) := by decide +kernel
theorem dX8_init_63 : decode prog_10_method_1_code 63 = .ok (.bipush 6, 2) := by decide +kernel
theorem dX8_init_65 : decode prog_10_method_1_code 65 = .ok (.newarray .int, 2) := by decide +kernel
theorem dX8_init_67 : decode prog_10_method_1_code 67 = .ok (.putfield 32, 3) := by decide +kernel
theorem dX8_init_70 : decode prog_10_method_1_code 70 = .ok (.aload_n 0, 1) := by decide +kernel
theorem dX8_init_71 : decode prog_10_method_1_code 71 = .ok (.bipush 6, 2) := by decide +kernel
theorem dX8_init_73 : decode prog_10_method_1_code 73 = .ok (.newarray .int, 2) := by decide +kernel
theorem dX8_init_75 : decode prog_10_method_1_code 75 = .ok (.putfield 35, 3) := by decide +kernel
theorem dX8_init_78 : decode prog_10_method_1_code 78 = .ok (.aload_n 0, 1) := by decide +kernel
theorem dX8_init_79 : decode prog_10_method_1_code 79 = .ok (.sipush 1608, 3) := by decide +kernel
theorem dX8_init_82 : decode prog_10_method_1_code 82 = .ok (.newarray .int, 2) := by decide +kernel
theorem dX8_init_84 : decode prog_10_method_1_code 84 = .ok (.putfield 38, 3) := by decide +kernel
theorem dX8_init_87 : decode prog_10_method_1_code 87 = .ok (.aload_n 0, 1) := by decide +kernel
theorem dX8_init_88 : decode prog_10_method_1_code 88 = .ok (.bipush 8, 2) := by decide +kernel
theorem dX8_init_90 : decode prog_10_method_1_code 90 = .ok (.newarray .int, 2) := by decide +kernel
theorem dX8_init_92 : decode prog_10_method_1_code 92 = .ok (.putfield 41, 3) := by decide +kernel
theorem dX8_init_95 : decode prog_10_method_1_code 95 = .ok (.aload_n 0, 1) := by decide +kernel
theorem dX8_init_96 : decode prog_10_method_1_code 96 = .ok (.bipush 8, 2) := by decide +kernel
theorem dX8_init_98 : decode prog_10_method_1_code 98 = .ok (.newarray .int, 2) := by decide +kernel
theorem dX8_init_100 : decode prog_10_method_1_code 100 = .ok (.putfield 44, 3) := by decide +kernel
theorem dX8_init_103 : decode prog_10_method_1_code 103 = .ok (.aload_n 0, 1) := by decide +kernel
theorem dX8_init_104 : decode prog_10_method_1_code 104 = .ok (.bipush 120, 2) := by decide +kernel
theorem dX8_init_106 : decode prog_10_method_1_code 106 = .ok (.newarray .int, 2) := by decide +kernel
theorem dX8_init_108 : decode prog_10_method_1_code 108 = .ok (.putfield 47, 3) := by decide +kernel
theorem dX8_init_111 : decode prog_10_method_1_code 111 = .ok (.aload_n 0, 1) := by decide +kernel
theorem dX8_init_112 : decode prog_10_method_1_code 112 = .ok (.bipush 81, 2) := by decide +kernel
theorem dX8_init_114 : decode prog_10_method_1_code 114 = .ok (.newarray .int, 2) := by decide +kernel
theorem dX8_init_116 : decode prog_10_method_1_code 116 = .ok (.putfield 50, 3) := by decide +kernel
theorem dX8_init_119 : decode prog_10_method_1_code 119 = .ok (.aload_n 0, 1) := by decide +kernel
theorem dX8_init_120 : decode prog_10_method_1_code 120 = .ok (.iconst 0, 1) := by decide +kernel
theorem dX8_init_121 : decode prog_10_method_1_code 121 = .ok (.putfield 53, 3) := by decide +kernel
theorem dX8_init_124 : decode prog_10_method_1_code 124 = .ok (.aload_n 0, 1) := by decide +kernel
theorem dX8_init_125 : decode prog_10_method_1_code 125 = .ok (.sipush 455, 3) := by decide +kernel
theorem dX8_init_128 : decode prog_10_method_1_code 128 = .ok (.bipush 33, 2) := by decide +kernel
theorem dX8_init_130 : decode prog_10_method_1_code 130 = .ok (.iconst 0, 1) := by decide +kernel
theorem dX8_init_131 : decode prog_10_method_1_code 131 = .ok (.invokevirtual 57, 3) := by decide +kernel
theorem dX8_init_134 : decode prog_10_method_1_code 134 = .ok (.aload_n 0, 1) := by decide +kernel
theorem dX8_init_135 : decode prog_10_method_1_code 135 = .ok (.bipush 11, 2) := by decide +kernel
theorem dX8_init_137 : decode prog_10_method_1_code 137 = .ok (.bipush 13, 2) := by decide +kernel
theorem dX8_init_139 : decode prog_10_method_1_code 139 = .ok (.iconst 0, 1) := by decide +kernel
theorem dX8_init_140 : decode prog_10_method_1_code 140 = .ok (.invokevirtual 57, 3) := by decide +kernel
theorem dX8_init_143 : decode prog_10_method_1_code 143 = .ok (.aload_n 0, 1) := by decide +kernel
theorem dX8_init_144 : decode prog_10_method_1_code 144 = .ok (.iconst 1, 1) := by decide +kernel
theorem dX8_init_145 : decode prog_10_method_1_code 145 = .ok (.bipush 11, 2) := by decide +kernel
theorem dX8_init_147 : decode prog_10_method_1_code 147 = .ok (.iconst 0, 1) := by decide +kernel
theorem dX8_init_148 : decode prog_10_method_1_code 148 = .ok (.invokevirtual 57, 3) := by decide +kernel
theorem dX8_init_151 : decode prog_10_method_1_code 151 = .ok (.aload_n 0, 1) := by decide +kernel
theorem dX8_init_152 : decode prog_10_method_1_code 152 = .ok (.iconst 3, 1) := by decide +kernel
theorem dX8_init_153 : decode prog_10_method_1_code 153 = .ok (.bipush 7, 2) := by decide +kernel
theorem dX8_init_155 : decode prog_10_method_1_code 155 = .ok (.iconst 0, 1) := by decide +kernel
theorem dX8_init_156 : decode prog_10_method_1_code 156 = .ok (.invokevirtual 57, 3) := by decide +kernel
theorem dX8_init_159 : decode prog_10_method_1_code 159 = .ok (.aload_n 0, 1) := by decide +kernel
theorem dX8_init_160 : decode prog_10_method_1_code 160 = .ok (.bipush 11, 2) := by decide +kernel
theorem dX8_init_162 : decode prog_10_method_1_code 162 = .ok (.iconst 2, 1) := by decide +kernel
theorem dX8_init_163 : decode prog_10_method_1_code 163 = .ok (.iconst 0, 1) := by decide +kernel
theorem dX8_init_164 : decode prog_10_method_1_code 164 = .ok (.invokevirtual 57, 3) := by decide +kernel
theorem dX8_init_167 : decode prog_10_method_1_code 167 = .ok (.aload_n 0, 1) := by decide +kernel
theorem dX8_init_168 : decode prog_10_method_1_code 168 = .ok (.iconst 1, 1) := by decide +kernel
theorem dX8_init_169 : decode prog_10_method_1_code 169 = .ok (.iconst 3, 1) := by decide +kernel
theorem dX8_init_170 : decode prog_10_method_1_code 170 = .ok (.iconst 0, 1) := by decide +kernel
theorem dX8_init_171 : decode prog_10_method_1_code 171 = .ok (.invokevirtual 57, 3) := by decide +kernel
theorem dX8_init_174 : decode prog_10_method_1_code 174 = .ok (.aload_n 0, 1) := by decide +kernel
theorem dX8_init_175 : decode prog_10_method_1_code 175 = .ok (.getfield 22, 3) := by decide +kernel
theorem dX8_init_178 : decode prog_10_method_1_code 178 = .ok (.iconst 0, 1) := by decide +kernel
theorem dX8_init_179 : decode prog_10_method_1_code 179 = .ok (.iconst 3, 1) := by decide +kernel
theorem dX8_init_180 : decode prog_10_method_1_code 180 = .ok (.iastore, 1) := by decide +kernel
theorem dX8_init_181 : decode prog_10_method_1_code 181 = .ok (.aload_n 0, 1) := by decide +kernel
theorem dX8_init_182 : decode prog_10_method_1_code 182 = .ok (.getfield 22, 3) := by decide +kernel
theorem dX8_init_185 : decode prog_10_method_1_code 185 = .ok (.iconst 1, 1) := by decide +kernel
theorem dX8_init_186 : decode prog_10_method_1_code 186 = .ok (.iconst 2, 1) := by decide +kernel
theorem dX8_init_187 : decode prog_10_method_1_code 187 = .ok (.iastore, 1) := by decide +kernel
theorem dX8_init_188 : decode prog_10_method_1_code 188 = .ok (.aload_n 0, 1) := by decide +kernel
theorem dX8_init_189 : decode prog_10_method_1_code 189 = .ok (.invokevirtual 61, 3) := by decide +kernel
theorem dX8_init_192 : decode prog_10_method_1_code 192 = .ok (.return_, 1) := by decide +kernel
theorem okM_X8_init : okM mX8_init 0 := ⟨tw689, tw15, by decide, by decide, by decide +kernel⟩
def eX8_init (w : XW) (l0 : Nat) : Option XW :=
  (some (xpush w 8 (xi 0 8 (fun _ => 0)))).bind fun w1 =>
  (pV w1 l0 8 1 (.ref w.1)).bind fun w4 =>
  (some (xpush w4 48 (xi 0 48 (fun _ => 0)))).bind fun w7 =>
  (pV w7 l0 8 2 (.ref w4.1)).bind fun w10 =>
  (some (xpush w10 8 (xi 0 8 (fun _ => 0)))).bind fun w13 =>
  (pV w13 l0 8 4 (.ref w10.1)).bind fun w16 =>
  (some (xpush w16 48 (xi 0 48 (fun _ => 0)))).bind fun w19 =>
  (pV w19 l0 8 5 (.ref w16.1)).bind fun w22 =>
  (some (xpush w22 6 (xi 0 6 (fun _ => 0)))).bind fun w25 =>
  (pV w25 l0 8 6 (.ref w22.1)).bind fun w28 =>
  (some (xpush w28 234 (xi 0 234 (fun _ => 0)))).bind fun w31 =>
  (pV w31 l0 8 7 (.ref w28.1)).bind fun w34 =>
  (some (xpush w34 200 (xi 2 200 (fun _ => 0)))).bind fun w37 =>
  (pV w37 l0 8 11 (.ref w34.1)).bind fun w40 =>
  (some (xpush w40 6 (xi 0 6 (fun _ => 0)))).bind fun w43 =>
  (pV w43 l0 8 16 (.ref w40.1)).bind fun w46 =>
  (some (xpush w46 6 (xi 0 6 (fun _ => 0)))).bind fun w49 =>
  (pV w49 l0 8 17 (.ref w46.1)).bind fun w52 =>
  (some (xpush w52 1608 (xi 0 1608 (fun _ => 0)))).bind fun w55 =>
  (pV w55 l0 8 19 (.ref w52.1)).bind fun w58 =>
  (some (xpush w58 8 (xi 0 8 (fun _ => 0)))).bind fun w61 =>
  (pV w61 l0 8 20 (.ref w58.1)).bind fun w64 =>
  (some (xpush w64 8 (xi 0 8 (fun _ => 0)))).bind fun w67 =>
  (pV w67 l0 8 21 (.ref w64.1)).bind fun w70 =>
  (some (xpush w70 120 (xi 0 120 (fun _ => 0)))).bind fun w73 =>
  (pV w73 l0 8 22 (.ref w70.1)).bind fun w76 =>
  (some (xpush w76 81 (xi 0 81 (fun _ => 0)))).bind fun w79 =>
  (pV w79 l0 8 23 (.ref w76.1)).bind fun w82 =>
  (pV w82 l0 8 3 (.int (0 : Int32))).bind fun w85 =>
  (fX8_tells w85 l0 (455 : Int32) (33 : Int32) (0 : Int32)).bind fun q88 =>
  (fX8_tells q88 l0 (11 : Int32) (13 : Int32) (0 : Int32)).bind fun q91 =>
  (fX8_tells q91 l0 (1 : Int32) (11 : Int32) (0 : Int32)).bind fun q94 =>
  (fX8_tells q94 l0 (3 : Int32) (7 : Int32) (0 : Int32)).bind fun q97 =>
  (fX8_tells q97 l0 (11 : Int32) (2 : Int32) (0 : Int32)).bind fun q100 =>
  (fX8_tells q100 l0 (1 : Int32) (3 : Int32) (0 : Int32)).bind fun q103 =>
  (gR q103 l0 8 6).bind fun x106 =>
  (sI q103 0 x106 (0 : Int32) (3 : Int32)).bind fun w109 =>
  (gR w109 l0 8 6).bind fun x112 =>
  (sI w109 0 x112 (1 : Int32) (2 : Int32)).bind fun w115 =>
  (fX8_settles w115 l0).bind fun q118 =>
  some q118
theorem EX8_init {K : CX} {l : Launch} {n0 k0 : Nat} {w : XW} {l0 : Nat} {q : XW} (h0 : eX8_init w l0 = some q) : WP K l mX8_init 4 87 n0 k0 none q 0 [some (.ref l0)] [] w := by
  unfold eX8_init at h0
  refine wp_aload_n dX8_init_0 rfl ?_
  refine wp_objI tw690 tw23 twObjCode ⟨(Nat.le_of_ble_eq_true rfl), (Nat.le_of_ble_eq_true rfl)⟩ rfl dX8_init_1 ?_
  refine wp_aload_n dX8_init_4 rfl ?_
  refine wp_bipush (v := (8 : Int32)) dX8_init_5 (by decide) ?_
  obtain ⟨w1, e3, h2⟩ := Option.bind_eq_some_iff.mp h0
  clear h0
  refine wp_newI (N := 8) tw51 dX8_init_7 (by decide) (by decide) (by decide) ?_
  rw [Option.some.inj e3]
  obtain ⟨w4, e6, h5⟩ := Option.bind_eq_some_iff.mp h2
  clear h2
  refine wp_putF okX8 (k := 1) (by decide) rfl rfl rfl tw706 dX8_init_9 rfl rfl e6 ?_
  refine wp_aload_n dX8_init_12 rfl ?_
  refine wp_bipush (v := (48 : Int32)) dX8_init_13 (by decide) ?_
  obtain ⟨w7, e9, h8⟩ := Option.bind_eq_some_iff.mp h5
  clear h5
  refine wp_newI (N := 48) tw51 dX8_init_15 (by decide) (by decide) (by decide) ?_
  rw [Option.some.inj e9]
  obtain ⟨w10, e12, h11⟩ := Option.bind_eq_some_iff.mp h8
  clear h8
  refine wp_putF okX8 (k := 2) (by decide) rfl rfl rfl tw707 dX8_init_17 rfl rfl e12 ?_
  refine wp_aload_n dX8_init_20 rfl ?_
  refine wp_bipush (v := (8 : Int32)) dX8_init_21 (by decide) ?_
  obtain ⟨w13, e15, h14⟩ := Option.bind_eq_some_iff.mp h11
  clear h11
  refine wp_newI (N := 8) tw51 dX8_init_23 (by decide) (by decide) (by decide) ?_
  rw [Option.some.inj e15]
  obtain ⟨w16, e18, h17⟩ := Option.bind_eq_some_iff.mp h14
  clear h14
  refine wp_putF okX8 (k := 4) (by decide) rfl rfl rfl tw709 dX8_init_25 rfl rfl e18 ?_
  refine wp_aload_n dX8_init_28 rfl ?_
  refine wp_bipush (v := (48 : Int32)) dX8_init_29 (by decide) ?_
  obtain ⟨w19, e21, h20⟩ := Option.bind_eq_some_iff.mp h17
  clear h17
  refine wp_newI (N := 48) tw51 dX8_init_31 (by decide) (by decide) (by decide) ?_
  rw [Option.some.inj e21]
  obtain ⟨w22, e24, h23⟩ := Option.bind_eq_some_iff.mp h20
  clear h20
  refine wp_putF okX8 (k := 5) (by decide) rfl rfl rfl tw710 dX8_init_33 rfl rfl e24 ?_
  refine wp_aload_n dX8_init_36 rfl ?_
  refine wp_bipush (v := (6 : Int32)) dX8_init_37 (by decide) ?_
  obtain ⟨w25, e27, h26⟩ := Option.bind_eq_some_iff.mp h23
  clear h23
  refine wp_newI (N := 6) tw51 dX8_init_39 (by decide) (by decide) (by decide) ?_
  rw [Option.some.inj e27]
  obtain ⟨w28, e30, h29⟩ := Option.bind_eq_some_iff.mp h26
  clear h26
  refine wp_putF okX8 (k := 6) (by decide) rfl rfl rfl tw711 dX8_init_41 rfl rfl e30 ?_
  refine wp_aload_n dX8_init_44 rfl ?_
  refine wp_sipush (v := (234 : Int32)) dX8_init_45 (by decide) ?_
  obtain ⟨w31, e33, h32⟩ := Option.bind_eq_some_iff.mp h29
  clear h29
  refine wp_newI (N := 234) tw51 dX8_init_48 (by decide) (by decide) (by decide) ?_
  rw [Option.some.inj e33]
  obtain ⟨w34, e36, h35⟩ := Option.bind_eq_some_iff.mp h32
  clear h32
  refine wp_putF okX8 (k := 7) (by decide) rfl rfl rfl tw712 dX8_init_50 rfl rfl e36 ?_
  refine wp_aload_n dX8_init_53 rfl ?_
  refine wp_sipush (v := (200 : Int32)) dX8_init_54 (by decide) ?_
  obtain ⟨w37, e39, h38⟩ := Option.bind_eq_some_iff.mp h35
  clear h35
  refine wp_newB (N := 200) tw344 dX8_init_57 (by decide) (by decide) (by decide) ?_
  rw [Option.some.inj e39]
  obtain ⟨w40, e42, h41⟩ := Option.bind_eq_some_iff.mp h38
  clear h38
  refine wp_putF okX8 (k := 11) (by decide) rfl rfl rfl tw716 dX8_init_59 rfl rfl e42 ?_
  refine wp_aload_n dX8_init_62 rfl ?_
  refine wp_bipush (v := (6 : Int32)) dX8_init_63 (by decide) ?_
  obtain ⟨w43, e45, h44⟩ := Option.bind_eq_some_iff.mp h41
  clear h41
  refine wp_newI (N := 6) tw51 dX8_init_65 (by decide) (by decide) (by decide) ?_
  rw [Option.some.inj e45]
  obtain ⟨w46, e48, h47⟩ := Option.bind_eq_some_iff.mp h44
  clear h44
  refine wp_putF okX8 (k := 16) (by decide) rfl rfl rfl tw721 dX8_init_67 rfl rfl e48 ?_
  refine wp_aload_n dX8_init_70 rfl ?_
  refine wp_bipush (v := (6 : Int32)) dX8_init_71 (by decide) ?_
  obtain ⟨w49, e51, h50⟩ := Option.bind_eq_some_iff.mp h47
  clear h47
  refine wp_newI (N := 6) tw51 dX8_init_73 (by decide) (by decide) (by decide) ?_
  rw [Option.some.inj e51]
  obtain ⟨w52, e54, h53⟩ := Option.bind_eq_some_iff.mp h50
  clear h50
  refine wp_putF okX8 (k := 17) (by decide) rfl rfl rfl tw722 dX8_init_75 rfl rfl e54 ?_
  refine wp_aload_n dX8_init_78 rfl ?_
  refine wp_sipush (v := (1608 : Int32)) dX8_init_79 (by decide) ?_
  obtain ⟨w55, e57, h56⟩ := Option.bind_eq_some_iff.mp h53
  clear h53
  refine wp_newI (N := 1608) tw51 dX8_init_82 (by decide) (by decide) (by decide) ?_
  rw [Option.some.inj e57]
  obtain ⟨w58, e60, h59⟩ := Option.bind_eq_some_iff.mp h56
  clear h56
  refine wp_putF okX8 (k := 19) (by decide) rfl rfl rfl tw724 dX8_init_84 rfl rfl e60 ?_
  refine wp_aload_n dX8_init_87 rfl ?_
  refine wp_bipush (v := (8 : Int32)) dX8_init_88 (by decide) ?_
  obtain ⟨w61, e63, h62⟩ := Option.bind_eq_some_iff.mp h59
  clear h59
  refine wp_newI (N := 8) tw51 dX8_init_90 (by decide) (by decide) (by decide) ?_
  rw [Option.some.inj e63]
  obtain ⟨w64, e66, h65⟩ := Option.bind_eq_some_iff.mp h62
  clear h62
  refine wp_putF okX8 (k := 20) (by decide) rfl rfl rfl tw725 dX8_init_92 rfl rfl e66 ?_
  refine wp_aload_n dX8_init_95 rfl ?_
  refine wp_bipush (v := (8 : Int32)) dX8_init_96 (by decide) ?_
  obtain ⟨w67, e69, h68⟩ := Option.bind_eq_some_iff.mp h65
  clear h65
  refine wp_newI (N := 8) tw51 dX8_init_98 (by decide) (by decide) (by decide) ?_
  rw [Option.some.inj e69]
  obtain ⟨w70, e72, h71⟩ := Option.bind_eq_some_iff.mp h68
  clear h68
  refine wp_putF okX8 (k := 21) (by decide) rfl rfl rfl tw726 dX8_init_100 rfl rfl e72 ?_
  refine wp_aload_n dX8_init_103 rfl ?_
  refine wp_bipush (v := (120 : Int32)) dX8_init_104 (by decide) ?_
  obtain ⟨w73, e75, h74⟩ := Option.bind_eq_some_iff.mp h71
  clear h71
  refine wp_newI (N := 120) tw51 dX8_init_106 (by decide) (by decide) (by decide) ?_
  rw [Option.some.inj e75]
  obtain ⟨w76, e78, h77⟩ := Option.bind_eq_some_iff.mp h74
  clear h74
  refine wp_putF okX8 (k := 22) (by decide) rfl rfl rfl tw727 dX8_init_108 rfl rfl e78 ?_
  refine wp_aload_n dX8_init_111 rfl ?_
  refine wp_bipush (v := (81 : Int32)) dX8_init_112 (by decide) ?_
  obtain ⟨w79, e81, h80⟩ := Option.bind_eq_some_iff.mp h77
  clear h77
  refine wp_newI (N := 81) tw51 dX8_init_114 (by decide) (by decide) (by decide) ?_
  rw [Option.some.inj e81]
  obtain ⟨w82, e84, h83⟩ := Option.bind_eq_some_iff.mp h80
  clear h80
  refine wp_putF okX8 (k := 23) (by decide) rfl rfl rfl tw728 dX8_init_116 rfl rfl e84 ?_
  refine wp_aload_n dX8_init_119 rfl ?_
  refine wp_iconst (v := (0 : Int32)) dX8_init_120 (by decide) ?_
  obtain ⟨w85, e87, h86⟩ := Option.bind_eq_some_iff.mp h83
  clear h83
  refine wp_putV okX8 (k := 3) (by decide) rfl tw708 dX8_init_121 rfl rfl e87 ?_
  refine wp_aload_n dX8_init_124 rfl ?_
  refine wp_sipush (v := (455 : Int32)) dX8_init_125 (by decide) ?_
  refine wp_bipush (v := (33 : Int32)) dX8_init_128 (by decide) ?_
  refine wp_iconst (v := (0 : Int32)) dX8_init_130 (by decide) ?_
  obtain ⟨q88, e90, h89⟩ := Option.bind_eq_some_iff.mp h86
  clear h86
  refine wp_Vv (As := [.int (455 : Int32), .int (33 : Int32), .int (0 : Int32)]) (S := []) okM_X8_tells tw693 twP_X8_tells tw691 (OX8_tells e90) rfl rfl rfl ⟨(Nat.le_of_ble_eq_true rfl), (Nat.le_of_ble_eq_true rfl)⟩ (Nat.le_of_ble_eq_true rfl) rfl dX8_init_131 (MX8_tells e90) ?_
  refine wp_aload_n dX8_init_134 rfl ?_
  refine wp_bipush (v := (11 : Int32)) dX8_init_135 (by decide) ?_
  refine wp_bipush (v := (13 : Int32)) dX8_init_137 (by decide) ?_
  refine wp_iconst (v := (0 : Int32)) dX8_init_139 (by decide) ?_
  obtain ⟨q91, e93, h92⟩ := Option.bind_eq_some_iff.mp h89
  clear h89
  refine wp_Vv (As := [.int (11 : Int32), .int (13 : Int32), .int (0 : Int32)]) (S := []) okM_X8_tells tw693 twP_X8_tells tw691 (OX8_tells e93) rfl rfl rfl ⟨(Nat.le_of_ble_eq_true rfl), (Nat.le_of_ble_eq_true rfl)⟩ (Nat.le_of_ble_eq_true rfl) rfl dX8_init_140 (MX8_tells e93) ?_
  refine wp_aload_n dX8_init_143 rfl ?_
  refine wp_iconst (v := (1 : Int32)) dX8_init_144 (by decide) ?_
  refine wp_bipush (v := (11 : Int32)) dX8_init_145 (by decide) ?_
  refine wp_iconst (v := (0 : Int32)) dX8_init_147 (by decide) ?_
  obtain ⟨q94, e96, h95⟩ := Option.bind_eq_some_iff.mp h92
  clear h92
  refine wp_Vv (As := [.int (1 : Int32), .int (11 : Int32), .int (0 : Int32)]) (S := []) okM_X8_tells tw693 twP_X8_tells tw691 (OX8_tells e96) rfl rfl rfl ⟨(Nat.le_of_ble_eq_true rfl), (Nat.le_of_ble_eq_true rfl)⟩ (Nat.le_of_ble_eq_true rfl) rfl dX8_init_148 (MX8_tells e96) ?_
  refine wp_aload_n dX8_init_151 rfl ?_
  refine wp_iconst (v := (3 : Int32)) dX8_init_152 (by decide) ?_
  refine wp_bipush (v := (7 : Int32)) dX8_init_153 (by decide) ?_
  refine wp_iconst (v := (0 : Int32)) dX8_init_155 (by decide) ?_
  obtain ⟨q97, e99, h98⟩ := Option.bind_eq_some_iff.mp h95
  clear h95
  refine wp_Vv (As := [.int (3 : Int32), .int (7 : Int32), .int (0 : Int32)]) (S := []) okM_X8_tells tw693 twP_X8_tells tw691 (OX8_tells e99) rfl rfl rfl ⟨(Nat.le_of_ble_eq_true rfl), (Nat.le_of_ble_eq_true rfl)⟩ (Nat.le_of_ble_eq_true rfl) rfl dX8_init_156 (MX8_tells e99) ?_
  refine wp_aload_n dX8_init_159 rfl ?_
  refine wp_bipush (v := (11 : Int32)) dX8_init_160 (by decide) ?_
  refine wp_iconst (v := (2 : Int32)) dX8_init_162 (by decide) ?_
  refine wp_iconst (v := (0 : Int32)) dX8_init_163 (by decide) ?_
  obtain ⟨q100, e102, h101⟩ := Option.bind_eq_some_iff.mp h98
  clear h98
  refine wp_Vv (As := [.int (11 : Int32), .int (2 : Int32), .int (0 : Int32)]) (S := []) okM_X8_tells tw693 twP_X8_tells tw691 (OX8_tells e102) rfl rfl rfl ⟨(Nat.le_of_ble_eq_true rfl), (Nat.le_of_ble_eq_true rfl)⟩ (Nat.le_of_ble_eq_true rfl) rfl dX8_init_164 (MX8_tells e102) ?_
  refine wp_aload_n dX8_init_167 rfl ?_
  refine wp_iconst (v := (1 : Int32)) dX8_init_168 (by decide) ?_
  refine wp_iconst (v := (3 : Int32)) dX8_init_169 (by decide) ?_
  refine wp_iconst (v := (0 : Int32)) dX8_init_170 (by decide) ?_
  obtain ⟨q103, e105, h104⟩ := Option.bind_eq_some_iff.mp h101
  clear h101
  refine wp_Vv (As := [.int (1 : Int32), .int (3 : Int32), .int (0 : Int32)]) (S := []) okM_X8_tells tw693 twP_X8_tells tw691 (OX8_tells e105) rfl rfl rfl ⟨(Nat.le_of_ble_eq_true rfl), (Nat.le_of_ble_eq_true rfl)⟩ (Nat.le_of_ble_eq_true rfl) rfl dX8_init_171 (MX8_tells e105) ?_
  refine wp_aload_n dX8_init_174 rfl ?_
  obtain ⟨x106, e108, h107⟩ := Option.bind_eq_some_iff.mp h104
  clear h104
  refine wp_getR okX8 (k := 6) (by decide) tw711 dX8_init_175 e108 ?_
  refine wp_iconst (v := (0 : Int32)) dX8_init_178 (by decide) ?_
  refine wp_iconst (v := (3 : Int32)) dX8_init_179 (by decide) ?_
  obtain ⟨w109, e111, h110⟩ := Option.bind_eq_some_iff.mp h107
  clear h107
  refine wp_iast dX8_init_180 e111 ?_
  refine wp_aload_n dX8_init_181 rfl ?_
  obtain ⟨x112, e114, h113⟩ := Option.bind_eq_some_iff.mp h110
  clear h110
  refine wp_getR okX8 (k := 6) (by decide) tw711 dX8_init_182 e114 ?_
  refine wp_iconst (v := (1 : Int32)) dX8_init_185 (by decide) ?_
  refine wp_iconst (v := (2 : Int32)) dX8_init_186 (by decide) ?_
  obtain ⟨w115, e117, h116⟩ := Option.bind_eq_some_iff.mp h113
  clear h113
  refine wp_iast dX8_init_187 e117 ?_
  refine wp_aload_n dX8_init_188 rfl ?_
  obtain ⟨q118, e120, h119⟩ := Option.bind_eq_some_iff.mp h116
  clear h116
  refine wp_Vv (As := []) (S := []) okM_X8_settles tw703 twP_X8_settles tw701 (OX8_settles e120) rfl rfl rfl ⟨(Nat.le_of_ble_eq_true rfl), (Nat.le_of_ble_eq_true rfl)⟩ (Nat.le_of_ble_eq_true rfl) rfl dX8_init_189 (MX8_settles e120) ?_
  cases h119
  exact wp_vret rfl dX8_init_192
def fX8_init (w : XW) (l0 : Nat) : Option XW := eX8_init w l0
theorem MX8_init {K : CX} {l : Launch} {w : XW} {l0 : Nat} {q : XW} (h : fX8_init w l0 = some q) : MT K l mX8_init 4 87 [.ref l0] w none q := by
  unfold fX8_init at h
  exact MT.of (by decide) (Nat.le_of_ble_eq_true rfl) rfl (EX8_init h)
/-! FractionRun.write(I)I: frames 2, words 41 -/
abbrev mX7_write : MR := (⟨"FractionRun", "write", "(I)I"⟩, prog_1_method_2_code, 2, (some .int))
theorem dX7_write_0 : decode prog_1_method_2_code 0 = .ok (.iload_n 1, 1) := by decide +kernel
theorem dX7_write_1 : decode prog_1_method_2_code 1 = .ok (.bipush 32, 2) := by decide +kernel
theorem dX7_write_3 : decode prog_1_method_2_code 3 = .ok (.if_icmp .lt 9, 3) := by decide +kernel
theorem dX7_write_6 : decode prog_1_method_2_code 6 = .ok (.iload_n 1, 1) := by decide +kernel
theorem dX7_write_7 : decode prog_1_method_2_code 7 = .ok (.bipush 126, 2) := by decide +kernel
theorem dX7_write_9 : decode prog_1_method_2_code 9 = .ok (.if_icmp .le 5, 3) := by decide +kernel
theorem dX7_write_12 : decode prog_1_method_2_code 12 = .ok (.iconst (-1), 1) := by decide +kernel
theorem dX7_write_13 : decode prog_1_method_2_code 13 = .ok (.ireturn, 1) := by decide +kernel
theorem dX7_write_14 : decode prog_1_method_2_code 14 = .ok (.aload_n 0, 1) := by decide +kernel
theorem dX7_write_15 : decode prog_1_method_2_code 15 = .ok (.getfield 10, 3) := by decide +kernel
theorem dX7_write_18 : decode prog_1_method_2_code 18 = .ok (.getfield 107, 3) := by decide +kernel
theorem dX7_write_21 : decode prog_1_method_2_code 21 = .ok (.sipush 200, 3) := by decide +kernel
theorem dX7_write_24 : decode prog_1_method_2_code 24 = .ok (.if_icmp .lt 6, 3) := by decide +kernel
theorem dX7_write_27 : decode prog_1_method_2_code 27 = .ok (.bipush (-3), 2) := by decide +kernel
theorem dX7_write_29 : decode prog_1_method_2_code 29 = .ok (.ireturn, 1) := by decide +kernel
theorem dX7_write_30 : decode prog_1_method_2_code 30 = .ok (.aload_n 0, 1) := by decide +kernel
theorem dX7_write_31 : decode prog_1_method_2_code 31 = .ok (.getfield 10, 3) := by decide +kernel
theorem dX7_write_34 : decode prog_1_method_2_code 34 = .ok (.iload_n 1, 1) := by decide +kernel
theorem dX7_write_35 : decode prog_1_method_2_code 35 = .ok (.i2c, 1) := by decide +kernel
theorem dX7_write_36 : decode prog_1_method_2_code 36 = .ok (.invokevirtual 92, 3) := by decide +kernel
theorem dX7_write_39 : decode prog_1_method_2_code 39 = .ok (.aload_n 0, 1) := by decide +kernel
theorem dX7_write_40 : decode prog_1_method_2_code 40 = .ok (.getfield 10, 3) := by decide +kernel
theorem dX7_write_43 : decode prog_1_method_2_code 43 = .ok (.getfield 107, 3) := by decide +kernel
theorem dX7_write_46 : decode prog_1_method_2_code 46 = .ok (.ireturn, 1) := by decide +kernel
theorem okM_X7_write : okM mX7_write 1 := ⟨tw348, tw1, by decide, by decide, by decide +kernel⟩
def bX7_write_12 (w : XW) : Option (Int32 × XW) :=
  some ((-1 : Int32), w)
theorem BX7_write_12 {K : CX} {l : Launch} {n0 k0 : Nat} {w : XW} {q : Int32 × XW} (h0 : bX7_write_12 w = some q) : WP K l mX7_write 2 41 n0 k0 (some (.int q.1)) q.2 12 [none, none] [] w := by
  unfold bX7_write_12 at h0
  refine wp_iconst (v := (-1 : Int32)) dX7_write_12 (by decide) ?_
  cases h0
  exact wp_iret rfl dX7_write_13
def eX7_write (w : XW) (l0 : Nat) (l1 : Int32) : Option (Int32 × XW) :=
  if l1 < (32 : Int32) then
  bX7_write_12 w
  else
  if l1 ≤ (126 : Int32) then
  (gR w l0 7 0).bind fun x3 =>
  (gI w x3 6 1).bind fun x6 =>
  if x6 < (200 : Int32) then
  (gR w l0 7 0).bind fun x10 =>
  (fX6_add w x10 ((l1.toUInt32 % 65536).toInt32)).bind fun q13 =>
  (gR q13 l0 7 0).bind fun x16 =>
  (gI q13 x16 6 1).bind fun x19 =>
  some (x19, q13)
  else
  some ((-3 : Int32), w)
  else
  bX7_write_12 w
theorem EX7_write {K : CX} {l : Launch} {n0 k0 : Nat} {w : XW} {l0 : Nat} {l1 : Int32} {q : Int32 × XW} (h0 : eX7_write w l0 l1 = some q) : WP K l mX7_write 2 41 n0 k0 (some (.int q.1)) q.2 0 [some (.ref l0), some (.int l1)] [] w := by
  unfold eX7_write at h0
  refine wp_iload_n dX7_write_0 rfl ?_
  refine wp_bipush (v := (32 : Int32)) dX7_write_1 (by decide) ?_
  refine wp_icmp_lt (tgt := 12) dX7_write_3 (by decide) (fun c1 => ?_) (fun c1 => ?_)
  · rw [if_pos c1] at h0
    exact WP.wk (BX7_write_12 h0) trivial
  · rw [if_neg c1] at h0
    refine wp_iload_n dX7_write_6 rfl ?_
    refine wp_bipush (v := (126 : Int32)) dX7_write_7 (by decide) ?_
    refine wp_icmp_le (tgt := 14) dX7_write_9 (by decide) (fun c2 => ?_) (fun c2 => ?_)
    · rw [if_pos c2] at h0
      refine wp_aload_n dX7_write_14 rfl ?_
      obtain ⟨x3, e5, h4⟩ := Option.bind_eq_some_iff.mp h0
      clear h0
      refine wp_getR okX7 (k := 0) (by decide) tw298 dX7_write_15 e5 ?_
      obtain ⟨x6, e8, h7⟩ := Option.bind_eq_some_iff.mp h4
      clear h4
      refine wp_getI okX6 (k := 1) (by decide) tw33 dX7_write_18 e8 ?_
      refine wp_sipush (v := (200 : Int32)) dX7_write_21 (by decide) ?_
      refine wp_icmp_lt (tgt := 30) dX7_write_24 (by decide) (fun c9 => ?_) (fun c9 => ?_)
      · rw [if_pos c9] at h7
        refine wp_aload_n dX7_write_30 rfl ?_
        obtain ⟨x10, e12, h11⟩ := Option.bind_eq_some_iff.mp h7
        clear h7
        refine wp_getR okX7 (k := 0) (by decide) tw298 dX7_write_31 e12 ?_
        refine wp_iload_n dX7_write_34 rfl ?_
        refine wp_i2c dX7_write_35 ?_
        obtain ⟨q13, e15, h14⟩ := Option.bind_eq_some_iff.mp h11
        clear h11
        refine wp_Vv (As := [.int ((l1.toUInt32 % 65536).toInt32)]) (S := []) okM_X6_add tw230 tw231 tw229 (OX6_add e15) rfl rfl rfl ⟨(Nat.le_of_ble_eq_true rfl), (Nat.le_of_ble_eq_true rfl)⟩ (Nat.le_of_ble_eq_true rfl) rfl dX7_write_36 (MX6_add e15) ?_
        refine wp_aload_n dX7_write_39 rfl ?_
        obtain ⟨x16, e18, h17⟩ := Option.bind_eq_some_iff.mp h14
        clear h14
        refine wp_getR okX7 (k := 0) (by decide) tw298 dX7_write_40 e18 ?_
        obtain ⟨x19, e21, h20⟩ := Option.bind_eq_some_iff.mp h17
        clear h17
        refine wp_getI okX6 (k := 1) (by decide) tw33 dX7_write_43 e21 ?_
        cases h20
        exact wp_iret rfl dX7_write_46
      · rw [if_neg c9] at h7
        refine wp_bipush (v := (-3 : Int32)) dX7_write_27 (by decide) ?_
        cases h7
        exact wp_iret rfl dX7_write_29
    · rw [if_neg c2] at h0
      exact WP.wk (BX7_write_12 h0) trivial
def fX7_write (w : XW) (l0 : Nat) (l1 : Int32) : Option (Int32 × XW) := if isO w l0 7 = true then eX7_write w l0 l1 else none
theorem OX7_write {w : XW} {l0 : Nat} {l1 : Int32} {q : Int32 × XW} (h : fX7_write w l0 l1 = some q) : isO w l0 7 = true := Decidable.byContradiction fun z => by unfold fX7_write at h; rw [if_neg z] at h; cases h
theorem MX7_write {K : CX} {l : Launch} {w : XW} {l0 : Nat} {l1 : Int32} {q : Int32 × XW} (h : fX7_write w l0 l1 = some q) : MT K l mX7_write 2 41 [.ref l0, .int l1] w (some (.int q.1)) q.2 := by
  have z := OX7_write h
  unfold fX7_write at h
  rw [if_pos z] at h
  exact MT.of (by decide) (Nat.le_of_ble_eq_true rfl) rfl (EX7_write h)
/-! FractionRunModel.in(JJJ)Z: frames 1, words 20 -/
abbrev mX8_in : MR := (⟨"FractionRunModel", "in", "(JJJ)Z"⟩, prog_10_method_2_code, 6, (some .boolean))
theorem dX8_in_0 : decode prog_10_method_2_code 0 = .ok (.lload_n 0, 1) := by decide +kernel
theorem dX8_in_1 : decode prog_10_method_2_code 1 = .ok (.lload_n 2, 1) := by decide +kernel
theorem dX8_in_2 : decode prog_10_method_2_code 2 = .ok (.lcmp, 1) := by decide +kernel
theorem dX8_in_3 : decode prog_10_method_2_code 3 = .ok (.ifCond .lt 14, 3) := by decide +kernel
theorem dX8_in_6 : decode prog_10_method_2_code 6 = .ok (.lload_n 0, 1) := by decide +kernel
theorem dX8_in_7 : decode prog_10_method_2_code 7 = .ok (.lload 4, 2) := by decide +kernel
theorem dX8_in_9 : decode prog_10_method_2_code 9 = .ok (.lcmp, 1) := by decide +kernel
theorem dX8_in_10 : decode prog_10_method_2_code 10 = .ok (.ifCond .gt 7, 3) := by decide +kernel
theorem dX8_in_13 : decode prog_10_method_2_code 13 = .ok (.iconst 1, 1) := by decide +kernel
theorem dX8_in_14 : decode prog_10_method_2_code 14 = .ok (.goto 4, 3) := by decide +kernel
theorem dX8_in_17 : decode prog_10_method_2_code 17 = .ok (.iconst 0, 1) := by decide +kernel
theorem dX8_in_18 : decode prog_10_method_2_code 18 = .ok (.ireturn, 1) := by decide +kernel
theorem okM_X8_in : okM mX8_in 3 := ⟨tw786, tw15, by decide, by decide, by decide +kernel⟩
def bX8_in_18 (w : XW) (s0 : Int32) : Option (Int32 × XW) :=
  if s0 &&& 1 = s0 then some (s0, w) else none
theorem BX8_in_18 {K : CX} {l : Launch} {n0 k0 : Nat} {w : XW} {s0 : Int32} {q : Int32 × XW} (h0 : bX8_in_18 w s0 = some q) : WP K l mX8_in 1 20 n0 k0 (some (.int q.1)) q.2 18 [none, none, none, none, none, none] [.int s0] w := by
  unfold bX8_in_18 at h0
  have c1 : s0 &&& 1 = s0 := Decidable.byContradiction fun z => by rw [if_neg z] at h0; cases h0
  rw [if_pos c1] at h0
  cases h0
  exact wp_zret rfl (zb_n c1) dX8_in_18
def bX8_in_17 (w : XW) : Option (Int32 × XW) :=
  bX8_in_18 w (0 : Int32)
theorem BX8_in_17 {K : CX} {l : Launch} {n0 k0 : Nat} {w : XW} {q : Int32 × XW} (h0 : bX8_in_17 w = some q) : WP K l mX8_in 1 20 n0 k0 (some (.int q.1)) q.2 17 [none, none, none, none, none, none] [] w := by
  unfold bX8_in_17 at h0
  refine wp_iconst (v := (0 : Int32)) dX8_in_17 (by decide) ?_
  exact WP.wk (BX8_in_18 h0) trivial
def eX8_in (w : XW) (l0 : Int64) (l2 : Int64) (l4 : Int64) : Option (Int32 × XW) :=
  if (lg_cmp l0 l2) < 0 then
  bX8_in_17 w
  else
  if 0 < (lg_cmp l0 l4) then
  bX8_in_17 w
  else
  bX8_in_18 w (1 : Int32)
theorem EX8_in {K : CX} {l : Launch} {n0 k0 : Nat} {w : XW} {l0 : Int64} {l2 : Int64} {l4 : Int64} {q : Int32 × XW} (h0 : eX8_in w l0 l2 l4 = some q) : WP K l mX8_in 1 20 n0 k0 (some (.int q.1)) q.2 0 [some (.long l0), none, some (.long l2), none, some (.long l4), none] [] w := by
  unfold eX8_in at h0
  refine wp_lload_n dX8_in_0 rfl ?_
  refine wp_lload_n dX8_in_1 rfl ?_
  refine wp_lcmp dX8_in_2 ?_
  refine wp_if_lt (tgt := 17) dX8_in_3 (by decide) (fun c1 => ?_) (fun c1 => ?_)
  · rw [if_pos c1] at h0
    exact WP.wk (BX8_in_17 h0) trivial
  · rw [if_neg c1] at h0
    refine wp_lload_n dX8_in_6 rfl ?_
    refine wp_lload dX8_in_7 rfl ?_
    refine wp_lcmp dX8_in_9 ?_
    refine wp_if_gt (tgt := 17) dX8_in_10 (by decide) (fun c2 => ?_) (fun c2 => ?_)
    · rw [if_pos c2] at h0
      exact WP.wk (BX8_in_17 h0) trivial
    · rw [if_neg c2] at h0
      refine wp_iconst (v := (1 : Int32)) dX8_in_13 (by decide) ?_
      refine wp_goto (tgt := 18) dX8_in_14 (by decide) ?_
      exact WP.wk (BX8_in_18 h0) trivial
def fX8_in (w : XW) (l0 : Int64) (l2 : Int64) (l4 : Int64) : Option (Int32 × XW) := eX8_in w l0 l2 l4
theorem MX8_in {K : CX} {l : Launch} {w : XW} {l0 : Int64} {l2 : Int64} {l4 : Int64} {q : Int32 × XW} (h : fX8_in w l0 l2 l4 = some q) : MT K l mX8_in 1 20 [.long l0, .long l2, .long l4] w (some (.int q.1)) q.2 := by
  unfold fX8_in at h
  exact MT.of (by decide) (Nat.le_of_ble_eq_true rfl) rfl (EX8_in h)
/-! FractionRunModel.write(I)I: frames 2, words 45 -/
abbrev mX8_write : MR := (⟨"FractionRunModel", "write", "(I)I"⟩, prog_10_method_10_code, 2, (some .int))
theorem dX8_write_0 : decode prog_10_method_10_code 0 = .ok (.iload_n 1, 1) := by decide +kernel
theorem dX8_write_1 : decode prog_10_method_10_code 1 = .ok (.i2l, 1) := by decide +kernel
theorem dX8_write_2 : decode prog_10_method_10_code 2 = .ok (.ldc2_w 84, 3) := by decide +kernel
theorem dX8_write_5 : decode prog_10_method_10_code 5 = .ok (.ldc2_w 86, 3) := by decide +kernel
theorem dX8_write_8 : decode prog_10_method_10_code 8 = .ok (.invokestatic 88, 3) := by decide +kernel
theorem dX8_write_11 : decode prog_10_method_10_code 11 = .ok (.ifCond .ne 5, 3) := by decide +kernel
theorem dX8_write_14 : decode prog_10_method_10_code 14 = .ok (.iconst (-1), 1) := by decide +kernel
theorem dX8_write_15 : decode prog_10_method_10_code 15 = .ok (.ireturn, 1) := by decide +kernel
theorem dX8_write_16 : decode prog_10_method_10_code 16 = .ok (.aload_n 0, 1) := by decide +kernel
theorem dX8_write_17 : decode prog_10_method_10_code 17 = .ok (.getfield 92, 3) := by decide +kernel
theorem dX8_write_20 : decode prog_10_method_10_code 20 = .ok (.sipush 200, 3) := by decide +kernel
theorem dX8_write_23 : decode prog_10_method_10_code 23 = .ok (.if_icmp .ne 6, 3) := by decide +kernel
theorem dX8_write_26 : decode prog_10_method_10_code 26 = .ok (.bipush (-3), 2) := by decide +kernel
theorem dX8_write_28 : decode prog_10_method_10_code 28 = .ok (.ireturn, 1) := by decide +kernel
theorem dX8_write_29 : decode prog_10_method_10_code 29 = .ok (.aload_n 0, 1) := by decide +kernel
theorem dX8_write_30 : decode prog_10_method_10_code 30 = .ok (.getfield 28, 3) := by decide +kernel
theorem dX8_write_33 : decode prog_10_method_10_code 33 = .ok (.aload_n 0, 1) := by decide +kernel
theorem dX8_write_34 : decode prog_10_method_10_code 34 = .ok (.getfield 92, 3) := by decide +kernel
theorem dX8_write_37 : decode prog_10_method_10_code 37 = .ok (.iload_n 1, 1) := by decide +kernel
theorem dX8_write_38 : decode prog_10_method_10_code 38 = .ok (.i2b, 1) := by decide +kernel
theorem dX8_write_39 : decode prog_10_method_10_code 39 = .ok (.bastore, 1) := by decide +kernel
theorem dX8_write_40 : decode prog_10_method_10_code 40 = .ok (.aload_n 0, 1) := by decide +kernel
theorem dX8_write_41 : decode prog_10_method_10_code 41 = .ok (.dup, 1) := by decide +kernel
theorem dX8_write_42 : decode prog_10_method_10_code 42 = .ok (.getfield 92, 3) := by decide +kernel
theorem dX8_write_45 : decode prog_10_method_10_code 45 = .ok (.iconst 1, 1) := by decide +kernel
theorem dX8_write_46 : decode prog_10_method_10_code 46 = .ok (.iadd, 1) := by decide +kernel
theorem dX8_write_47 : decode prog_10_method_10_code 47 = .ok (.putfield 92, 3) := by decide +kernel
theorem dX8_write_50 : decode prog_10_method_10_code 50 = .ok (.aload_n 0, 1) := by decide +kernel
theorem dX8_write_51 : decode prog_10_method_10_code 51 = .ok (.getfield 92, 3) := by decide +kernel
theorem dX8_write_54 : decode prog_10_method_10_code 54 = .ok (.ireturn, 1) := by decide +kernel
theorem okM_X8_write : okM mX8_write 1 := ⟨tw781, tw15, by decide, by decide, by decide +kernel⟩
def eX8_write (w : XW) (l0 : Nat) (l1 : Int32) : Option (Int32 × XW) :=
  (fX8_in w (l1.toInt64) (32 : Int64) (126 : Int64)).bind fun q1 =>
  if q1.1 = 0 then
  some ((-1 : Int32), q1.2)
  else
  (gI q1.2 l0 8 10).bind fun x5 =>
  if x5 = (200 : Int32) then
  some ((-3 : Int32), q1.2)
  else
  (gR q1.2 l0 8 11).bind fun x9 =>
  (gI q1.2 l0 8 10).bind fun x12 =>
  (sI q1.2 2 x9 x12 (vp_nar .byte (l1.toInt8.toInt32))).bind fun w15 =>
  (gI w15 l0 8 10).bind fun x18 =>
  (pV w15 l0 8 10 (.int (x18 + (1 : Int32)))).bind fun w21 =>
  (gI w21 l0 8 10).bind fun x24 =>
  some (x24, w21)
theorem EX8_write {K : CX} {l : Launch} {n0 k0 : Nat} {w : XW} {l0 : Nat} {l1 : Int32} {q : Int32 × XW} (h0 : eX8_write w l0 l1 = some q) : WP K l mX8_write 2 45 n0 k0 (some (.int q.1)) q.2 0 [some (.ref l0), some (.int l1)] [] w := by
  unfold eX8_write at h0
  refine wp_iload_n dX8_write_0 rfl ?_
  refine wp_i2l dX8_write_1 ?_
  refine wp_ldc2 tw782 dX8_write_2 ?_
  refine wp_ldc2 tw783 dX8_write_5 ?_
  obtain ⟨q1, e3, h2⟩ := Option.bind_eq_some_iff.mp h0
  clear h0
  refine wp_Si (As := [.long (l1.toInt64), .long (32 : Int64), .long (126 : Int64)]) (S := []) okM_X8_in tw785 tw784 rfl ⟨(Nat.le_of_ble_eq_true rfl), (Nat.le_of_ble_eq_true rfl)⟩ (Nat.le_of_ble_eq_true rfl) rfl dX8_write_8 (MX8_in e3) ?_
  refine wp_if_ne (tgt := 16) dX8_write_11 (by decide) (fun c4 => ?_) (fun c4 => ?_)
  · rw [if_neg c4] at h2
    refine wp_aload_n dX8_write_16 rfl ?_
    obtain ⟨x5, e7, h6⟩ := Option.bind_eq_some_iff.mp h2
    clear h2
    refine wp_getI okX8 (k := 10) (by decide) tw715 dX8_write_17 e7 ?_
    refine wp_sipush (v := (200 : Int32)) dX8_write_20 (by decide) ?_
    refine wp_icmp_ne (tgt := 29) dX8_write_23 (by decide) (fun c8 => ?_) (fun c8 => ?_)
    · rw [if_neg c8] at h6
      refine wp_aload_n dX8_write_29 rfl ?_
      obtain ⟨x9, e11, h10⟩ := Option.bind_eq_some_iff.mp h6
      clear h6
      refine wp_getR okX8 (k := 11) (by decide) tw716 dX8_write_30 e11 ?_
      refine wp_aload_n dX8_write_33 rfl ?_
      obtain ⟨x12, e14, h13⟩ := Option.bind_eq_some_iff.mp h10
      clear h10
      refine wp_getI okX8 (k := 10) (by decide) tw715 dX8_write_34 e14 ?_
      refine wp_iload_n dX8_write_37 rfl ?_
      refine wp_i2b dX8_write_38 ?_
      obtain ⟨w15, e17, h16⟩ := Option.bind_eq_some_iff.mp h13
      clear h13
      refine wp_bast dX8_write_39 e17 ?_
      refine wp_aload_n dX8_write_40 rfl ?_
      refine wp_dup dX8_write_41 rfl ?_
      obtain ⟨x18, e20, h19⟩ := Option.bind_eq_some_iff.mp h16
      clear h16
      refine wp_getI okX8 (k := 10) (by decide) tw715 dX8_write_42 e20 ?_
      refine wp_iconst (v := (1 : Int32)) dX8_write_45 (by decide) ?_
      refine wp_iadd dX8_write_46 ?_
      obtain ⟨w21, e23, h22⟩ := Option.bind_eq_some_iff.mp h19
      clear h19
      refine wp_putV okX8 (k := 10) (by decide) rfl tw715 dX8_write_47 rfl rfl e23 ?_
      refine wp_aload_n dX8_write_50 rfl ?_
      obtain ⟨x24, e26, h25⟩ := Option.bind_eq_some_iff.mp h22
      clear h22
      refine wp_getI okX8 (k := 10) (by decide) tw715 dX8_write_51 e26 ?_
      cases h25
      exact wp_iret rfl dX8_write_54
    · rw [if_pos c8] at h6
      refine wp_bipush (v := (-3 : Int32)) dX8_write_26 (by decide) ?_
      cases h6
      exact wp_iret rfl dX8_write_28
  · rw [if_pos c4] at h2
    refine wp_iconst (v := (-1 : Int32)) dX8_write_14 (by decide) ?_
    cases h2
    exact wp_iret rfl dX8_write_15
def fX8_write (w : XW) (l0 : Nat) (l1 : Int32) : Option (Int32 × XW) := if isO w l0 8 = true then eX8_write w l0 l1 else none
theorem OX8_write {w : XW} {l0 : Nat} {l1 : Int32} {q : Int32 × XW} (h : fX8_write w l0 l1 = some q) : isO w l0 8 = true := Decidable.byContradiction fun z => by unfold fX8_write at h; rw [if_neg z] at h; cases h
theorem MX8_write {K : CX} {l : Launch} {w : XW} {l0 : Nat} {l1 : Int32} {q : Int32 × XW} (h : fX8_write w l0 l1 = some q) : MT K l mX8_write 2 45 [.ref l0, .int l1] w (some (.int q.1)) q.2 := by
  have z := OX8_write h
  unfold fX8_write at h
  rw [if_pos z] at h
  exact MT.of (by decide) (Nat.le_of_ble_eq_true rfl) rfl (EX8_write h)
/-! FractionRun.wipe()I: frames 2, words 40 -/
abbrev mX7_wipe : MR := (⟨"FractionRun", "wipe", "()I"⟩, prog_1_method_3_code, 2, (some .int))
theorem dX7_wipe_0 : decode prog_1_method_3_code 0 = .ok (.aload_n 0, 1) := by decide +kernel
theorem dX7_wipe_1 : decode prog_1_method_3_code 1 = .ok (.getfield 10, 3) := by decide +kernel
theorem dX7_wipe_4 : decode prog_1_method_3_code 4 = .ok (.getfield 107, 3) := by decide +kernel
theorem dX7_wipe_7 : decode prog_1_method_3_code 7 = .ok (.istore_n 1, 1) := by decide +kernel
theorem dX7_wipe_8 : decode prog_1_method_3_code 8 = .ok (.aload_n 0, 1) := by decide +kernel
theorem dX7_wipe_9 : decode prog_1_method_3_code 9 = .ok (.getfield 10, 3) := by decide +kernel
theorem dX7_wipe_12 : decode prog_1_method_3_code 12 = .ok (.invokevirtual 100, 3) := by decide +kernel
theorem dX7_wipe_15 : decode prog_1_method_3_code 15 = .ok (.iload_n 1, 1) := by decide +kernel
theorem dX7_wipe_16 : decode prog_1_method_3_code 16 = .ok (.ireturn, 1) := by decide +kernel
theorem okM_X7_wipe : okM mX7_wipe 0 := ⟨tw352, tw1, by decide, by decide, by decide +kernel⟩
def eX7_wipe (w : XW) (l0 : Nat) : Option (Int32 × XW) :=
  (gR w l0 7 0).bind fun x1 =>
  (gI w x1 6 1).bind fun x4 =>
  (gR w l0 7 0).bind fun x7 =>
  (fX6_clear w x7).bind fun q10 =>
  some (x4, q10)
theorem EX7_wipe {K : CX} {l : Launch} {n0 k0 : Nat} {w : XW} {l0 : Nat} {q : Int32 × XW} (h0 : eX7_wipe w l0 = some q) : WP K l mX7_wipe 2 40 n0 k0 (some (.int q.1)) q.2 0 [some (.ref l0), none] [] w := by
  unfold eX7_wipe at h0
  refine wp_aload_n dX7_wipe_0 rfl ?_
  obtain ⟨x1, e3, h2⟩ := Option.bind_eq_some_iff.mp h0
  clear h0
  refine wp_getR okX7 (k := 0) (by decide) tw298 dX7_wipe_1 e3 ?_
  obtain ⟨x4, e6, h5⟩ := Option.bind_eq_some_iff.mp h2
  clear h2
  refine wp_getI okX6 (k := 1) (by decide) tw33 dX7_wipe_4 e6 ?_
  refine wp_istore_n (L1 := [some (.ref l0), some (.int x4)]) dX7_wipe_7 (Nat.le_of_ble_eq_true rfl) rfl ?_
  refine wp_aload_n dX7_wipe_8 rfl ?_
  obtain ⟨x7, e9, h8⟩ := Option.bind_eq_some_iff.mp h5
  clear h5
  refine wp_getR okX7 (k := 0) (by decide) tw298 dX7_wipe_9 e9 ?_
  obtain ⟨q10, e12, h11⟩ := Option.bind_eq_some_iff.mp h8
  clear h8
  refine wp_Vv (As := []) (S := []) okM_X6_clear tw284 tw285 tw283 (OX6_clear e12) rfl rfl rfl ⟨(Nat.le_of_ble_eq_true rfl), (Nat.le_of_ble_eq_true rfl)⟩ (Nat.le_of_ble_eq_true rfl) rfl dX7_wipe_12 (MX6_clear e12) ?_
  refine wp_iload_n dX7_wipe_15 rfl ?_
  cases h11
  exact wp_iret rfl dX7_wipe_16
def fX7_wipe (w : XW) (l0 : Nat) : Option (Int32 × XW) := if isO w l0 7 = true then eX7_wipe w l0 else none
theorem OX7_wipe {w : XW} {l0 : Nat} {q : Int32 × XW} (h : fX7_wipe w l0 = some q) : isO w l0 7 = true := Decidable.byContradiction fun z => by unfold fX7_wipe at h; rw [if_neg z] at h; cases h
theorem MX7_wipe {K : CX} {l : Launch} {w : XW} {l0 : Nat} {q : Int32 × XW} (h : fX7_wipe w l0 = some q) : MT K l mX7_wipe 2 40 [.ref l0] w (some (.int q.1)) q.2 := by
  have z := OX7_wipe h
  unfold fX7_wipe at h
  rw [if_pos z] at h
  exact MT.of (by decide) (Nat.le_of_ble_eq_true rfl) rfl (EX7_wipe h)
/-! FractionRunModel.wipe()I: frames 1, words 20 -/
abbrev mX8_wipe : MR := (⟨"FractionRunModel", "wipe", "()I"⟩, prog_10_method_11_code, 2, (some .int))
theorem dX8_wipe_0 : decode prog_10_method_11_code 0 = .ok (.aload_n 0, 1) := by decide +kernel
theorem dX8_wipe_1 : decode prog_10_method_11_code 1 = .ok (.getfield 92, 3) := by decide +kernel
theorem dX8_wipe_4 : decode prog_10_method_11_code 4 = .ok (.istore_n 1, 1) := by decide +kernel
theorem dX8_wipe_5 : decode prog_10_method_11_code 5 = .ok (.aload_n 0, 1) := by decide +kernel
theorem dX8_wipe_6 : decode prog_10_method_11_code 6 = .ok (.iconst 0, 1) := by decide +kernel
theorem dX8_wipe_7 : decode prog_10_method_11_code 7 = .ok (.putfield 92, 3) := by decide +kernel
theorem dX8_wipe_10 : decode prog_10_method_11_code 10 = .ok (.iload_n 1, 1) := by decide +kernel
theorem dX8_wipe_11 : decode prog_10_method_11_code 11 = .ok (.ireturn, 1) := by decide +kernel
theorem okM_X8_wipe : okM mX8_wipe 0 := ⟨tw790, tw15, by decide, by decide, by decide +kernel⟩
def eX8_wipe (w : XW) (l0 : Nat) : Option (Int32 × XW) :=
  (gI w l0 8 10).bind fun x1 =>
  (pV w l0 8 10 (.int (0 : Int32))).bind fun w4 =>
  some (x1, w4)
theorem EX8_wipe {K : CX} {l : Launch} {n0 k0 : Nat} {w : XW} {l0 : Nat} {q : Int32 × XW} (h0 : eX8_wipe w l0 = some q) : WP K l mX8_wipe 1 20 n0 k0 (some (.int q.1)) q.2 0 [some (.ref l0), none] [] w := by
  unfold eX8_wipe at h0
  refine wp_aload_n dX8_wipe_0 rfl ?_
  obtain ⟨x1, e3, h2⟩ := Option.bind_eq_some_iff.mp h0
  clear h0
  refine wp_getI okX8 (k := 10) (by decide) tw715 dX8_wipe_1 e3 ?_
  refine wp_istore_n (L1 := [some (.ref l0), some (.int x1)]) dX8_wipe_4 (Nat.le_of_ble_eq_true rfl) rfl ?_
  refine wp_aload_n dX8_wipe_5 rfl ?_
  refine wp_iconst (v := (0 : Int32)) dX8_wipe_6 (by decide) ?_
  obtain ⟨w4, e6, h5⟩ := Option.bind_eq_some_iff.mp h2
  clear h2
  refine wp_putV okX8 (k := 10) (by decide) rfl tw715 dX8_wipe_7 rfl rfl e6 ?_
  refine wp_iload_n dX8_wipe_10 rfl ?_
  cases h5
  exact wp_iret rfl dX8_wipe_11
def fX8_wipe (w : XW) (l0 : Nat) : Option (Int32 × XW) := if isO w l0 8 = true then eX8_wipe w l0 else none
theorem OX8_wipe {w : XW} {l0 : Nat} {q : Int32 × XW} (h : fX8_wipe w l0 = some q) : isO w l0 8 = true := Decidable.byContradiction fun z => by unfold fX8_wipe at h; rw [if_neg z] at h; cases h
theorem MX8_wipe {K : CX} {l : Launch} {w : XW} {l0 : Nat} {q : Int32 × XW} (h : fX8_wipe w l0 = some q) : MT K l mX8_wipe 1 20 [.ref l0] w (some (.int q.1)) q.2 := by
  have z := OX8_wipe h
  unfold fX8_wipe at h
  rw [if_pos z] at h
  exact MT.of (by decide) (Nat.le_of_ble_eq_true rfl) rfl (EX8_wipe h)
/-! FractionRun.fault()I: frames 6, words 144 -/
abbrev mX7_fault : MR := (⟨"FractionRun", "fault", "()I"⟩, prog_1_method_4_code, 1, (some .int))
theorem dX7_fault_0 : decode prog_1_method_4_code 0 = .ok (.aload_n 0, 1) := by decide +kernel
theorem dX7_fault_1 : decode prog_1_method_4_code 1 = .ok (.getfield 19, 3) := by decide +kernel
theorem dX7_fault_4 : decode prog_1_method_4_code 4 = .ok (.aload_n 0, 1) := by decide +kernel
theorem dX7_fault_5 : decode prog_1_method_4_code 5 = .ok (.getfield 10, 3) := by decide +kernel
theorem dX7_fault_8 : decode prog_1_method_4_code 8 = .ok (.aload_n 0, 1) := by decide +kernel
theorem dX7_fault_9 : decode prog_1_method_4_code 9 = .ok (.getfield 30, 3) := by decide +kernel
theorem dX7_fault_12 : decode prog_1_method_4_code 12 = .ok (.invokevirtual 96, 3) := by decide +kernel
theorem dX7_fault_15 : decode prog_1_method_4_code 15 = .ok (.ireturn, 1) := by decide +kernel
theorem okM_X7_fault : okM mX7_fault 0 := ⟨tw356, tw1, by decide, by decide, by decide +kernel⟩
def eX7_fault (w : XW) (l0 : Nat) : Option (Int32 × XW) :=
  (gR w l0 7 1).bind fun x1 =>
  (gR w l0 7 0).bind fun x4 =>
  (gR w l0 7 3).bind fun x7 =>
  (fX4_read w x1 x4 x7).bind fun q10 =>
  some (q10.1, q10.2)
theorem EX7_fault {K : CX} {l : Launch} {n0 k0 : Nat} {w : XW} {l0 : Nat} {q : Int32 × XW} (h0 : eX7_fault w l0 = some q) : WP K l mX7_fault 6 144 n0 k0 (some (.int q.1)) q.2 0 [some (.ref l0)] [] w := by
  unfold eX7_fault at h0
  refine wp_aload_n dX7_fault_0 rfl ?_
  obtain ⟨x1, e3, h2⟩ := Option.bind_eq_some_iff.mp h0
  clear h0
  refine wp_getR okX7 (k := 1) (by decide) tw299 dX7_fault_1 e3 ?_
  refine wp_aload_n dX7_fault_4 rfl ?_
  obtain ⟨x4, e6, h5⟩ := Option.bind_eq_some_iff.mp h2
  clear h2
  refine wp_getR okX7 (k := 0) (by decide) tw298 dX7_fault_5 e6 ?_
  refine wp_aload_n dX7_fault_8 rfl ?_
  obtain ⟨x7, e9, h8⟩ := Option.bind_eq_some_iff.mp h5
  clear h5
  refine wp_getR okX7 (k := 3) (by decide) tw301 dX7_fault_9 e9 ?_
  obtain ⟨q10, e12, h11⟩ := Option.bind_eq_some_iff.mp h8
  clear h8
  refine wp_Vi (As := [.ref x4, .ref x7]) (S := []) okM_X4_read tw234 tw235 tw233 (OX4_read e12) rfl rfl rfl ⟨(Nat.le_of_ble_eq_true rfl), (Nat.le_of_ble_eq_true rfl)⟩ (Nat.le_of_ble_eq_true rfl) rfl dX7_fault_12 (MX4_read e12) ?_
  cases h11
  exact wp_iret rfl dX7_fault_15
def fX7_fault (w : XW) (l0 : Nat) : Option (Int32 × XW) := if isO w l0 7 = true then eX7_fault w l0 else none
theorem OX7_fault {w : XW} {l0 : Nat} {q : Int32 × XW} (h : fX7_fault w l0 = some q) : isO w l0 7 = true := Decidable.byContradiction fun z => by unfold fX7_fault at h; rw [if_neg z] at h; cases h
theorem MX7_fault {K : CX} {l : Launch} {w : XW} {l0 : Nat} {q : Int32 × XW} (h : fX7_fault w l0 = some q) : MT K l mX7_fault 6 144 [.ref l0] w (some (.int q.1)) q.2 := by
  have z := OX7_fault h
  unfold fX7_fault at h
  rw [if_pos z] at h
  exact MT.of (by decide) (Nat.le_of_ble_eq_true rfl) rfl (EX7_fault h)
/-! FractionRunModel.letterAt(I)I: frames 1, words 20 -/
abbrev mX8_letterAt : MR := (⟨"FractionRunModel", "letterAt", "(I)I"⟩, prog_10_method_12_code, 2, (some .int))
theorem dX8_letterAt_0 : decode prog_10_method_12_code 0 = .ok (.iload_n 1, 1) := by decide +kernel
theorem dX8_letterAt_1 : decode prog_10_method_12_code 1 = .ok (.aload_n 0, 1) := by decide +kernel
theorem dX8_letterAt_2 : decode prog_10_method_12_code 2 = .ok (.getfield 92, 3) := by decide +kernel
theorem dX8_letterAt_5 : decode prog_10_method_12_code 5 = .ok (.if_icmp .ge 12, 3) := by decide +kernel
theorem dX8_letterAt_8 : decode prog_10_method_12_code 8 = .ok (.aload_n 0, 1) := by decide +kernel
theorem dX8_letterAt_9 : decode prog_10_method_12_code 9 = .ok (.getfield 28, 3) := by decide +kernel
theorem dX8_letterAt_12 : decode prog_10_method_12_code 12 = .ok (.iload_n 1, 1) := by decide +kernel
theorem dX8_letterAt_13 : decode prog_10_method_12_code 13 = .ok (.baload, 1) := by decide +kernel
theorem dX8_letterAt_14 : decode prog_10_method_12_code 14 = .ok (.goto 4, 3) := by decide +kernel
theorem dX8_letterAt_17 : decode prog_10_method_12_code 17 = .ok (.iconst (-1), 1) := by decide +kernel
theorem dX8_letterAt_18 : decode prog_10_method_12_code 18 = .ok (.ireturn, 1) := by decide +kernel
theorem okM_X8_letterAt : okM mX8_letterAt 1 := ⟨tw802, tw15, by decide, by decide, by decide +kernel⟩
def bX8_letterAt_18 (w : XW) (s0 : Int32) : Option (Int32 × XW) :=
  some (s0, w)
theorem BX8_letterAt_18 {K : CX} {l : Launch} {n0 k0 : Nat} {w : XW} {s0 : Int32} {q : Int32 × XW} (h0 : bX8_letterAt_18 w s0 = some q) : WP K l mX8_letterAt 1 20 n0 k0 (some (.int q.1)) q.2 18 [none, none] [.int s0] w := by
  unfold bX8_letterAt_18 at h0
  cases h0
  exact wp_iret rfl dX8_letterAt_18
def eX8_letterAt (w : XW) (l0 : Nat) (l1 : Int32) : Option (Int32 × XW) :=
  (gI w l0 8 10).bind fun x1 =>
  if x1 ≤ l1 then
  bX8_letterAt_18 w (-1 : Int32)
  else
  (gR w l0 8 11).bind fun x5 =>
  (aI w 2 x5 l1).bind fun x8 =>
  bX8_letterAt_18 w x8
theorem EX8_letterAt {K : CX} {l : Launch} {n0 k0 : Nat} {w : XW} {l0 : Nat} {l1 : Int32} {q : Int32 × XW} (h0 : eX8_letterAt w l0 l1 = some q) : WP K l mX8_letterAt 1 20 n0 k0 (some (.int q.1)) q.2 0 [some (.ref l0), some (.int l1)] [] w := by
  unfold eX8_letterAt at h0
  refine wp_iload_n dX8_letterAt_0 rfl ?_
  refine wp_aload_n dX8_letterAt_1 rfl ?_
  obtain ⟨x1, e3, h2⟩ := Option.bind_eq_some_iff.mp h0
  clear h0
  refine wp_getI okX8 (k := 10) (by decide) tw715 dX8_letterAt_2 e3 ?_
  refine wp_icmp_ge (tgt := 17) dX8_letterAt_5 (by decide) (fun c4 => ?_) (fun c4 => ?_)
  · rw [if_pos c4] at h2
    refine wp_iconst (v := (-1 : Int32)) dX8_letterAt_17 (by decide) ?_
    exact WP.wk (BX8_letterAt_18 h2) trivial
  · rw [if_neg c4] at h2
    refine wp_aload_n dX8_letterAt_8 rfl ?_
    obtain ⟨x5, e7, h6⟩ := Option.bind_eq_some_iff.mp h2
    clear h2
    refine wp_getR okX8 (k := 11) (by decide) tw716 dX8_letterAt_9 e7 ?_
    refine wp_iload_n dX8_letterAt_12 rfl ?_
    obtain ⟨x8, e10, h9⟩ := Option.bind_eq_some_iff.mp h6
    clear h6
    refine wp_bald dX8_letterAt_13 e10 ?_
    refine wp_goto (tgt := 18) dX8_letterAt_14 (by decide) ?_
    exact WP.wk (BX8_letterAt_18 h9) trivial
def fX8_letterAt (w : XW) (l0 : Nat) (l1 : Int32) : Option (Int32 × XW) := if isO w l0 8 = true then eX8_letterAt w l0 l1 else none
theorem OX8_letterAt {w : XW} {l0 : Nat} {l1 : Int32} {q : Int32 × XW} (h : fX8_letterAt w l0 l1 = some q) : isO w l0 8 = true := Decidable.byContradiction fun z => by unfold fX8_letterAt at h; rw [if_neg z] at h; cases h
theorem MX8_letterAt {K : CX} {l : Launch} {w : XW} {l0 : Nat} {l1 : Int32} {q : Int32 × XW} (h : fX8_letterAt w l0 l1 = some q) : MT K l mX8_letterAt 1 20 [.ref l0, .int l1] w (some (.int q.1)) q.2 := by
  have z := OX8_letterAt h
  unfold fX8_letterAt at h
  rw [if_pos z] at h
  exact MT.of (by decide) (Nat.le_of_ble_eq_true rfl) rfl (EX8_letterAt h)
/-! FractionRunModel.number(II)I: frames 2, words 45 -/
abbrev mX8_number : MR := (⟨"FractionRunModel", "number", "(II)I"⟩, prog_10_method_13_code, 5, (some .int))
theorem dX8_number_0 : decode prog_10_method_13_code 0 = .ok (.iconst 0, 1) := by decide +kernel
theorem dX8_number_1 : decode prog_10_method_13_code 1 = .ok (.istore_n 3, 1) := by decide +kernel
theorem dX8_number_2 : decode prog_10_method_13_code 2 = .ok (.iconst 0, 1) := by decide +kernel
theorem dX8_number_3 : decode prog_10_method_13_code 3 = .ok (.istore 4, 2) := by decide +kernel
theorem dX8_number_5 : decode prog_10_method_13_code 5 = .ok (.aload_n 0, 1) := by decide +kernel
theorem dX8_number_6 : decode prog_10_method_13_code 6 = .ok (.aload_n 0, 1) := by decide +kernel
theorem dX8_number_7 : decode prog_10_method_13_code 7 = .ok (.getfield 95, 3) := by decide +kernel
theorem dX8_number_10 : decode prog_10_method_13_code 10 = .ok (.invokevirtual 98, 3) := by decide +kernel
theorem dX8_number_13 : decode prog_10_method_13_code 13 = .ok (.i2l, 1) := by decide +kernel
theorem dX8_number_14 : decode prog_10_method_13_code 14 = .ok (.ldc2_w 101, 3) := by decide +kernel
theorem dX8_number_17 : decode prog_10_method_13_code 17 = .ok (.ldc2_w 103, 3) := by decide +kernel
theorem dX8_number_20 : decode prog_10_method_13_code 20 = .ok (.invokestatic 88, 3) := by decide +kernel
theorem dX8_number_23 : decode prog_10_method_13_code 23 = .ok (.ifCond .eq 46, 3) := by decide +kernel
theorem dX8_number_26 : decode prog_10_method_13_code 26 = .ok (.iload 4, 2) := by decide +kernel
theorem dX8_number_28 : decode prog_10_method_13_code 28 = .ok (.iconst 3, 1) := by decide +kernel
theorem dX8_number_29 : decode prog_10_method_13_code 29 = .ok (.if_icmp .ge 22, 3) := by decide +kernel
theorem dX8_number_32 : decode prog_10_method_13_code 32 = .ok (.bipush 10, 2) := by decide +kernel
theorem dX8_number_34 : decode prog_10_method_13_code 34 = .ok (.iload_n 3, 1) := by decide +kernel
theorem dX8_number_35 : decode prog_10_method_13_code 35 = .ok (.imul, 1) := by decide +kernel
theorem dX8_number_36 : decode prog_10_method_13_code 36 = .ok (.aload_n 0, 1) := by decide +kernel
theorem dX8_number_37 : decode prog_10_method_13_code 37 = .ok (.aload_n 0, 1) := by decide +kernel
theorem dX8_number_38 : decode prog_10_method_13_code 38 = .ok (.getfield 95, 3) := by decide +kernel
theorem dX8_number_41 : decode prog_10_method_13_code 41 = .ok (.invokevirtual 98, 3) := by decide +kernel
theorem dX8_number_44 : decode prog_10_method_13_code 44 = .ok (.iadd, 1) := by decide +kernel
theorem dX8_number_45 : decode prog_10_method_13_code 45 = .ok (.bipush 48, 2) := by decide +kernel
theorem dX8_number_47 : decode prog_10_method_13_code 47 = .ok (.isub, 1) := by decide +kernel
theorem dX8_number_48 : decode prog_10_method_13_code 48 = .ok (.goto 4, 3) := by decide +kernel
theorem dX8_number_51 : decode prog_10_method_13_code 51 = .ok (.iload_n 3, 1) := by decide +kernel
theorem dX8_number_52 : decode prog_10_method_13_code 52 = .ok (.istore_n 3, 1) := by decide +kernel
theorem dX8_number_53 : decode prog_10_method_13_code 53 = .ok (.iinc 4 1, 3) := by decide +kernel
theorem dX8_number_56 : decode prog_10_method_13_code 56 = .ok (.aload_n 0, 1) := by decide +kernel
theorem dX8_number_57 : decode prog_10_method_13_code 57 = .ok (.dup, 1) := by decide +kernel
theorem dX8_number_58 : decode prog_10_method_13_code 58 = .ok (.getfield 95, 3) := by decide +kernel
theorem dX8_number_61 : decode prog_10_method_13_code 61 = .ok (.iconst 1, 1) := by decide +kernel
theorem dX8_number_62 : decode prog_10_method_13_code 62 = .ok (.iadd, 1) := by decide +kernel
theorem dX8_number_63 : decode prog_10_method_13_code 63 = .ok (.putfield 95, 3) := by decide +kernel
theorem dX8_number_66 : decode prog_10_method_13_code 66 = .ok (.goto (-61), 3) := by decide +kernel
theorem dX8_number_69 : decode prog_10_method_13_code 69 = .ok (.aload_n 0, 1) := by decide +kernel
theorem dX8_number_70 : decode prog_10_method_13_code 70 = .ok (.aload_n 0, 1) := by decide +kernel
theorem dX8_number_71 : decode prog_10_method_13_code 71 = .ok (.getfield 105, 3) := by decide +kernel
theorem dX8_number_74 : decode prog_10_method_13_code 74 = .ok (.ifCond .ne 28, 3) := by decide +kernel
theorem dX8_number_77 : decode prog_10_method_13_code 77 = .ok (.iload 4, 2) := by decide +kernel
theorem dX8_number_79 : decode prog_10_method_13_code 79 = .ok (.i2l, 1) := by decide +kernel
theorem dX8_number_80 : decode prog_10_method_13_code 80 = .ok (.lconst 1, 1) := by decide +kernel
theorem dX8_number_81 : decode prog_10_method_13_code 81 = .ok (.ldc2_w 109, 3) := by decide +kernel
theorem dX8_number_84 : decode prog_10_method_13_code 84 = .ok (.invokestatic 88, 3) := by decide +kernel
theorem dX8_number_87 : decode prog_10_method_13_code 87 = .ok (.ifCond .eq 15, 3) := by decide +kernel
theorem dX8_number_90 : decode prog_10_method_13_code 90 = .ok (.iload_n 3, 1) := by decide +kernel
theorem dX8_number_91 : decode prog_10_method_13_code 91 = .ok (.i2l, 1) := by decide +kernel
theorem dX8_number_92 : decode prog_10_method_13_code 92 = .ok (.iload_n 1, 1) := by decide +kernel
theorem dX8_number_93 : decode prog_10_method_13_code 93 = .ok (.i2l, 1) := by decide +kernel
theorem dX8_number_94 : decode prog_10_method_13_code 94 = .ok (.iload_n 2, 1) := by decide +kernel
theorem dX8_number_95 : decode prog_10_method_13_code 95 = .ok (.i2l, 1) := by decide +kernel
theorem dX8_number_96 : decode prog_10_method_13_code 96 = .ok (.invokestatic 88, 3) := by decide +kernel
theorem dX8_number_99 : decode prog_10_method_13_code 99 = .ok (.ifCond .ne 7, 3) := by decide +kernel
theorem dX8_number_102 : decode prog_10_method_13_code 102 = .ok (.iconst 1, 1) := by decide +kernel
theorem dX8_number_103 : decode prog_10_method_13_code 103 = .ok (.goto 4, 3) := by decide +kernel
theorem dX8_number_106 : decode prog_10_method_13_code 106 = .ok (.iconst 0, 1) := by decide +kernel
theorem dX8_number_107 : decode prog_10_method_13_code 107 = .ok (.putfield 105, 3) := by decide +kernel
theorem dX8_number_110 : decode prog_10_method_13_code 110 = .ok (.aload_n 0, 1) := by decide +kernel
theorem dX8_number_111 : decode prog_10_method_13_code 111 = .ok (.getfield 105, 3) := by decide +kernel
theorem dX8_number_114 : decode prog_10_method_13_code 114 = .ok (.ifCond .eq 7, 3) := by decide +kernel
theorem dX8_number_117 : decode prog_10_method_13_code 117 = .ok (.iconst 1, 1) := by decide +kernel
theorem dX8_number_118 : decode prog_10_method_13_code 118 = .ok (.goto 4, 3) := by decide +kernel
theorem dX8_number_121 : decode prog_10_method_13_code 121 = .ok (.iload_n 3, 1) := by decide +kernel
theorem dX8_number_122 : decode prog_10_method_13_code 122 = .ok (.ireturn, 1) := by decide +kernel
theorem okM_X8_number : okM mX8_number 2 := ⟨tw810, tw15, by decide, by decide, by decide +kernel⟩
abbrev KTX8_number : Type := (XW → Nat → Int32 → Int32 → Int32 → Int32 → Option (Int32 × XW))
def bX8_number_122 (k : KTX8_number) (w : XW) (s0 : Int32) : Option (Int32 × XW) :=
  some (s0, w)
theorem BX8_number_122 {K : CX} {l : Launch} {n0 k0 : Nat} {k : KTX8_number} (hk0 : ∀ (w : XW) (l0 : Nat) (l1 : Int32) (l2 : Int32) (l3 : Int32) (l4 : Int32) (q : Int32 × XW), k w l0 l1 l2 l3 l4 = some q → WP K l mX8_number 2 45 n0 k0 (some (.int q.1)) q.2 5 [some (.ref l0), some (.int l1), some (.int l2), some (.int l3), some (.int l4)] [] w) {w : XW} {s0 : Int32} {q : Int32 × XW} (h0 : bX8_number_122 k w s0 = some q) : WP K l mX8_number 2 45 n0 k0 (some (.int q.1)) q.2 122 [none, none, none, none, none] [.int s0] w := by
  unfold bX8_number_122 at h0
  cases h0
  exact wp_iret rfl dX8_number_122
def bX8_number_107 (k : KTX8_number) (w : XW) (l0 : Nat) (l3 : Int32) (s0 : Nat) (s1 : Int32) : Option (Int32 × XW) :=
  if s1 &&& 1 = s1 then
  (pV w s0 8 14 (.int s1)).bind fun w1 =>
  (gI w1 l0 8 14).bind fun x6 =>
  if x6 = 0 then
  bX8_number_122 k w1 l3
  else
  bX8_number_122 k w1 (1 : Int32)
  else none
theorem BX8_number_107 {K : CX} {l : Launch} {n0 k0 : Nat} {k : KTX8_number} (hk0 : ∀ (w : XW) (l0 : Nat) (l1 : Int32) (l2 : Int32) (l3 : Int32) (l4 : Int32) (q : Int32 × XW), k w l0 l1 l2 l3 l4 = some q → WP K l mX8_number 2 45 n0 k0 (some (.int q.1)) q.2 5 [some (.ref l0), some (.int l1), some (.int l2), some (.int l3), some (.int l4)] [] w) {w : XW} {l0 : Nat} {l3 : Int32} {s0 : Nat} {s1 : Int32} {q : Int32 × XW} (h0 : bX8_number_107 k w l0 l3 s0 s1 = some q) : WP K l mX8_number 2 45 n0 k0 (some (.int q.1)) q.2 107 [some (.ref l0), none, none, some (.int l3), none] [.int s1, .ref s0] w := by
  unfold bX8_number_107 at h0
  have c2 : s1 &&& 1 = s1 := Decidable.byContradiction fun z => by rw [if_neg z] at h0; cases h0
  rw [if_pos c2] at h0
  obtain ⟨w1, e5, h4⟩ := Option.bind_eq_some_iff.mp h0
  clear h0
  refine wp_putV okX8 (k := 14) (by decide) rfl tw719 dX8_number_107 (zb_n c2) (zb_f c2) e5 ?_
  refine wp_aload_n dX8_number_110 rfl ?_
  obtain ⟨x6, e8, h7⟩ := Option.bind_eq_some_iff.mp h4
  clear h4
  refine wp_getI okX8 (k := 14) (by decide) tw719 dX8_number_111 e8 ?_
  refine wp_if_eq (tgt := 121) dX8_number_114 (by decide) (fun c9 => ?_) (fun c9 => ?_)
  · rw [if_pos c9] at h7
    refine wp_iload_n dX8_number_121 rfl ?_
    exact WP.wk (BX8_number_122 hk0 h7) trivial
  · rw [if_neg c9] at h7
    refine wp_iconst (v := (1 : Int32)) dX8_number_117 (by decide) ?_
    refine wp_goto (tgt := 122) dX8_number_118 (by decide) ?_
    exact WP.wk (BX8_number_122 hk0 h7) trivial
def bX8_number_102 (k : KTX8_number) (w : XW) (l0 : Nat) (l3 : Int32) (s0 : Nat) : Option (Int32 × XW) :=
  bX8_number_107 k w l0 l3 s0 (1 : Int32)
theorem BX8_number_102 {K : CX} {l : Launch} {n0 k0 : Nat} {k : KTX8_number} (hk0 : ∀ (w : XW) (l0 : Nat) (l1 : Int32) (l2 : Int32) (l3 : Int32) (l4 : Int32) (q : Int32 × XW), k w l0 l1 l2 l3 l4 = some q → WP K l mX8_number 2 45 n0 k0 (some (.int q.1)) q.2 5 [some (.ref l0), some (.int l1), some (.int l2), some (.int l3), some (.int l4)] [] w) {w : XW} {l0 : Nat} {l3 : Int32} {s0 : Nat} {q : Int32 × XW} (h0 : bX8_number_102 k w l0 l3 s0 = some q) : WP K l mX8_number 2 45 n0 k0 (some (.int q.1)) q.2 102 [some (.ref l0), none, none, some (.int l3), none] [.ref s0] w := by
  unfold bX8_number_102 at h0
  refine wp_iconst (v := (1 : Int32)) dX8_number_102 (by decide) ?_
  refine wp_goto (tgt := 107) dX8_number_103 (by decide) ?_
  exact WP.wk (BX8_number_107 hk0 h0) (And.intro rfl (And.intro rfl trivial))
def bX8_number_52 (k : KTX8_number) (w : XW) (l0 : Nat) (l1 : Int32) (l2 : Int32) (l4 : Int32) (s0 : Int32) : Option (Int32 × XW) :=
  (gI w l0 8 12).bind fun x1 =>
  (pV w l0 8 12 (.int (x1 + (1 : Int32)))).bind fun w4 =>
  k w4 l0 l1 l2 s0 (l4 + (1 : Int32))
theorem BX8_number_52 {K : CX} {l : Launch} {n0 k0 : Nat} {k : KTX8_number} (hk0 : ∀ (w : XW) (l0 : Nat) (l1 : Int32) (l2 : Int32) (l3 : Int32) (l4 : Int32) (q : Int32 × XW), k w l0 l1 l2 l3 l4 = some q → WP K l mX8_number 2 45 n0 k0 (some (.int q.1)) q.2 5 [some (.ref l0), some (.int l1), some (.int l2), some (.int l3), some (.int l4)] [] w) {w : XW} {l0 : Nat} {l1 : Int32} {l2 : Int32} {l4 : Int32} {s0 : Int32} {q : Int32 × XW} (h0 : bX8_number_52 k w l0 l1 l2 l4 s0 = some q) : WP K l mX8_number 2 45 n0 k0 (some (.int q.1)) q.2 52 [some (.ref l0), some (.int l1), some (.int l2), none, some (.int l4)] [.int s0] w := by
  unfold bX8_number_52 at h0
  refine wp_istore_n (L1 := [some (.ref l0), some (.int l1), some (.int l2), some (.int s0), some (.int l4)]) dX8_number_52 (Nat.le_of_ble_eq_true rfl) rfl ?_
  refine wp_iinc (v := (l4 + (1 : Int32))) (L1 := [some (.ref l0), some (.int l1), some (.int l2), some (.int s0), some (.int (l4 + (1 : Int32)))]) dX8_number_53 (Nat.le_of_ble_eq_true rfl) rfl (congrArg (fun z => l4 + z) (by decide)) rfl ?_
  refine wp_aload_n dX8_number_56 rfl ?_
  refine wp_dup dX8_number_57 rfl ?_
  obtain ⟨x1, e3, h2⟩ := Option.bind_eq_some_iff.mp h0
  clear h0
  refine wp_getI okX8 (k := 12) (by decide) tw717 dX8_number_58 e3 ?_
  refine wp_iconst (v := (1 : Int32)) dX8_number_61 (by decide) ?_
  refine wp_iadd dX8_number_62 ?_
  obtain ⟨w4, e6, h5⟩ := Option.bind_eq_some_iff.mp h2
  clear h2
  refine wp_putV okX8 (k := 12) (by decide) rfl tw717 dX8_number_63 rfl rfl e6 ?_
  refine wp_goto (tgt := 5) dX8_number_66 (by decide) ?_
  exact WP.wk (hk0 _ _ _ _ _ _ _ h5) (And.intro rfl (And.intro rfl (And.intro rfl (And.intro rfl (And.intro rfl trivial)))))
def hX8_number_5 (k : KTX8_number) (w : XW) (l0 : Nat) (l1 : Int32) (l2 : Int32) (l3 : Int32) (l4 : Int32) : Option (Int32 × XW) :=
  (gI w l0 8 12).bind fun x1 =>
  (fX8_letterAt w l0 x1).bind fun q4 =>
  (fX8_in q4.2 (q4.1.toInt64) (48 : Int64) (57 : Int64)).bind fun q7 =>
  if q7.1 = 0 then
  (gI q7.2 l0 8 14).bind fun x11 =>
  if x11 = 0 then
  (fX8_in q7.2 (l4.toInt64) (1 : Int64) (3 : Int64)).bind fun q15 =>
  if q15.1 = 0 then
  bX8_number_102 k q15.2 l0 l3 l0
  else
  (fX8_in q15.2 (l3.toInt64) (l1.toInt64) (l2.toInt64)).bind fun q19 =>
  if q19.1 = 0 then
  bX8_number_102 k q19.2 l0 l3 l0
  else
  bX8_number_107 k q19.2 l0 l3 l0 (0 : Int32)
  else
  bX8_number_102 k q7.2 l0 l3 l0
  else
  if (3 : Int32) ≤ l4 then
  bX8_number_52 k q7.2 l0 l1 l2 l4 l3
  else
  (gI q7.2 l0 8 12).bind fun x24 =>
  (fX8_letterAt q7.2 l0 x24).bind fun q27 =>
  bX8_number_52 k q27.2 l0 l1 l2 l4 ((((10 : Int32) * l3) + q27.1) - (48 : Int32))
theorem HX8_number_5 {K : CX} {l : Launch} {n0 k0 : Nat} {k : KTX8_number} (hk0 : ∀ (w : XW) (l0 : Nat) (l1 : Int32) (l2 : Int32) (l3 : Int32) (l4 : Int32) (q : Int32 × XW), k w l0 l1 l2 l3 l4 = some q → WP K l mX8_number 2 45 n0 k0 (some (.int q.1)) q.2 5 [some (.ref l0), some (.int l1), some (.int l2), some (.int l3), some (.int l4)] [] w) {w : XW} {l0 : Nat} {l1 : Int32} {l2 : Int32} {l3 : Int32} {l4 : Int32} {q : Int32 × XW} (h0 : hX8_number_5 k w l0 l1 l2 l3 l4 = some q) : WP K l mX8_number 2 45 n0 k0 (some (.int q.1)) q.2 5 [some (.ref l0), some (.int l1), some (.int l2), some (.int l3), some (.int l4)] [] w := by
  unfold hX8_number_5 at h0
  refine wp_aload_n dX8_number_5 rfl ?_
  refine wp_aload_n dX8_number_6 rfl ?_
  obtain ⟨x1, e3, h2⟩ := Option.bind_eq_some_iff.mp h0
  clear h0
  refine wp_getI okX8 (k := 12) (by decide) tw717 dX8_number_7 e3 ?_
  obtain ⟨q4, e6, h5⟩ := Option.bind_eq_some_iff.mp h2
  clear h2
  refine wp_Vi (As := [.int x1]) (S := []) okM_X8_letterAt tw801 twP_X8_letterAt tw799 (OX8_letterAt e6) rfl rfl rfl ⟨(Nat.le_of_ble_eq_true rfl), (Nat.le_of_ble_eq_true rfl)⟩ (Nat.le_of_ble_eq_true rfl) rfl dX8_number_10 (MX8_letterAt e6) ?_
  refine wp_i2l dX8_number_13 ?_
  refine wp_ldc2 tw811 dX8_number_14 ?_
  refine wp_ldc2 tw812 dX8_number_17 ?_
  obtain ⟨q7, e9, h8⟩ := Option.bind_eq_some_iff.mp h5
  clear h5
  refine wp_Si (As := [.long (q4.1.toInt64), .long (48 : Int64), .long (57 : Int64)]) (S := []) okM_X8_in tw785 tw784 rfl ⟨(Nat.le_of_ble_eq_true rfl), (Nat.le_of_ble_eq_true rfl)⟩ (Nat.le_of_ble_eq_true rfl) rfl dX8_number_20 (MX8_in e9) ?_
  refine wp_if_eq (tgt := 69) dX8_number_23 (by decide) (fun c10 => ?_) (fun c10 => ?_)
  · rw [if_pos c10] at h8
    refine wp_aload_n dX8_number_69 rfl ?_
    refine wp_aload_n dX8_number_70 rfl ?_
    obtain ⟨x11, e13, h12⟩ := Option.bind_eq_some_iff.mp h8
    clear h8
    refine wp_getI okX8 (k := 14) (by decide) tw719 dX8_number_71 e13 ?_
    refine wp_if_ne (tgt := 102) dX8_number_74 (by decide) (fun c14 => ?_) (fun c14 => ?_)
    · rw [if_neg c14] at h12
      exact WP.wk (BX8_number_102 hk0 h12) (And.intro rfl (And.intro rfl trivial))
    · rw [if_pos c14] at h12
      refine wp_iload dX8_number_77 rfl ?_
      refine wp_i2l dX8_number_79 ?_
      refine wp_lconst (v := (1 : Int64)) dX8_number_80 (by decide) ?_
      refine wp_ldc2 tw813 dX8_number_81 ?_
      obtain ⟨q15, e17, h16⟩ := Option.bind_eq_some_iff.mp h12
      clear h12
      refine wp_Si (As := [.long (l4.toInt64), .long (1 : Int64), .long (3 : Int64)]) (S := [.ref l0]) okM_X8_in tw785 tw784 rfl ⟨(Nat.le_of_ble_eq_true rfl), (Nat.le_of_ble_eq_true rfl)⟩ (Nat.le_of_ble_eq_true rfl) rfl dX8_number_84 (MX8_in e17) ?_
      refine wp_if_eq (tgt := 102) dX8_number_87 (by decide) (fun c18 => ?_) (fun c18 => ?_)
      · rw [if_pos c18] at h16
        exact WP.wk (BX8_number_102 hk0 h16) (And.intro rfl (And.intro rfl trivial))
      · rw [if_neg c18] at h16
        refine wp_iload_n dX8_number_90 rfl ?_
        refine wp_i2l dX8_number_91 ?_
        refine wp_iload_n dX8_number_92 rfl ?_
        refine wp_i2l dX8_number_93 ?_
        refine wp_iload_n dX8_number_94 rfl ?_
        refine wp_i2l dX8_number_95 ?_
        obtain ⟨q19, e21, h20⟩ := Option.bind_eq_some_iff.mp h16
        clear h16
        refine wp_Si (As := [.long (l3.toInt64), .long (l1.toInt64), .long (l2.toInt64)]) (S := [.ref l0]) okM_X8_in tw785 tw784 rfl ⟨(Nat.le_of_ble_eq_true rfl), (Nat.le_of_ble_eq_true rfl)⟩ (Nat.le_of_ble_eq_true rfl) rfl dX8_number_96 (MX8_in e21) ?_
        refine wp_if_ne (tgt := 106) dX8_number_99 (by decide) (fun c22 => ?_) (fun c22 => ?_)
        · rw [if_neg c22] at h20
          refine wp_iconst (v := (0 : Int32)) dX8_number_106 (by decide) ?_
          exact WP.wk (BX8_number_107 hk0 h20) (And.intro rfl (And.intro rfl trivial))
        · rw [if_pos c22] at h20
          exact WP.wk (BX8_number_102 hk0 h20) (And.intro rfl (And.intro rfl trivial))
  · rw [if_neg c10] at h8
    refine wp_iload dX8_number_26 rfl ?_
    refine wp_iconst (v := (3 : Int32)) dX8_number_28 (by decide) ?_
    refine wp_icmp_ge (tgt := 51) dX8_number_29 (by decide) (fun c23 => ?_) (fun c23 => ?_)
    · rw [if_pos c23] at h8
      refine wp_iload_n dX8_number_51 rfl ?_
      exact WP.wk (BX8_number_52 hk0 h8) (And.intro rfl (And.intro rfl (And.intro rfl (And.intro rfl trivial))))
    · rw [if_neg c23] at h8
      refine wp_bipush (v := (10 : Int32)) dX8_number_32 (by decide) ?_
      refine wp_iload_n dX8_number_34 rfl ?_
      refine wp_imul dX8_number_35 ?_
      refine wp_aload_n dX8_number_36 rfl ?_
      refine wp_aload_n dX8_number_37 rfl ?_
      obtain ⟨x24, e26, h25⟩ := Option.bind_eq_some_iff.mp h8
      clear h8
      refine wp_getI okX8 (k := 12) (by decide) tw717 dX8_number_38 e26 ?_
      obtain ⟨q27, e29, h28⟩ := Option.bind_eq_some_iff.mp h25
      clear h25
      refine wp_Vi (As := [.int x24]) (S := [.int ((10 : Int32) * l3)]) okM_X8_letterAt tw801 twP_X8_letterAt tw799 (OX8_letterAt e29) rfl rfl rfl ⟨(Nat.le_of_ble_eq_true rfl), (Nat.le_of_ble_eq_true rfl)⟩ (Nat.le_of_ble_eq_true rfl) rfl dX8_number_41 (MX8_letterAt e29) ?_
      refine wp_iadd dX8_number_44 ?_
      refine wp_bipush (v := (48 : Int32)) dX8_number_45 (by decide) ?_
      refine wp_isub dX8_number_47 ?_
      refine wp_goto (tgt := 52) dX8_number_48 (by decide) ?_
      exact WP.wk (BX8_number_52 hk0 h28) (And.intro rfl (And.intro rfl (And.intro rfl (And.intro rfl trivial))))
def eX8_number (k : KTX8_number) (w : XW) (l0 : Nat) (l1 : Int32) (l2 : Int32) : Option (Int32 × XW) :=
  k w l0 l1 l2 (0 : Int32) (0 : Int32)
theorem EX8_number {K : CX} {l : Launch} {n0 k0 : Nat} {k : KTX8_number} (hk0 : ∀ (w : XW) (l0 : Nat) (l1 : Int32) (l2 : Int32) (l3 : Int32) (l4 : Int32) (q : Int32 × XW), k w l0 l1 l2 l3 l4 = some q → WP K l mX8_number 2 45 n0 k0 (some (.int q.1)) q.2 5 [some (.ref l0), some (.int l1), some (.int l2), some (.int l3), some (.int l4)] [] w) {w : XW} {l0 : Nat} {l1 : Int32} {l2 : Int32} {q : Int32 × XW} (h0 : eX8_number k w l0 l1 l2 = some q) : WP K l mX8_number 2 45 n0 k0 (some (.int q.1)) q.2 0 [some (.ref l0), some (.int l1), some (.int l2), none, none] [] w := by
  unfold eX8_number at h0
  refine wp_iconst (v := (0 : Int32)) dX8_number_0 (by decide) ?_
  refine wp_istore_n (L1 := [some (.ref l0), some (.int l1), some (.int l2), some (.int (0 : Int32)), none]) dX8_number_1 (Nat.le_of_ble_eq_true rfl) rfl ?_
  refine wp_iconst (v := (0 : Int32)) dX8_number_2 (by decide) ?_
  refine wp_istore (L1 := [some (.ref l0), some (.int l1), some (.int l2), some (.int (0 : Int32)), some (.int (0 : Int32))]) dX8_number_3 (Nat.le_of_ble_eq_true rfl) rfl ?_
  exact WP.wk (hk0 _ _ _ _ _ _ _ h0) (And.intro rfl (And.intro rfl (And.intro rfl (And.intro rfl (And.intro rfl trivial)))))
def loX8_number : Nat → KTX8_number
  | 0 => fun _ _ _ _ _ _ => none
  | n + 1 => hX8_number_5 (loX8_number n)
theorem LOX8_number {K : CX} {l : Launch} {n0 k0 : Nat} : ∀ n : Nat, (∀ (w : XW) (l0 : Nat) (l1 : Int32) (l2 : Int32) (l3 : Int32) (l4 : Int32) (q : Int32 × XW), (loX8_number n) w l0 l1 l2 l3 l4 = some q → WP K l mX8_number 2 45 n0 k0 (some (.int q.1)) q.2 5 [some (.ref l0), some (.int l1), some (.int l2), some (.int l3), some (.int l4)] [] w) := by
  intro n
  induction n with
  | zero => exact fun _ _ _ _ _ _ q h => (by cases h)
  | succ n ih => exact fun _ _ _ _ _ _ q h => HX8_number_5 ih h
def fX8_number (w : XW) (l0 : Nat) (l1 : Int32) (l2 : Int32) : Option (Int32 × XW) := if isO w l0 8 = true then eX8_number (loX8_number FU) w l0 l1 l2 else none
theorem OX8_number {w : XW} {l0 : Nat} {l1 : Int32} {l2 : Int32} {q : Int32 × XW} (h : fX8_number w l0 l1 l2 = some q) : isO w l0 8 = true := Decidable.byContradiction fun z => by unfold fX8_number at h; rw [if_neg z] at h; cases h
theorem MX8_number {K : CX} {l : Launch} {w : XW} {l0 : Nat} {l1 : Int32} {l2 : Int32} {q : Int32 × XW} (h : fX8_number w l0 l1 l2 = some q) : MT K l mX8_number 2 45 [.ref l0, .int l1, .int l2] w (some (.int q.1)) q.2 := by
  have z := OX8_number h
  unfold fX8_number at h
  rw [if_pos z] at h
  exact MT.of (by decide) (Nat.le_of_ble_eq_true rfl) rfl (EX8_number (LOX8_number FU) h)
/-! FractionRunModel.isOfPrimes(I)Z: frames 3, words 63 -/
abbrev mX8_isOfPrimes : MR := (⟨"FractionRunModel", "isOfPrimes", "(I)Z"⟩, prog_10_method_7_code, 4, (some .boolean))
theorem dX8_isOfPrimes_0 : decode prog_10_method_7_code 0 = .ok (.iload_n 0, 1) := by decide +kernel
theorem dX8_isOfPrimes_1 : decode prog_10_method_7_code 1 = .ok (.istore_n 1, 1) := by decide +kernel
theorem dX8_isOfPrimes_2 : decode prog_10_method_7_code 2 = .ok (.iconst 0, 1) := by decide +kernel
theorem dX8_isOfPrimes_3 : decode prog_10_method_7_code 3 = .ok (.istore_n 2, 1) := by decide +kernel
theorem dX8_isOfPrimes_4 : decode prog_10_method_7_code 4 = .ok (.iload_n 2, 1) := by decide +kernel
theorem dX8_isOfPrimes_5 : decode prog_10_method_7_code 5 = .ok (.bipush 6, 2) := by decide +kernel
theorem dX8_isOfPrimes_7 : decode prog_10_method_7_code 7 = .ok (.if_icmp .ge 32, 3) := by decide +kernel
theorem dX8_isOfPrimes_10 : decode prog_10_method_7_code 10 = .ok (.iload_n 1, 1) := by decide +kernel
theorem dX8_isOfPrimes_11 : decode prog_10_method_7_code 11 = .ok (.iload_n 2, 1) := by decide +kernel
theorem dX8_isOfPrimes_12 : decode prog_10_method_7_code 12 = .ok (.invokestatic 68, 3) := by decide +kernel
theorem dX8_isOfPrimes_15 : decode prog_10_method_7_code 15 = .ok (.istore_n 3, 1) := by decide +kernel
theorem dX8_isOfPrimes_16 : decode prog_10_method_7_code 16 = .ok (.iload_n 3, 1) := by decide +kernel
theorem dX8_isOfPrimes_17 : decode prog_10_method_7_code 17 = .ok (.ifCond .le 16, 3) := by decide +kernel
theorem dX8_isOfPrimes_20 : decode prog_10_method_7_code 20 = .ok (.iload_n 1, 1) := by decide +kernel
theorem dX8_isOfPrimes_21 : decode prog_10_method_7_code 21 = .ok (.iload_n 2, 1) := by decide +kernel
theorem dX8_isOfPrimes_22 : decode prog_10_method_7_code 22 = .ok (.invokestatic 64, 3) := by decide +kernel
theorem dX8_isOfPrimes_25 : decode prog_10_method_7_code 25 = .ok (.idiv, 1) := by decide +kernel
theorem dX8_isOfPrimes_26 : decode prog_10_method_7_code 26 = .ok (.istore_n 1, 1) := by decide +kernel
theorem dX8_isOfPrimes_27 : decode prog_10_method_7_code 27 = .ok (.iinc 3 (-1), 3) := by decide +kernel
theorem dX8_isOfPrimes_30 : decode prog_10_method_7_code 30 = .ok (.goto (-14), 3) := by decide +kernel
theorem dX8_isOfPrimes_33 : decode prog_10_method_7_code 33 = .ok (.iinc 2 1, 3) := by decide +kernel
theorem dX8_isOfPrimes_36 : decode prog_10_method_7_code 36 = .ok (.goto (-32), 3) := by decide +kernel
theorem dX8_isOfPrimes_39 : decode prog_10_method_7_code 39 = .ok (.iload_n 1, 1) := by decide +kernel
theorem dX8_isOfPrimes_40 : decode prog_10_method_7_code 40 = .ok (.iconst 1, 1) := by decide +kernel
theorem dX8_isOfPrimes_41 : decode prog_10_method_7_code 41 = .ok (.if_icmp .ne 7, 3) := by decide +kernel
theorem dX8_isOfPrimes_44 : decode prog_10_method_7_code 44 = .ok (.iconst 1, 1) := by decide +kernel
theorem dX8_isOfPrimes_45 : decode prog_10_method_7_code 45 = .ok (.goto 4, 3) := by decide +kernel
theorem dX8_isOfPrimes_48 : decode prog_10_method_7_code 48 = .ok (.iconst 0, 1) := by decide +kernel
theorem dX8_isOfPrimes_49 : decode prog_10_method_7_code 49 = .ok (.ireturn, 1) := by decide +kernel
theorem okM_X8_isOfPrimes : okM mX8_isOfPrimes 1 := ⟨tw820, tw15, by decide, by decide, by decide +kernel⟩
abbrev KTX8_isOfPrimes : Type := (XW → Int32 → Int32 → Option (Int32 × XW)) × (XW → Int32 → Int32 → Int32 → Option (Int32 × XW))
def bX8_isOfPrimes_49 (k : KTX8_isOfPrimes) (w : XW) (s0 : Int32) : Option (Int32 × XW) :=
  if s0 &&& 1 = s0 then some (s0, w) else none
theorem BX8_isOfPrimes_49 {K : CX} {l : Launch} {n0 k0 : Nat} {k : KTX8_isOfPrimes} (hk0 : ∀ (w : XW) (l1 : Int32) (l2 : Int32) (q : Int32 × XW), k.1 w l1 l2 = some q → WP K l mX8_isOfPrimes 3 63 n0 k0 (some (.int q.1)) q.2 4 [none, some (.int l1), some (.int l2), none] [] w) (hk1 : ∀ (w : XW) (l1 : Int32) (l2 : Int32) (l3 : Int32) (q : Int32 × XW), k.2 w l1 l2 l3 = some q → WP K l mX8_isOfPrimes 3 63 n0 k0 (some (.int q.1)) q.2 16 [none, some (.int l1), some (.int l2), some (.int l3)] [] w) {w : XW} {s0 : Int32} {q : Int32 × XW} (h0 : bX8_isOfPrimes_49 k w s0 = some q) : WP K l mX8_isOfPrimes 3 63 n0 k0 (some (.int q.1)) q.2 49 [none, none, none, none] [.int s0] w := by
  unfold bX8_isOfPrimes_49 at h0
  have c1 : s0 &&& 1 = s0 := Decidable.byContradiction fun z => by rw [if_neg z] at h0; cases h0
  rw [if_pos c1] at h0
  cases h0
  exact wp_zret rfl (zb_n c1) dX8_isOfPrimes_49
def hX8_isOfPrimes_16 (k : KTX8_isOfPrimes) (w : XW) (l1 : Int32) (l2 : Int32) (l3 : Int32) : Option (Int32 × XW) :=
  if l3 ≤ 0 then
  k.1 w l1 (l2 + (1 : Int32))
  else
  (fX8_prime w l2).bind fun q2 =>
  if q2.1 = 0 then none else
  k.2 q2.2 (l1 / q2.1) l2 (l3 + (-1 : Int32))
theorem HX8_isOfPrimes_16 {K : CX} {l : Launch} {n0 k0 : Nat} {k : KTX8_isOfPrimes} (hk0 : ∀ (w : XW) (l1 : Int32) (l2 : Int32) (q : Int32 × XW), k.1 w l1 l2 = some q → WP K l mX8_isOfPrimes 3 63 n0 k0 (some (.int q.1)) q.2 4 [none, some (.int l1), some (.int l2), none] [] w) (hk1 : ∀ (w : XW) (l1 : Int32) (l2 : Int32) (l3 : Int32) (q : Int32 × XW), k.2 w l1 l2 l3 = some q → WP K l mX8_isOfPrimes 3 63 n0 k0 (some (.int q.1)) q.2 16 [none, some (.int l1), some (.int l2), some (.int l3)] [] w) {w : XW} {l1 : Int32} {l2 : Int32} {l3 : Int32} {q : Int32 × XW} (h0 : hX8_isOfPrimes_16 k w l1 l2 l3 = some q) : WP K l mX8_isOfPrimes 3 63 n0 k0 (some (.int q.1)) q.2 16 [none, some (.int l1), some (.int l2), some (.int l3)] [] w := by
  unfold hX8_isOfPrimes_16 at h0
  refine wp_iload_n dX8_isOfPrimes_16 rfl ?_
  refine wp_if_le (tgt := 33) dX8_isOfPrimes_17 (by decide) (fun c1 => ?_) (fun c1 => ?_)
  · rw [if_pos c1] at h0
    refine wp_iinc (v := (l2 + (1 : Int32))) (L1 := [none, some (.int l1), some (.int (l2 + (1 : Int32))), some (.int l3)]) dX8_isOfPrimes_33 (Nat.le_of_ble_eq_true rfl) rfl (congrArg (fun z => l2 + z) (by decide)) rfl ?_
    refine wp_goto (tgt := 4) dX8_isOfPrimes_36 (by decide) ?_
    exact WP.wk (hk0 _ _ _ _ h0) (And.intro rfl (And.intro rfl trivial))
  · rw [if_neg c1] at h0
    refine wp_iload_n dX8_isOfPrimes_20 rfl ?_
    refine wp_iload_n dX8_isOfPrimes_21 rfl ?_
    obtain ⟨q2, e4, h3⟩ := Option.bind_eq_some_iff.mp h0
    clear h0
    refine wp_Si (As := [.int l2]) (S := [.int l1]) okM_X8_prime tw699 tw698 rfl ⟨(Nat.le_of_ble_eq_true rfl), (Nat.le_of_ble_eq_true rfl)⟩ (Nat.le_of_ble_eq_true rfl) rfl dX8_isOfPrimes_22 (MX8_prime e4) ?_
    have c5 : ¬ q2.1 = 0 := by intro z; rw [if_pos z] at h3; cases h3
    rw [if_neg c5] at h3
    have h6 := h3; clear h3
    refine wp_idiv dX8_isOfPrimes_25 c5 ?_
    refine wp_istore_n (L1 := [none, some (.int (l1 / q2.1)), some (.int l2), some (.int l3)]) dX8_isOfPrimes_26 (Nat.le_of_ble_eq_true rfl) rfl ?_
    refine wp_iinc (v := (l3 + (-1 : Int32))) (L1 := [none, some (.int (l1 / q2.1)), some (.int l2), some (.int (l3 + (-1 : Int32)))]) dX8_isOfPrimes_27 (Nat.le_of_ble_eq_true rfl) rfl (congrArg (fun z => l3 + z) (by decide)) rfl ?_
    refine wp_goto (tgt := 16) dX8_isOfPrimes_30 (by decide) ?_
    exact WP.wk (hk1 _ _ _ _ _ h6) (And.intro rfl (And.intro rfl (And.intro rfl trivial)))
def hX8_isOfPrimes_4 (k : KTX8_isOfPrimes) (w : XW) (l1 : Int32) (l2 : Int32) : Option (Int32 × XW) :=
  if (6 : Int32) ≤ l2 then
  if l1 = (1 : Int32) then
  bX8_isOfPrimes_49 k w (1 : Int32)
  else
  bX8_isOfPrimes_49 k w (0 : Int32)
  else
  (fX8_powerIn w l1 l2).bind fun q3 =>
  k.2 q3.2 l1 l2 q3.1
theorem HX8_isOfPrimes_4 {K : CX} {l : Launch} {n0 k0 : Nat} {k : KTX8_isOfPrimes} (hk0 : ∀ (w : XW) (l1 : Int32) (l2 : Int32) (q : Int32 × XW), k.1 w l1 l2 = some q → WP K l mX8_isOfPrimes 3 63 n0 k0 (some (.int q.1)) q.2 4 [none, some (.int l1), some (.int l2), none] [] w) (hk1 : ∀ (w : XW) (l1 : Int32) (l2 : Int32) (l3 : Int32) (q : Int32 × XW), k.2 w l1 l2 l3 = some q → WP K l mX8_isOfPrimes 3 63 n0 k0 (some (.int q.1)) q.2 16 [none, some (.int l1), some (.int l2), some (.int l3)] [] w) {w : XW} {l1 : Int32} {l2 : Int32} {q : Int32 × XW} (h0 : hX8_isOfPrimes_4 k w l1 l2 = some q) : WP K l mX8_isOfPrimes 3 63 n0 k0 (some (.int q.1)) q.2 4 [none, some (.int l1), some (.int l2), none] [] w := by
  unfold hX8_isOfPrimes_4 at h0
  refine wp_iload_n dX8_isOfPrimes_4 rfl ?_
  refine wp_bipush (v := (6 : Int32)) dX8_isOfPrimes_5 (by decide) ?_
  refine wp_icmp_ge (tgt := 39) dX8_isOfPrimes_7 (by decide) (fun c1 => ?_) (fun c1 => ?_)
  · rw [if_pos c1] at h0
    refine wp_iload_n dX8_isOfPrimes_39 rfl ?_
    refine wp_iconst (v := (1 : Int32)) dX8_isOfPrimes_40 (by decide) ?_
    refine wp_icmp_ne (tgt := 48) dX8_isOfPrimes_41 (by decide) (fun c2 => ?_) (fun c2 => ?_)
    · rw [if_neg c2] at h0
      refine wp_iconst (v := (0 : Int32)) dX8_isOfPrimes_48 (by decide) ?_
      exact WP.wk (BX8_isOfPrimes_49 hk0 hk1 h0) trivial
    · rw [if_pos c2] at h0
      refine wp_iconst (v := (1 : Int32)) dX8_isOfPrimes_44 (by decide) ?_
      refine wp_goto (tgt := 49) dX8_isOfPrimes_45 (by decide) ?_
      exact WP.wk (BX8_isOfPrimes_49 hk0 hk1 h0) trivial
  · rw [if_neg c1] at h0
    refine wp_iload_n dX8_isOfPrimes_10 rfl ?_
    refine wp_iload_n dX8_isOfPrimes_11 rfl ?_
    obtain ⟨q3, e5, h4⟩ := Option.bind_eq_some_iff.mp h0
    clear h0
    refine wp_Si (As := [.int l1, .int l2]) (S := []) okM_X8_powerIn tw696 tw695 rfl ⟨(Nat.le_of_ble_eq_true rfl), (Nat.le_of_ble_eq_true rfl)⟩ (Nat.le_of_ble_eq_true rfl) rfl dX8_isOfPrimes_12 (MX8_powerIn e5) ?_
    refine wp_istore_n (L1 := [none, some (.int l1), some (.int l2), some (.int q3.1)]) dX8_isOfPrimes_15 (Nat.le_of_ble_eq_true rfl) rfl ?_
    exact WP.wk (hk1 _ _ _ _ _ h4) (And.intro rfl (And.intro rfl (And.intro rfl trivial)))
def eX8_isOfPrimes (k : KTX8_isOfPrimes) (w : XW) (l0 : Int32) : Option (Int32 × XW) :=
  k.1 w l0 (0 : Int32)
theorem EX8_isOfPrimes {K : CX} {l : Launch} {n0 k0 : Nat} {k : KTX8_isOfPrimes} (hk0 : ∀ (w : XW) (l1 : Int32) (l2 : Int32) (q : Int32 × XW), k.1 w l1 l2 = some q → WP K l mX8_isOfPrimes 3 63 n0 k0 (some (.int q.1)) q.2 4 [none, some (.int l1), some (.int l2), none] [] w) (hk1 : ∀ (w : XW) (l1 : Int32) (l2 : Int32) (l3 : Int32) (q : Int32 × XW), k.2 w l1 l2 l3 = some q → WP K l mX8_isOfPrimes 3 63 n0 k0 (some (.int q.1)) q.2 16 [none, some (.int l1), some (.int l2), some (.int l3)] [] w) {w : XW} {l0 : Int32} {q : Int32 × XW} (h0 : eX8_isOfPrimes k w l0 = some q) : WP K l mX8_isOfPrimes 3 63 n0 k0 (some (.int q.1)) q.2 0 [some (.int l0), none, none, none] [] w := by
  unfold eX8_isOfPrimes at h0
  refine wp_iload_n dX8_isOfPrimes_0 rfl ?_
  refine wp_istore_n (L1 := [some (.int l0), some (.int l0), none, none]) dX8_isOfPrimes_1 (Nat.le_of_ble_eq_true rfl) rfl ?_
  refine wp_iconst (v := (0 : Int32)) dX8_isOfPrimes_2 (by decide) ?_
  refine wp_istore_n (L1 := [some (.int l0), some (.int l0), some (.int (0 : Int32)), none]) dX8_isOfPrimes_3 (Nat.le_of_ble_eq_true rfl) rfl ?_
  exact WP.wk (hk0 _ _ _ _ h0) (And.intro rfl (And.intro rfl trivial))
def loX8_isOfPrimes : Nat → KTX8_isOfPrimes
  | 0 => (fun _ _ _ => none, fun _ _ _ _ => none)
  | n + 1 => (hX8_isOfPrimes_4 (loX8_isOfPrimes n), hX8_isOfPrimes_16 (loX8_isOfPrimes n))
theorem LOX8_isOfPrimes {K : CX} {l : Launch} {n0 k0 : Nat} : ∀ n : Nat, (∀ (w : XW) (l1 : Int32) (l2 : Int32) (q : Int32 × XW), (loX8_isOfPrimes n).1 w l1 l2 = some q → WP K l mX8_isOfPrimes 3 63 n0 k0 (some (.int q.1)) q.2 4 [none, some (.int l1), some (.int l2), none] [] w) ∧ (∀ (w : XW) (l1 : Int32) (l2 : Int32) (l3 : Int32) (q : Int32 × XW), (loX8_isOfPrimes n).2 w l1 l2 l3 = some q → WP K l mX8_isOfPrimes 3 63 n0 k0 (some (.int q.1)) q.2 16 [none, some (.int l1), some (.int l2), some (.int l3)] [] w) := by
  intro n
  induction n with
  | zero => exact ⟨fun _ _ _ q h => (by cases h), fun _ _ _ _ q h => (by cases h)⟩
  | succ n ih => exact ⟨fun _ _ _ q h => HX8_isOfPrimes_4 ih.1 ih.2 h, fun _ _ _ _ q h => HX8_isOfPrimes_16 ih.1 ih.2 h⟩
def fX8_isOfPrimes (w : XW) (l0 : Int32) : Option (Int32 × XW) := eX8_isOfPrimes (loX8_isOfPrimes FU) w l0
theorem MX8_isOfPrimes {K : CX} {l : Launch} {w : XW} {l0 : Int32} {q : Int32 × XW} (h : fX8_isOfPrimes w l0 = some q) : MT K l mX8_isOfPrimes 3 63 [.int l0] w (some (.int q.1)) q.2 := by
  unfold fX8_isOfPrimes at h
  exact MT.of (by decide) (Nat.le_of_ble_eq_true rfl) rfl (EX8_isOfPrimes (LOX8_isOfPrimes FU).1 (LOX8_isOfPrimes FU).2 h)
/-! FractionRunModel.start()V: frames 4, words 86 -/
abbrev mX8_start : MR := (⟨"FractionRunModel", "start", "()V"⟩, prog_10_method_16_code, 3, none)
theorem dX8_start_0 : decode prog_10_method_16_code 0 = .ok (.aload_n 0, 1) := by decide +kernel
theorem dX8_start_1 : decode prog_10_method_16_code 1 = .ok (.iconst 1, 1) := by decide +kernel
theorem dX8_start_2 : decode prog_10_method_16_code 2 = .ok (.sipush 999, 3) := by decide +kernel
theorem dX8_start_5 : decode prog_10_method_16_code 5 = .ok (.invokevirtual 111, 3) := by decide +kernel
theorem dX8_start_8 : decode prog_10_method_16_code 8 = .ok (.istore_n 1, 1) := by decide +kernel
theorem dX8_start_9 : decode prog_10_method_16_code 9 = .ok (.aload_n 0, 1) := by decide +kernel
theorem dX8_start_10 : decode prog_10_method_16_code 10 = .ok (.aload_n 0, 1) := by decide +kernel
theorem dX8_start_11 : decode prog_10_method_16_code 11 = .ok (.getfield 105, 3) := by decide +kernel
theorem dX8_start_14 : decode prog_10_method_16_code 14 = .ok (.ifCond .ne 10, 3) := by decide +kernel
theorem dX8_start_17 : decode prog_10_method_16_code 17 = .ok (.iload_n 1, 1) := by decide +kernel
theorem dX8_start_18 : decode prog_10_method_16_code 18 = .ok (.invokestatic 117, 3) := by decide +kernel
theorem dX8_start_21 : decode prog_10_method_16_code 21 = .ok (.ifCond .ne 7, 3) := by decide +kernel
theorem dX8_start_24 : decode prog_10_method_16_code 24 = .ok (.iconst 1, 1) := by decide +kernel
theorem dX8_start_25 : decode prog_10_method_16_code 25 = .ok (.goto 4, 3) := by decide +kernel
theorem dX8_start_28 : decode prog_10_method_16_code 28 = .ok (.iconst 0, 1) := by decide +kernel
theorem dX8_start_29 : decode prog_10_method_16_code 29 = .ok (.putfield 105, 3) := by decide +kernel
theorem dX8_start_32 : decode prog_10_method_16_code 32 = .ok (.iconst 0, 1) := by decide +kernel
theorem dX8_start_33 : decode prog_10_method_16_code 33 = .ok (.istore_n 2, 1) := by decide +kernel
theorem dX8_start_34 : decode prog_10_method_16_code 34 = .ok (.iload_n 2, 1) := by decide +kernel
theorem dX8_start_35 : decode prog_10_method_16_code 35 = .ok (.bipush 6, 2) := by decide +kernel
theorem dX8_start_37 : decode prog_10_method_16_code 37 = .ok (.if_icmp .ge 27, 3) := by decide +kernel
theorem dX8_start_40 : decode prog_10_method_16_code 40 = .ok (.aload_n 0, 1) := by decide +kernel
theorem dX8_start_41 : decode prog_10_method_16_code 41 = .ok (.getfield 105, 3) := by decide +kernel
theorem dX8_start_44 : decode prog_10_method_16_code 44 = .ok (.ifCond .ne 20, 3) := by decide +kernel
theorem dX8_start_47 : decode prog_10_method_16_code 47 = .ok (.aload_n 0, 1) := by decide +kernel
theorem dX8_start_48 : decode prog_10_method_16_code 48 = .ok (.getfield 22, 3) := by decide +kernel
theorem dX8_start_51 : decode prog_10_method_16_code 51 = .ok (.iload_n 2, 1) := by decide +kernel
theorem dX8_start_52 : decode prog_10_method_16_code 52 = .ok (.iload_n 1, 1) := by decide +kernel
theorem dX8_start_53 : decode prog_10_method_16_code 53 = .ok (.iload_n 2, 1) := by decide +kernel
theorem dX8_start_54 : decode prog_10_method_16_code 54 = .ok (.invokestatic 68, 3) := by decide +kernel
theorem dX8_start_57 : decode prog_10_method_16_code 57 = .ok (.iastore, 1) := by decide +kernel
theorem dX8_start_58 : decode prog_10_method_16_code 58 = .ok (.iinc 2 1, 3) := by decide +kernel
theorem dX8_start_61 : decode prog_10_method_16_code 61 = .ok (.goto (-27), 3) := by decide +kernel
theorem dX8_start_64 : decode prog_10_method_16_code 64 = .ok (.return_, 1) := by decide +kernel
theorem okM_X8_start : okM mX8_start 0 := ⟨tw824, tw15, by decide, by decide, by decide +kernel⟩
abbrev KTX8_start : Type := (XW → Nat → Int32 → Int32 → Option XW)
def bX8_start_64 (k : KTX8_start) (w : XW) : Option XW :=
  some w
theorem BX8_start_64 {K : CX} {l : Launch} {n0 k0 : Nat} {k : KTX8_start} (hk0 : ∀ (w : XW) (l0 : Nat) (l1 : Int32) (l2 : Int32) (q : XW), k w l0 l1 l2 = some q → WP K l mX8_start 4 86 n0 k0 none q 34 [some (.ref l0), some (.int l1), some (.int l2)] [] w) {w : XW} {q : XW} (h0 : bX8_start_64 k w = some q) : WP K l mX8_start 4 86 n0 k0 none q 64 [none, none, none] [] w := by
  unfold bX8_start_64 at h0
  cases h0
  exact wp_vret rfl dX8_start_64
def bX8_start_29 (k : KTX8_start) (w : XW) (l0 : Nat) (l1 : Int32) (s0 : Nat) (s1 : Int32) : Option XW :=
  if s1 &&& 1 = s1 then
  (pV w s0 8 14 (.int s1)).bind fun w1 =>
  k w1 l0 l1 (0 : Int32)
  else none
theorem BX8_start_29 {K : CX} {l : Launch} {n0 k0 : Nat} {k : KTX8_start} (hk0 : ∀ (w : XW) (l0 : Nat) (l1 : Int32) (l2 : Int32) (q : XW), k w l0 l1 l2 = some q → WP K l mX8_start 4 86 n0 k0 none q 34 [some (.ref l0), some (.int l1), some (.int l2)] [] w) {w : XW} {l0 : Nat} {l1 : Int32} {s0 : Nat} {s1 : Int32} {q : XW} (h0 : bX8_start_29 k w l0 l1 s0 s1 = some q) : WP K l mX8_start 4 86 n0 k0 none q 29 [some (.ref l0), some (.int l1), none] [.int s1, .ref s0] w := by
  unfold bX8_start_29 at h0
  have c2 : s1 &&& 1 = s1 := Decidable.byContradiction fun z => by rw [if_neg z] at h0; cases h0
  rw [if_pos c2] at h0
  obtain ⟨w1, e5, h4⟩ := Option.bind_eq_some_iff.mp h0
  clear h0
  refine wp_putV okX8 (k := 14) (by decide) rfl tw719 dX8_start_29 (zb_n c2) (zb_f c2) e5 ?_
  refine wp_iconst (v := (0 : Int32)) dX8_start_32 (by decide) ?_
  refine wp_istore_n (L1 := [some (.ref l0), some (.int l1), some (.int (0 : Int32))]) dX8_start_33 (Nat.le_of_ble_eq_true rfl) rfl ?_
  exact WP.wk (hk0 _ _ _ _ _ h4) (And.intro rfl (And.intro rfl (And.intro rfl trivial)))
def bX8_start_24 (k : KTX8_start) (w : XW) (l0 : Nat) (l1 : Int32) (s0 : Nat) : Option XW :=
  bX8_start_29 k w l0 l1 s0 (1 : Int32)
theorem BX8_start_24 {K : CX} {l : Launch} {n0 k0 : Nat} {k : KTX8_start} (hk0 : ∀ (w : XW) (l0 : Nat) (l1 : Int32) (l2 : Int32) (q : XW), k w l0 l1 l2 = some q → WP K l mX8_start 4 86 n0 k0 none q 34 [some (.ref l0), some (.int l1), some (.int l2)] [] w) {w : XW} {l0 : Nat} {l1 : Int32} {s0 : Nat} {q : XW} (h0 : bX8_start_24 k w l0 l1 s0 = some q) : WP K l mX8_start 4 86 n0 k0 none q 24 [some (.ref l0), some (.int l1), none] [.ref s0] w := by
  unfold bX8_start_24 at h0
  refine wp_iconst (v := (1 : Int32)) dX8_start_24 (by decide) ?_
  refine wp_goto (tgt := 29) dX8_start_25 (by decide) ?_
  exact WP.wk (BX8_start_29 hk0 h0) (And.intro rfl (And.intro rfl trivial))
def hX8_start_34 (k : KTX8_start) (w : XW) (l0 : Nat) (l1 : Int32) (l2 : Int32) : Option XW :=
  if (6 : Int32) ≤ l2 then
  bX8_start_64 k w
  else
  (gI w l0 8 14).bind fun x2 =>
  if x2 = 0 then
  (gR w l0 8 6).bind fun x6 =>
  (fX8_powerIn w l1 l2).bind fun q9 =>
  (sI q9.2 0 x6 l2 q9.1).bind fun w12 =>
  k w12 l0 l1 (l2 + (1 : Int32))
  else
  bX8_start_64 k w
theorem HX8_start_34 {K : CX} {l : Launch} {n0 k0 : Nat} {k : KTX8_start} (hk0 : ∀ (w : XW) (l0 : Nat) (l1 : Int32) (l2 : Int32) (q : XW), k w l0 l1 l2 = some q → WP K l mX8_start 4 86 n0 k0 none q 34 [some (.ref l0), some (.int l1), some (.int l2)] [] w) {w : XW} {l0 : Nat} {l1 : Int32} {l2 : Int32} {q : XW} (h0 : hX8_start_34 k w l0 l1 l2 = some q) : WP K l mX8_start 4 86 n0 k0 none q 34 [some (.ref l0), some (.int l1), some (.int l2)] [] w := by
  unfold hX8_start_34 at h0
  refine wp_iload_n dX8_start_34 rfl ?_
  refine wp_bipush (v := (6 : Int32)) dX8_start_35 (by decide) ?_
  refine wp_icmp_ge (tgt := 64) dX8_start_37 (by decide) (fun c1 => ?_) (fun c1 => ?_)
  · rw [if_pos c1] at h0
    exact WP.wk (BX8_start_64 hk0 h0) trivial
  · rw [if_neg c1] at h0
    refine wp_aload_n dX8_start_40 rfl ?_
    obtain ⟨x2, e4, h3⟩ := Option.bind_eq_some_iff.mp h0
    clear h0
    refine wp_getI okX8 (k := 14) (by decide) tw719 dX8_start_41 e4 ?_
    refine wp_if_ne (tgt := 64) dX8_start_44 (by decide) (fun c5 => ?_) (fun c5 => ?_)
    · rw [if_neg c5] at h3
      exact WP.wk (BX8_start_64 hk0 h3) trivial
    · rw [if_pos c5] at h3
      refine wp_aload_n dX8_start_47 rfl ?_
      obtain ⟨x6, e8, h7⟩ := Option.bind_eq_some_iff.mp h3
      clear h3
      refine wp_getR okX8 (k := 6) (by decide) tw711 dX8_start_48 e8 ?_
      refine wp_iload_n dX8_start_51 rfl ?_
      refine wp_iload_n dX8_start_52 rfl ?_
      refine wp_iload_n dX8_start_53 rfl ?_
      obtain ⟨q9, e11, h10⟩ := Option.bind_eq_some_iff.mp h7
      clear h7
      refine wp_Si (As := [.int l1, .int l2]) (S := [.int l2, .ref x6]) okM_X8_powerIn tw696 tw695 rfl ⟨(Nat.le_of_ble_eq_true rfl), (Nat.le_of_ble_eq_true rfl)⟩ (Nat.le_of_ble_eq_true rfl) rfl dX8_start_54 (MX8_powerIn e11) ?_
      obtain ⟨w12, e14, h13⟩ := Option.bind_eq_some_iff.mp h10
      clear h10
      refine wp_iast dX8_start_57 e14 ?_
      refine wp_iinc (v := (l2 + (1 : Int32))) (L1 := [some (.ref l0), some (.int l1), some (.int (l2 + (1 : Int32)))]) dX8_start_58 (Nat.le_of_ble_eq_true rfl) rfl (congrArg (fun z => l2 + z) (by decide)) rfl ?_
      refine wp_goto (tgt := 34) dX8_start_61 (by decide) ?_
      exact WP.wk (hk0 _ _ _ _ _ h13) (And.intro rfl (And.intro rfl (And.intro rfl trivial)))
def eX8_start (k : KTX8_start) (w : XW) (l0 : Nat) : Option XW :=
  (fX8_number w l0 (1 : Int32) (999 : Int32)).bind fun q1 =>
  (gI q1.2 l0 8 14).bind fun x4 =>
  if x4 = 0 then
  (fX8_isOfPrimes q1.2 q1.1).bind fun q8 =>
  if q8.1 = 0 then
  bX8_start_24 k q8.2 l0 q1.1 l0
  else
  bX8_start_29 k q8.2 l0 q1.1 l0 (0 : Int32)
  else
  bX8_start_24 k q1.2 l0 q1.1 l0
theorem EX8_start {K : CX} {l : Launch} {n0 k0 : Nat} {k : KTX8_start} (hk0 : ∀ (w : XW) (l0 : Nat) (l1 : Int32) (l2 : Int32) (q : XW), k w l0 l1 l2 = some q → WP K l mX8_start 4 86 n0 k0 none q 34 [some (.ref l0), some (.int l1), some (.int l2)] [] w) {w : XW} {l0 : Nat} {q : XW} (h0 : eX8_start k w l0 = some q) : WP K l mX8_start 4 86 n0 k0 none q 0 [some (.ref l0), none, none] [] w := by
  unfold eX8_start at h0
  refine wp_aload_n dX8_start_0 rfl ?_
  refine wp_iconst (v := (1 : Int32)) dX8_start_1 (by decide) ?_
  refine wp_sipush (v := (999 : Int32)) dX8_start_2 (by decide) ?_
  obtain ⟨q1, e3, h2⟩ := Option.bind_eq_some_iff.mp h0
  clear h0
  refine wp_Vi (As := [.int (1 : Int32), .int (999 : Int32)]) (S := []) okM_X8_number tw809 twP_X8_number tw807 (OX8_number e3) rfl rfl rfl ⟨(Nat.le_of_ble_eq_true rfl), (Nat.le_of_ble_eq_true rfl)⟩ (Nat.le_of_ble_eq_true rfl) rfl dX8_start_5 (MX8_number e3) ?_
  refine wp_istore_n (L1 := [some (.ref l0), some (.int q1.1), none]) dX8_start_8 (Nat.le_of_ble_eq_true rfl) rfl ?_
  refine wp_aload_n dX8_start_9 rfl ?_
  refine wp_aload_n dX8_start_10 rfl ?_
  obtain ⟨x4, e6, h5⟩ := Option.bind_eq_some_iff.mp h2
  clear h2
  refine wp_getI okX8 (k := 14) (by decide) tw719 dX8_start_11 e6 ?_
  refine wp_if_ne (tgt := 24) dX8_start_14 (by decide) (fun c7 => ?_) (fun c7 => ?_)
  · rw [if_neg c7] at h5
    exact WP.wk (BX8_start_24 hk0 h5) (And.intro rfl (And.intro rfl trivial))
  · rw [if_pos c7] at h5
    refine wp_iload_n dX8_start_17 rfl ?_
    obtain ⟨q8, e10, h9⟩ := Option.bind_eq_some_iff.mp h5
    clear h5
    refine wp_Si (As := [.int q1.1]) (S := [.ref l0]) okM_X8_isOfPrimes tw819 tw818 rfl ⟨(Nat.le_of_ble_eq_true rfl), (Nat.le_of_ble_eq_true rfl)⟩ (Nat.le_of_ble_eq_true rfl) rfl dX8_start_18 (MX8_isOfPrimes e10) ?_
    refine wp_if_ne (tgt := 28) dX8_start_21 (by decide) (fun c11 => ?_) (fun c11 => ?_)
    · rw [if_neg c11] at h9
      refine wp_iconst (v := (0 : Int32)) dX8_start_28 (by decide) ?_
      exact WP.wk (BX8_start_29 hk0 h9) (And.intro rfl (And.intro rfl trivial))
    · rw [if_pos c11] at h9
      exact WP.wk (BX8_start_24 hk0 h9) (And.intro rfl (And.intro rfl trivial))
def loX8_start : Nat → KTX8_start
  | 0 => fun _ _ _ _ => none
  | n + 1 => hX8_start_34 (loX8_start n)
theorem LOX8_start {K : CX} {l : Launch} {n0 k0 : Nat} : ∀ n : Nat, (∀ (w : XW) (l0 : Nat) (l1 : Int32) (l2 : Int32) (q : XW), (loX8_start n) w l0 l1 l2 = some q → WP K l mX8_start 4 86 n0 k0 none q 34 [some (.ref l0), some (.int l1), some (.int l2)] [] w) := by
  intro n
  induction n with
  | zero => exact fun _ _ _ _ q h => (by cases h)
  | succ n ih => exact fun _ _ _ _ q h => HX8_start_34 ih h
def fX8_start (w : XW) (l0 : Nat) : Option XW := if isO w l0 8 = true then eX8_start (loX8_start FU) w l0 else none
theorem OX8_start {w : XW} {l0 : Nat} {q : XW} (h : fX8_start w l0 = some q) : isO w l0 8 = true := Decidable.byContradiction fun z => by unfold fX8_start at h; rw [if_neg z] at h; cases h
theorem MX8_start {K : CX} {l : Launch} {w : XW} {l0 : Nat} {q : XW} (h : fX8_start w l0 = some q) : MT K l mX8_start 4 86 [.ref l0] w none q := by
  have z := OX8_start h
  unfold fX8_start at h
  rw [if_pos z] at h
  exact MT.of (by decide) (Nat.le_of_ble_eq_true rfl) rfl (EX8_start (LOX8_start FU) h)
