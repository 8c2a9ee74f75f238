/-! THE CLAIM OUT OF THE LAW'S OWN FUNCTION (the skeleton's rows, with the law's code word kept) -/
def R_law : String := "FractionRunLaw"
def lw_P (b : Addr) (xs : List Int32) (args : Array Value) (s : State) : Prop := args = #[.ref b] ∧ s.IntsAt b xs ∧ xs.length ≤ 4 ∧ (Jvm.Cond.and given_1 narrow_1).before args s = true
def lw_Q (_ : Array Value) (s : State) (o : Outcome) (t : State) : Prop := o = .returned (some (.int 1)) ∧ Framed s o t [] 600000 7302250
def lw_Z (below : List Frame) (a : Array Value) (s : State) : State → Prop := fun t => ∃ o, t.status = .running ∧ Ended t below o ∧ lw_Q a s o t
/-- what holds at the law's entry -/
def lw_At (p : Program) (s : State) (m : MethodId) (meth : Method) (c : Code) (b L : Nat) (xs : Nat → Int32) : Prop :=
  p.tables.exec = Jvm.exec ∧ c.code = code ∧ meth.sig.returnType = ret ∧ c.maxLocals = 4 ∧ s.vm.findClass R_law = some m.cls ∧ (∀ w ∈ lw_tbl, w.before #[Value.ref b] s = true) ∧ va_X b L xs s s.heap ∧ b < s.heap.size ∧ meth.locks = false ∧ (Jvm.Cond.and given_1 narrow_1).before #[Value.ref b] s = true ∧ (Cond.code x code maxLocals ret).before #[Value.ref b] s = true ∧ meth.name = "law"
theorem W.mono {p : Program} {l : Launch} {e : Env} {R : Room} {s : State} {m : MethodId} {args : Array Value} {below : List Frame} {meth : Method} {c : Code} {H : Heap} {locs : List Loc} {cells slots : Nat} {Q Q' : State → Prop} {g : JFrame} (k : W p l e R s m args below meth c H locs cells slots Q g) (h : ∀ t, Q t → Q' t) : W p l e R s m args below meth c H locs cells slots Q' g := fun T hT X => by
  obtain ⟨t, a, b⟩ := k T hT X
  exact ⟨t, a, h t b⟩
theorem rowT {s : State} {args : Array Value} {ty : FieldType} (h : (Cond.arrayClass ty).before args s = true) (hr : ∀ c, s.vm.findClass ("[" ++ ty.toString) = some c → va_RA s c ty) : ∃ c, ArrOfT s c ty ∧ va_RA s c ty := by
  obtain ⟨c, k, comp, h1, h2, h3⟩ := Cond.arrayClass_spec h
  exact ⟨c, fun n z => ⟨fun k h => (by cases h), k, h2, comp, h3⟩, hr c h1⟩
theorem rowO {s : State} {C : String} (h : va_AO C s) : ∃ c, ArrOfT s c (.object C) ∧ va_RA s c (.object C) := by
  obtain ⟨comp, c, k, h1, -, h3, h4, h5⟩ := Cond.arrayOver_spec h
  exact ⟨c, fun n z => ⟨fun k h => (by cases h), k, h3, comp, h4⟩, k, comp, h3, h4, h1, h5⟩
set_option maxHeartbeats 4000000 in
set_option maxRecDepth 100000 in
theorem law_ctx {p : Program} {s : State} {m : MethodId} {meth : Method} {c : Code} {b L : Nat} {xs : Nat → Int32} (C0 : lw_At p s m meth c b L xs) : ∃ K : CX, K.1 = s ∧ K.2.1 0 = b ∧ K.2.2.1 0 = (L, xs) ∧ cxs K s := by
  obtain ⟨hx, hb, hr, hml, hown, hts, hX, hbl, hlocks, hgv, hcd, hnm⟩ := C0
  have hs := flat_of_before _ hgv
  obtain ⟨c0, i0, hK0⟩ := u_known (C := RX0) (T := TX0) (N := 2) (n := 2) hts (fun u hu => (List.mem_filter.mp (okX0.2.1 u hu)).1) (hts (Jvm.Cond.instantiable "FractionRun$Course" (2 : Nat)) (List.mem_of_getElem? (i := 216) (by decide +kernel)))
  obtain ⟨c1, i1, hK1⟩ := u_known (C := RX1) (T := TX1) (N := 6) (n := 6) hts (fun u hu => (List.mem_filter.mp (okX1.2.1 u hu)).1) (hts (Jvm.Cond.instantiable "FractionRun$Fractions" (6 : Nat)) (List.mem_of_getElem? (i := 102) (by decide +kernel)))
  obtain ⟨c2, i2, hK2⟩ := u_known (C := RX2) (T := TX2) (N := 3) (n := 3) hts (fun u hu => (List.mem_filter.mp (okX2.2.1 u hu)).1) (hts (Jvm.Cond.instantiable "FractionRun$Kept" (3 : Nat)) (List.mem_of_getElem? (i := 194) (by decide +kernel)))
  obtain ⟨c3, i3, hK3⟩ := u_known (C := RX3) (T := TX3) (N := 3) (n := 3) hts (fun u hu => (List.mem_filter.mp (okX3.2.1 u hu)).1) (hts (Jvm.Cond.instantiable "FractionRun$Past" (3 : Nat)) (List.mem_of_getElem? (i := 174) (by decide +kernel)))
  obtain ⟨c4, i4, hK4⟩ := u_known (C := RX4) (T := TX4) (N := 1) (n := 1) hts (fun u hu => (List.mem_filter.mp (okX4.2.1 u hu)).1) (hts (Jvm.Cond.instantiable "FractionRun$Reader" (1 : Nat)) (List.mem_of_getElem? (i := 91) (by decide +kernel)))
  obtain ⟨c5, i5, hK5⟩ := u_known (C := RX5) (T := TX5) (N := 7) (n := 7) hts (fun u hu => (List.mem_filter.mp (okX5.2.1 u hu)).1) (hts (Jvm.Cond.instantiable "FractionRun$State" (7 : Nat)) (List.mem_of_getElem? (i := 136) (by decide +kernel)))
  obtain ⟨c6, i6, hK6⟩ := u_known (C := RX6) (T := TX6) (N := 2) (n := 2) hts (fun u hu => (List.mem_filter.mp (okX6.2.1 u hu)).1) (hts (Jvm.Cond.instantiable "FractionRun$Text" (2 : Nat)) (List.mem_of_getElem? (i := 75) (by decide +kernel)))
  obtain ⟨c7, i7, hK7⟩ := u_known (C := RX7) (T := TX7) (N := 15) (n := 15) hts (fun u hu => (List.mem_filter.mp (okX7.2.1 u hu)).1) (hts (Jvm.Cond.instantiable "FractionRun" (15 : Nat)) (List.mem_of_getElem? (i := 67) (by decide +kernel)))
  obtain ⟨c8, i8, hK8⟩ := u_known (C := RX8) (T := TX8) (N := 24) (n := 24) hts (fun u hu => (List.mem_filter.mp (okX8.2.1 u hu)).1) (hts (Jvm.Cond.instantiable "FractionRunModel" (24 : Nat)) (List.mem_of_getElem? (i := 735) (by decide +kernel)))
  obtain ⟨aI, hAI⟩ := rowT (hts (Jvm.Cond.arrayClass Jvm.ClassFile.FieldType.int) (List.mem_of_getElem? (i := 100) (by decide +kernel))) (fun _ h => h)
  obtain ⟨aC, hAC⟩ := rowT (hts (Jvm.Cond.arrayClass Jvm.ClassFile.FieldType.char) (List.mem_of_getElem? (i := 89) (by decide +kernel))) (fun _ h => h)
  obtain ⟨aB, hAB⟩ := rowT (hts (Jvm.Cond.arrayClass Jvm.ClassFile.FieldType.byte) (List.mem_of_getElem? (i := 393) (by decide +kernel))) (fun _ h => h)
  obtain ⟨aJ, hAJ⟩ := rowT (hts (Jvm.Cond.arrayClass Jvm.ClassFile.FieldType.long) (List.mem_of_getElem? (i := 228) (by decide +kernel))) (fun _ h => h)
  have hOS : va_AO "FractionRun$State" s := va_AO.of (hts (Jvm.Cond.arrayOver (Jvm.ClassFile.FieldType.object "FractionRun$State")) (List.mem_of_getElem? (i := 180) (by decide +kernel)))
  obtain ⟨aS, hAS⟩ := rowO hOS
  have hOT : va_AO "FractionRun$Text" s := va_AO.of (hts (Jvm.Cond.arrayOver (Jvm.ClassFile.FieldType.object "FractionRun$Text")) (List.mem_of_getElem? (i := 201) (by decide +kernel)))
  obtain ⟨aT, hAT⟩ := rowO hOT
  have hA : ∀ a : Nat, a < s.heap.size → ¬ (fun q => s.heap.size ≤ q) a := fun a h q => absurd h (Nat.not_lt.mpr q)
  obtain ⟨tP, eP, hTP⟩ := va_Tof (tm := (Jvm.Term.static "FractionRun" "PRIMES" "[I")) (ty := .int) (N := 6) (f := fun j => .int (prA j)) (A := fun q => s.heap.size ≤ q) (by decide) (hs (Cond.arrayOf (Jvm.Term.static "FractionRun" "PRIMES" "[I") .int) (by decide +kernel)) (va_eqt (hs (Cond.eq (.length (Jvm.Term.static "FractionRun" "PRIMES" "[I")) (.int 6)) (by decide +kernel))) (fun j hj => va_eqt (hs (Cond.eq (.elem (Jvm.Term.static "FractionRun" "PRIMES" "[I") (.int (Int32.ofNat j))) (.int (prA j))) ((show ∀ j, j < 6 → Cond.eq (.elem (Jvm.Term.static "FractionRun" "PRIMES" "[I") (.int (Int32.ofNat j))) (.int (prA j)) ∈ flatC (Jvm.Cond.and given_1 narrow_1) by decide +kernel) j hj))) hA
  have hZP := va_Zof (A := fun q => s.heap.size ≤ q) (hts (Jvm.Cond.laysStatic "FractionRun" "PRIMES" "[I") (List.mem_of_getElem? (i := 301) (by decide +kernel))) (hts (Jvm.Cond.initialized "FractionRun") (List.mem_of_getElem? (i := 50) (by decide +kernel))) eP hA
  obtain ⟨adK, adV, hS, eS⟩ := vk_Sof (N := 1) (tm := fun _ => (Jvm.Term.string "FractionRun" 80)) (len := [53]) (byt := [[102, 52, 53, 53, 44, 51, 51, 44, 48, 59, 102, 49, 49, 44, 49, 51, 44, 48, 59, 102, 49, 44, 49, 49, 44, 48, 59, 102, 51, 44, 55, 44, 48, 59, 102, 49, 49, 44, 50, 44, 48, 59, 102, 49, 44, 51, 44, 48, 59, 115, 55, 50, 59]]) (A := fun q => s.heap.size ≤ q) (args := #[Value.ref b]) (s := s) (fun i hi => by rw [show i = 0 by omega]; decide) (fun i hi => hs (Cond.exactly (Jvm.Term.string "FractionRun" 80) "java/lang/String") (by decide +kernel)) (fun i hi => hs (Cond.eq (.field (Jvm.Term.string "FractionRun" 80) "java/lang/String" "coder" "B") (.int 0)) (by decide +kernel)) (fun i hi => hs (Cond.arrayOf (.field (Jvm.Term.string "FractionRun" 80) "java/lang/String" "value" "[B") .byte) (by decide +kernel)) (fun i hi => by rw [show i = 0 by omega]; exact hs (Cond.eq (.length (.field (Jvm.Term.string "FractionRun" 80) "java/lang/String" "value" "[B")) (.int 53)) (by decide +kernel)) (fun i hi j hj => by
    rw [show i = 0 by omega] at hj ⊢
    exact hs (Cond.eq (.elem (.field (Jvm.Term.string "FractionRun" 80) "java/lang/String" "value" "[B") (.int (Int32.ofNat j))) (.int (byA j))) ((show ∀ j, j < 53 → Cond.eq (.elem (.field (Jvm.Term.string "FractionRun" 80) "java/lang/String" "value" "[B") (.int (Int32.ofNat j))) (.int (byA j)) ∈ flatC (Jvm.Cond.and given_1 narrow_1) by decide +kernel) j hj)) (fun i j hi hj hne => absurd (show i = j by omega) hne) hA
  have hR : vk_R "FractionRun" 80 "f455,33,0;f11,13,0;f1,11,0;f3,7,0;f11,2,0;f1,3,0;s72;" (adK 0) s := vk_R.of (hts (Jvm.Cond.stringRef "FractionRun" (80 : Nat) "f455,33,0;f11,13,0;f1,11,0;f3,7,0;f11,2,0;f1,3,0;s72;") (List.mem_of_getElem? (i := 229) (by decide +kernel))) (eS 0 (by decide))
  have hZC := va_Zof (A := fun q => s.heap.size ≤ q) (hts (Jvm.Cond.laysStatic "java/lang/String" "COMPACT_STRINGS" "Z") (List.mem_of_getElem? (i := 239) (by decide +kernel))) (hts (Jvm.Cond.initialized "java/lang/String") (List.mem_of_getElem? (i := 58) (by decide +kernel))) (va_eqi (hs (Cond.eq (.static "java/lang/String" "COMPACT_STRINGS" "Z") (.int 1)) (by decide +kernel))) hA
  have hZF := va_Zqof (A := fun q => s.heap.size ≤ q) (hts (Jvm.Cond.laysStatic "jdk/internal/util/Preconditions" "SIOOBE_FORMATTER" "Ljava/util/function/BiFunction;") (List.mem_of_getElem? (i := 255) (by decide +kernel))) (hts (Jvm.Cond.initialized "jdk/internal/util/Preconditions") (List.mem_of_getElem? (i := 60) (by decide +kernel))) (hs (Cond.isRef (.static "jdk/internal/util/Preconditions" "SIOOBE_FORMATTER" "Ljava/util/function/BiFunction;")) (by decide +kernel)) hA
  obtain ⟨tF, gF, hF⟩ : ∃ tF gF : Nat, va_Z "jdk/internal/util/Preconditions" "SIOOBE_FORMATTER" "Ljava/util/function/BiFunction;" (if gF = 0 then .null else .ref tF) (fun q => s.heap.size ≤ q) s s.heap := by
    rcases hZF with h | ⟨t, h⟩
    · exact ⟨0, 0, h⟩
    · exact ⟨t, 1, h⟩
  refine ⟨(s, fun u => if u = 0 then b else if u = 1 then tP else if u = 2 then adK 0 else if u = 3 then adV 0 else if u = 4 then tF else gF, fun _ => (L, xs), (fun k => [c0, c1, c2, c3, c4, c5, c6, c7, c8].getD k c0, fun k => [i0, i1, i2, i3, i4, i5, i6, i7, i8].getD k i0), fun k => [aI, aC, aB, aJ, aS, aT].getD k aI), rfl, rfl, rfl, ⟨?_, ?_⟩, ⟨?_, ?_⟩, hZP, ⟨?_, hTP⟩, hOS, hOT, (hS.1 0 (by decide)).1, (hS.1 0 (by decide)).2.1, (hS.1 0 (by decide)).2.2.1, (hS.1 0 (by decide)).2.2.2, hR, hZC, ?_⟩
  · intro k q hq
    match k, hq with
    | 0, hq => cases hq; exact hK0
    | 1, hq => cases hq; exact hK1
    | 2, hq => cases hq; exact hK2
    | 3, hq => cases hq; exact hK3
    | 4, hq => cases hq; exact hK4
    | 5, hq => cases hq; exact hK5
    | 6, hq => cases hq; exact hK6
    | 7, hq => cases hq; exact hK7
    | 8, hq => cases hq; exact hK8
    | k + 9, hq => simp [classes] at hq
  · intro k q hq
    match k, hq with
    | 0, hq => cases hq; exact hAI
    | 1, hq => cases hq; exact hAC
    | 2, hq => cases hq; exact hAB
    | 3, hq => cases hq; exact hAJ
    | 4, hq => cases hq; exact hAS
    | 5, hq => cases hq; exact hAT
    | k + 6, hq => simp [tysK] at hq
  · intro q hq
    simp only [NWm, List.mem_cons, List.not_mem_nil, or_false] at hq
    rcases hq with rfl | rfl | rfl | rfl | rfl | rfl | rfl | rfl | rfl
    · exact va_Nw.of rfl (hts _ (List.mem_of_getElem? (i := 76) (by decide +kernel)))
    · exact va_Nw.of rfl (hts _ (List.mem_of_getElem? (i := 92) (by decide +kernel)))
    · exact va_Nw.of rfl (hts _ (List.mem_of_getElem? (i := 103) (by decide +kernel)))
    · exact va_Nw.of rfl (hts _ (List.mem_of_getElem? (i := 137) (by decide +kernel)))
    · exact va_Nw.of rfl (hts _ (List.mem_of_getElem? (i := 181) (by decide +kernel)))
    · exact va_Nw.of rfl (hts _ (List.mem_of_getElem? (i := 202) (by decide +kernel)))
    · exact va_Nw.of rfl (hts _ (List.mem_of_getElem? (i := 203) (by decide +kernel)))
    · exact va_Nw.of rfl (hts _ (List.mem_of_getElem? (i := 217) (by decide +kernel)))
    · exact va_Nw.of rfl (hts _ (List.mem_of_getElem? (i := 325) (by decide +kernel)))
  · exact va_Nw.of rfl (hts _ (List.mem_of_getElem? (i := 300) (by decide +kernel)))
  · obtain ⟨scr, h1, h2, h3, h4, h5⟩ := hX
    exact ⟨scr, h1, h2, h3, Nat.le_of_eq h4.symm, by rw [h4] <;> rfl, h5, hA b hbl⟩
  · show va_Z "jdk/internal/util/Preconditions" "SIOOBE_FORMATTER" "Ljava/util/function/BiFunction;" (cv _ (fv _)) _ _ _
    unfold fv
    by_cases hg : gF = 0
    · rw [if_pos hg] at hF
      rw [if_pos (by exact hg)]
      exact hF
    · rw [if_neg hg] at hF
      rw [if_neg (by exact hg)]
      exact hF
theorem lok_entry {K : CX} {as : List Value} {n : Nat} (hlen : (entL as).length ≤ n) : lok K (entL as ++ List.replicate (n - (entL as).length) none) ((lg_sl (as.map (cv K)) ++ List.replicate (n - (lg_sl (as.map (cv K))).length) Slot.unset).toArray) := by
  have he := lv_entry (as.map (cv K)) (n := n) (by rw [← ent_len]; exact hlen)
  refine ⟨by rw [he.1, List.length_append, List.length_replicate]; omega, he.2.1, fun i v hi => ?_⟩
  by_cases hlt : i < (entL as).length
  · rw [List.getElem?_append_left hlt] at hi
    have := ent_mem (K := K) as 0 i v hi
    rw [Nat.zero_add] at this
    exact he.2.2 _ this
  · rw [List.getElem?_append_right (by omega), List.getElem?_replicate] at hi
    split at hi <;> simp at hi
theorem mq_end {below : List Frame} {K : CX} {w : XW} {a : Array Value} {t : State} (h1 : w.1 ≤ 600000) (h2 : w.2.1 ≤ 7302250) (h : MQ below (QW K (some (.int 1)) w) a K.1 (w.1 - 0) (w.2.1 - 0) (cA K) t) : lw_Z below a K.1 t := by
  obtain ⟨o, g1, g2, ⟨g3, g4⟩, L, ⟨g5, g6, g7⟩, g8⟩ := h
  refine ⟨o, g1, g2, g3, g5, g6, ?_⟩
  have g9 := State.sameButNew.drop_fresh (L := []) (J := L) g7 g8
  exact g9.mono (by omega) (by omega)
set_option maxHeartbeats 4000000 in
/-- THE LAW, from its entry -/
theorem whole_start {p : Program} {e : Env} {s : State} {m : MethodId} {below : List Frame} {meth : Method} {c : Code} (l : Launch) {b L : Nat} {xs : Nat → Int32} (hL : L ≤ 4) (C0 : lw_At p s m meth c b L xs) : W p l e room_1 s m #[Value.ref b] below meth c s.heap [] 0 0 (lw_Z below #[Value.ref b] s) (entryFrame m ([Value.ref b] : List Value).toArray 4) := by
  obtain ⟨K, hK1, hK2, hK3, hcx⟩ := law_ctx C0
  obtain ⟨hx, hb, hr, hml, hown, hts, hX, hbl, hlocks, hgv, hcd, hnm⟩ := C0
  subst hK1
  obtain ⟨w', hw, hn1, hn2⟩ := law_fun L xs hL
  have hw2 : loL_law (K.2.2.1 0).1 (K.2.2.1 0).2 FU WN 0 72 0 = some (1, w') := by rw [hK3]; exact hw
  have hE := law_pre (K := K) (l := l) (n0 := 0) (k0 := 0) (LOL_law FU _ _ _ _ _ hw2)
  rw [lg_entry_eq]
  have hlk := lok_entry (K := K) (as := [.float 0]) (n := 4) (by decide)
  have ha : ([.float 0] : List Value).map (cv K) = [.ref b] := by show [Value.ref (K.2.1 0)] = _; rw [hK2]
  rw [ha] at hlk
  have hST : Stn K mL_law p K.1 m #[Value.ref b] meth c := by
    refine ⟨hx, hb, hml, hown, fun w hw => ?_, hr, hlocks, hnm, hcx, Nat.le_refl _, fun q _ => rfl⟩
    rcases List.mem_cons.mp hw with e1 | e1
    · rw [e1]; exact hcd
    · exact hts w (List.mem_filter.mp e1).1
  have hrep : rep K w00 K.1.heap := ⟨rfl, fun k hk => absurd hk (Nat.not_lt_zero k), fun q _ => rfl⟩
  have hW := hE.2.2 (Nat.le_refl _) (Nat.le_refl _) p e K.1 m #[Value.ref b] below meth c K.1.heap [] _ room_1 (Nat.le_of_ble_eq_true rfl) (Nat.le_of_ble_eq_true rfl) hn1 hn2 hST hrep (fun q hq => by cases hq) hlk
  exact W.mono hW (fun t ht => mq_end hn1 hn2 ht)
set_option maxHeartbeats 4000000 in
theorem lw_walk (l : Launch) (hflags : l.flags = flags0) (b : Addr) (xs : List Int32) : MetFree l x (headSpec (Jvm.Cond.code x code maxLocals ret :: tables_1) room_1) (lw_P b xs) (fun _ _ _ _ _ => True) lw_Q := by
  refine MetFree.of_bodyS (code := code) (maxLocals := maxLocals) (ret := ret) (by decide) ?_ ?_
  · intro args s m h hn
    obtain ⟨meth, c, h1, h2, h3, h4, h5, h6, -, -⟩ := Cond.code_spec hn (atoms_spec (ws := Jvm.Cond.code x code maxLocals ret :: tables_1) h _ List.mem_cons_self)
    exact ⟨meth, c, h1, h2, h3, h4, h5, h6⟩
  · intro p e s m args below meth c s₁ B hml0 hP _
    obtain ⟨rfl, hx, hbd, hgv⟩ := hP
    obtain ⟨scr, harrAt, hlist, hof, hsmall⟩ := hx
    obtain ⟨hcb, hkn, -, -⟩ := State.arrayAt?_spec harrAt
    have hown : s.vm.findClass R_law = some m.cls := findClass_of_methodNamed B.named
    have hts0 : ∀ c ∈ (Jvm.Cond.code x code maxLocals ret :: tables_1), c.before #[Value.ref b] s = true := atoms_spec (ws := Jvm.Cond.code x code maxLocals ret :: tables_1) B.pre
    have hts : ∀ w ∈ lw_tbl, w.before #[Value.ref b] s = true := k2_hts_sels lw_privs (fun w hw => hts0 w (List.mem_cons_of_mem _ hw)) lw_privs_ok
    have hml : c.maxLocals = 4 := B.maxLocals_eq (hts0 _ List.mem_cons_self)
    have X₀ : Stand p l e room_1 s m #[Value.ref b] below meth c s₁ [] 0 0 := Stand.of_body B
    have hh0 : s₁.heap = s.heap := by rw [B.state]; rfl
    have hsz : scr.slots.size = xs.length := by rw [← Array.length_toList, hlist, List.length_map]
    have hval : ∀ j : Nat, j < xs.length → scr.slots[j]? = some (.int (xs.getD j 0)) := fun j hj => by
      rw [← Array.getElem?_toList, hlist]
      simp [hj]
    have hbl : b < s.heap.size := (Array.getElem?_eq_some_iff.mp hcb).1
    have hX : va_X b xs.length (fun j => xs.getD j 0) s s.heap := ⟨scr, hcb, hof, hkn, hsz, hval⟩
    have K : W p l e room_1 s m #[Value.ref b] below meth c s₁.heap [] 0 0 (lw_Z below #[Value.ref b] s) (entryFrame m ([Value.ref b] : List Value).toArray 4) := by
      rw [hh0]
      exact whole_start l hbd ⟨B.exec, B.bytes, B.returns, hml, hown, hts, hX, hbl, B.notSynchronized, hgv, hts0 _ List.mem_cons_self, (name_of_methodNamed B.named B.method).1⟩
    obtain ⟨t, a1, o, b1, b2, b3⟩ := K s₁ rfl X₀
    exact ⟨t, o, a1, b1, b2, b3⟩
theorem lw_pre_spec {args : Array Value} {s : State} (h : (Jvm.Cond.and given_1 narrow_1).before args s = true) (hr : rest_1_c.before args s = true) : ∃ (b : Addr) (xs : List Int32), lw_P b xs args s := by
  have hs := flat_of_before _ h
  have hq := flat_of_before _ hr
  have hc : (Cond.count 1).before args s = true := hs _ (by decide +kernel)
  have harr : (Cond.arrayOf (.arg 0) .int).before args s = true := hs _ (by decide +kernel)
  have hle : (Cond.le (.length (.arg 0)) (.int 4)).before args s = true := hs _ (by decide +kernel)
  have hlen : (Cond.isInt (.length (.arg 0))).before args s = true := hq _ (by decide +kernel)
  have hall : (Cond.all (.arg 0) (.isInt (.elem (.arg 0) (.index 0)))).before args s = true := hq _ (by decide +kernel)
  obtain ⟨b, xs, hb, hx⟩ := State.ints_of_pre rfl harr hlen hall
  have hsm : xs.length < 2 ^ 31 := hx.choose_spec.2.2.2
  have hev : (Term.length (.arg 0)).eval args s none [] s = some (.int xs.length.toInt32) := hx.length_eval hb
  have hv := Cond.le_ints hev (show (Term.int 4).eval args s none [] s = some (.int 4) from rfl)
  have hd : xs.length.toInt32 ≤ 4 := by
    simpa [Cond.before, Cond.holds, hv] using hle
  have hN : xs.length ≤ 4 := (Int32.ofNat_le_ofNat hsm (by decide)).mp (show Int32.ofNat xs.length ≤ Int32.ofNat 4 from hd)
  exact ⟨b, xs, Cond.one_arg hc (show args[0]? = some (.ref b) from hb), hx, hN, h⟩
theorem lw_comes (l : Launch) (hflags : l.flags = flags0) : Comes l x (Jvm.Cond.code x code maxLocals ret :: tables_1) room_1 (fun tb e args s => Calls_1 tb e args s ∧ rest_1 tb e args s ∧ Pre_1 tb e args s)
    (fun _ _ args s o t => lw_Q args s o t) := by
  intro p e ha hc hk s m args below hf hfit hheap happ hpre
  obtain ⟨b, xs, hP⟩ := lw_pre_spec hpre.2.2 hpre.2.1
  obtain ⟨k, o, h1, h2, h3, hQ⟩ := lw_walk l hflags b xs p e ha hc hk s m args below hf ((Spec.applies_iff_loose hf).mp happ).1 hP trivial
  exact ⟨k, o, h1, h2, h3, hQ⟩
theorem lw_frame {s t : State} {o : Outcome} {args : Array Value} (h : Framed s o t [] 600000 7302250) :
    Framed s o t (fieldLocs frame_1_writes args s ++ arrayLocs frame_1_arrays args s ++ staticLocs frame_1_statics s) 600000 7302250 := h
theorem lw_limb (L : Cond) (hL : ∀ (args : Array Value) (s t : State), L.after args s (.returned (some (.int 1))) t = true) :
    ArmFor flags0 classFile x code maxLocals ret World_1 tables_1 room_1 Calls_1 rest_1 Pre_1
      (fun tb e a s o t => postC L tb e a s o t ∧ Framed s o t (fieldLocs frame_1_writes a s ++ arrayLocs frame_1_arrays a s ++ staticLocs frame_1_statics s) 600000 7302250) := by
  intro l hflags _ _ p e ha hc hk s m args below hf hfit hheap happ hpre
  obtain ⟨k, o, h1, h2, h3, rfl, hF⟩ := lw_comes l hflags p e ha hc hk s m args below hf hfit hheap happ hpre
  exact ⟨k, _, h1, h2, h3, hL args s _, lw_frame hF⟩
theorem i_vc : Claimed_1_1 ∧ Claimed_1_2 := ⟨lw_limb limb_1_1 (fun args s t => by simp [limb_1_1, Cond.after, Cond.holds, Cond.value]), lw_limb limb_1_2 (fun args s t => Cond.after_iff.mpr (by
  first | (rw [show limb_1_2 = Cond.eq .result (.int 1) from rfl, Cond.eq_ints (x := 1) (y := 1) rfl rfl]; simp; done) | (simp [limb_1_2, Cond.value, Term.eval]; done)))⟩
