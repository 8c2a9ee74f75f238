/-! THE FRAME: worlds whose cells are numbered from 0 on (cell k lies at the address B + k, B: the heap's size at the law's entry), a judgement WP for a frame of a method, MT for a call of one, and a row for each instruction. -/
abbrev XC : Type := (Nat × Nat × (Nat → Int32)) ⊕ ((Nat × (Nat → Int64)) ⊕ ((Nat × Nat × (Nat → Option Nat)) ⊕ (Nat × List Value)))
abbrev xi (t n : Nat) (f : Nat → Int32) : XC := .inl (t, n, f)
abbrev xl (n : Nat) (g : Nat → Int64) : XC := .inr (.inl (n, g))
abbrev xr (t n : Nat) (r : Nat → Option Nat) : XC := .inr (.inr (.inl (t, n, r)))
abbrev xo (ci : Nat) (fs : List Value) : XC := .inr (.inr (.inr (ci, fs)))
/-- a world: how many cells, how many slots were made, what the cells hold -/
abbrev XW : Type := Nat × Nat × (Nat → XC)
def xup (w : Nat → XC) (k : Nat) (c : XC) : Nat → XC := fun j => if j = k then c else w j
def xput (w : XW) (k : Nat) (c : XC) : XW := (w.1, w.2.1, xup w.2.2 k c)
def xpush (w : XW) (n : Nat) (c : XC) : XW := (w.1 + 1, w.2.1 + n, xup w.2.2 w.1 c)
def xat (w : XW) (k : Nat) (c : XC) : Prop := k < w.1 ∧ w.2.2 k = c
/-- the classes whose objects the worlds hold -/
abbrev classes : List vw_C := [(RX0, TX0, 2), (RX1, TX1, 6), (RX2, TX2, 3), (RX3, TX3, 3), (RX4, TX4, 1), (RX5, TX5, 7), (RX6, TX6, 2), (RX7, TX7, 15), (RX8, TX8, 24)]
/-- the context: the law's entry state, the addresses of cells outside, what int arrays lie there, the classes' numbers, the array classes' numbers -/
abbrev CX : Type := State × (UInt32 → Nat) × (UInt32 → Nat × (Nat → Int32)) × va_G × (Nat → ClassId)
abbrev cB (K : CX) : Nat := K.1.heap.size
abbrev cD (K : CX) : va_G := K.2.2.2.1
abbrev cI (K : CX) : Nat → ClassId := K.2.2.2.2
abbrev cA (K : CX) : Nat → Prop := fun q => K.1.heap.size ≤ q
/-- a value as the machine has it: a reference to the cell k lies at B + k; a float stands for a reference outside -/
def cv (K : CX) (v : Value) : Value := match v with
  | .ref k => .ref (cB K + k)
  | .float u => .ref (K.2.1 u)
  | v => v
def cvr (K : CX) (r : Option Nat) : Value := match r with
  | none => .null
  | some k => .ref (cB K + k)
def xcell (K : CX) (a : Nat) (c : XC) (H : Heap) : Prop := match c with
  | .inl q => H[a]? = some (arrV (cI K q.1) q.2.1 (fun j => .int (q.2.2 j)))
  | .inr (.inl q) => H[a]? = some (arrV (cI K 3) q.1 (fun j => .long (q.2 j)))
  | .inr (.inr (.inl q)) => H[a]? = some (arrV (cI K (4 + q.1)) q.2.1 (fun j => cvr K (q.2.2 j)))
  | .inr (.inr (.inr q)) => ∃ r : vw_C, classes[q.1]? = some r ∧ t_OB a ((cD K).1 q.1) r.2.2 ((cD K).2 q.1) H (vp_V (q.2.map (cv K)))
theorem xcell.kept {K : CX} {a : Nat} {c : XC} {H H1 : Heap} (h : xcell K a c H) (hq : H1[a]? = H[a]?) : xcell K a c H1 := by
  rcases c with q | q | q | q
  · exact hq.trans h
  · exact hq.trans h
  · exact hq.trans h
  · obtain ⟨r, h1, h2⟩ := h
    exact ⟨r, h1, h2.kept hq⟩
/-- the heap holds the world -/
def rep (K : CX) (w : XW) (H : Heap) : Prop := H.size = cB K + w.1 ∧ (∀ k, k < w.1 → xcell K (cB K + k) (w.2.2 k) H) ∧ ∀ q, q < cB K → H[q]? = K.1.heap[q]?
theorem rep.put {K : CX} {w : XW} {H H1 : Heap} {k : Nat} {c : XC} (h : rep K w H) (z : H1.size = H.size) (hc : xcell K (cB K + k) c H1) (oq : ∀ q, q ≠ cB K + k → H1[q]? = H[q]?) : rep K (xput w k c) H1 := by
  refine ⟨z.trans h.1, fun j hj => ?_, fun q hq => (oq q (by omega)).trans (h.2.2 q hq)⟩
  show xcell K (cB K + j) (if j = k then c else w.2.2 j) H1
  by_cases e : j = k
  · rw [if_pos e, e]; exact hc
  · rw [if_neg e]
    exact (h.2.1 j hj).kept (oq _ (by omega))
theorem rep.push {K : CX} {w : XW} {H H1 : Heap} {n : Nat} {c : XC} (h : rep K w H) (z : H1.size = H.size + 1) (hc : xcell K H.size c H1) (oq : ∀ q, q < H.size → H1[q]? = H[q]?) : rep K (xpush w n c) H1 := by
  have hs := h.1
  refine ⟨by show H1.size = cB K + (w.1 + 1); omega, fun j hj => ?_, fun q hq => (oq q (by omega)).trans (h.2.2 q hq)⟩
  show xcell K (cB K + j) (if j = w.1 then c else w.2.2 j) H1
  by_cases e : j = w.1
  · rw [if_pos e, e, ← hs]; exact hc
  · rw [if_neg e]
    have hj' : j < w.1 + 1 := hj
    exact (h.2.1 j (by omega)).kept (oq _ (by omega))
/-- the words of the tables that can be carried from state to state -/
def TBL : List Cond := lw_tbl.filter goodWord
theorem tb {w : Cond} (i : Nat) (h : lw_tbl[i]? = some w) (hg : goodWord w = true) : w ∈ TBL := List.mem_filter.mpr ⟨List.mem_of_getElem? h, hg⟩
abbrev MR : Type := MethodName × ByteArray × Nat × Option FieldType
abbrev cdw (y : MR) : Cond := Cond.code y.1 y.2.1 y.2.2.1 y.2.2.2
def wsM (y : MR) : List Cond := cdw y :: TBL
theorem wsM_in {y : MR} {w : Cond} (h : w ∈ TBL) : w ∈ wsM y := List.mem_cons_of_mem _ h
theorem wsM_good {y z : MR} (h : cdw z ∈ TBL) : GoodIn (wsM y) (wsM z) := by
  have key : ∀ w ∈ TBL, w ∈ wsM y ∧ ((w.onTables && w.keeps) = true ∨ ∃ ty, w = .arrayClass ty) := fun w hw => ⟨wsM_in hw, good_of_word (List.mem_filter.mp hw).2⟩
  intro w hw
  rcases List.mem_cons.mp hw with e | e
  · subst e; exact key _ h
  · exact key w e
/-- the nest's words: methods, then the one field -/
abbrev NWm : List (String × Nat × MethodName) := [("FractionRun", 9, ⟨"FractionRun$Text", "<init>", "()V"⟩), ("FractionRun", 18, ⟨"FractionRun$Reader", "<init>", "()V"⟩), ("FractionRun", 25, ⟨"FractionRun$Fractions", "<init>", "()V"⟩), ("FractionRun", 35, ⟨"FractionRun$State", "<init>", "()V"⟩), ("FractionRun$Past", 17, ⟨"FractionRun$State", "<init>", "()V"⟩), ("FractionRun$Kept", 23, ⟨"FractionRun$State", "<init>", "()V"⟩), ("FractionRun$Kept", 24, ⟨"FractionRun$Text", "<init>", "()V"⟩), ("FractionRun", 72, ⟨"FractionRun$Course", "<init>", "()V"⟩), ("FractionRun$Fractions", 38, ⟨"FractionRun", "greatestDivisor", "(II)I"⟩)]
def nst (U : State) : Prop := (∀ q ∈ NWm, va_Nw (.methodLinkNest q.1 q.2.1 q.2.2 "FractionRun") U) ∧ va_Nw (.fieldLinkNest "FractionRun$Fractions" 51 "FractionRun" "PRIMES" "[I" "FractionRun") U
theorem nst.warm {s U : State} (h : nst s) (hW : s.WarmedH U.vm) : nst U := ⟨fun q hq => va_Nw.warmM hW (h.1 q hq), va_Nw.warmF hW h.2⟩
abbrev tysK (K : CX) : List (ClassId × FieldType) := [(cI K 0, .int), (cI K 1, .char), (cI K 2, .byte), (cI K 3, .long), (cI K 4, .object "FractionRun$State"), (cI K 5, .object "FractionRun$Text")]
/-- what FractionRun.PRIMES holds, and the bytes of the String constant -/
def prA (j : Nat) : Int32 := [2, 3, 5, 7, 11, 13].getD j 0
def byA (j : Nat) : Int32 := [102, 52, 53, 53, 44, 51, 51, 44, 48, 59, 102, 49, 49, 44, 49, 51, 44, 48, 59, 102, 49, 44, 49, 49, 44, 48, 59, 102, 51, 44, 55, 44, 48, 59, 102, 49, 49, 44, 50, 44, 48, 59, 102, 49, 44, 51, 44, 48, 59, 115, 55, 50, 59].getD j 0
/-- the formatter that String.checkIndex carries: null, or a reference outside -/
def fv (K : CX) : Value := if K.2.1 5 = 0 then .null else .float 4
/-- the one String constant, and what String's own code reads -/
def strs (K : CX) (U : State) : Prop := va_O "java/lang/String" (K.2.1 2) (cA K) U K.1.heap ∧ va_OF "java/lang/String" "coder" "B" (.int 0) (K.2.1 2) (cA K) U K.1.heap ∧ va_OF "java/lang/String" "value" "[B" (.ref (K.2.1 3)) (K.2.1 2) (cA K) U K.1.heap ∧ va_T .byte (K.2.1 3) 53 (fun j => .int (byA j)) (cA K) U K.1.heap ∧ vk_R "FractionRun" 80 "f455,33,0;f11,13,0;f1,11,0;f3,7,0;f11,2,0;f1,3,0;s72;" (K.2.1 2) U ∧ va_Z "java/lang/String" "COMPACT_STRINGS" "Z" (.int 1) (cA K) U K.1.heap ∧ va_Z "jdk/internal/util/Preconditions" "SIOOBE_FORMATTER" "Ljava/util/function/BiFunction;" (cv K (fv K)) (cA K) U K.1.heap
theorem strs.warm {K : CX} {s U : State} (h : strs K s) (hW : s.WarmedH U.vm) : strs K U := ⟨h.1.moved hW.alike, h.2.1.moved hW.alike, h.2.2.1.moved hW.alike, h.2.2.2.1.moved hW.alike, h.2.2.2.2.1.warm hW, h.2.2.2.2.2.1.moved hW.alike, h.2.2.2.2.2.2.moved hW.alike⟩
theorem strs.same {K : CX} {u U : State} (h : strs K u) (e : u.vm = U.vm) : strs K U := by
  have ha : u.vm.Alike U.vm := by rw [e]; exact Vm.Alike.refl _
  exact ⟨h.1.moved ha, h.2.1.moved ha, h.2.2.1.moved ha, h.2.2.2.1.moved ha, h.2.2.2.2.1.same e.symm, h.2.2.2.2.2.1.moved ha, h.2.2.2.2.2.2.moved ha⟩
/-- what holds of the tables and of what lies outside, in every state -/
def cxs (K : CX) (U : State) : Prop := va_K (cD K) classes (tysK K) U ∧ nst U ∧ va_Z "FractionRun" "PRIMES" "[I" (.ref (K.2.1 1)) (cA K) U K.1.heap ∧ (va_T .int (K.2.1 0) (K.2.2.1 0).1 (fun j => .int ((K.2.2.1 0).2 j)) (cA K) U K.1.heap ∧ va_T .int (K.2.1 1) 6 (fun j => .int (prA j)) (cA K) U K.1.heap) ∧ va_AO "FractionRun$State" U ∧ va_AO "FractionRun$Text" U ∧ strs K U
theorem cxs.warm {K : CX} {s U : State} (h : cxs K s) (hW : s.WarmedH U.vm) : cxs K U := ⟨va_K.moved hW.alike h.1, h.2.1.warm hW, h.2.2.1.moved hW.alike, ⟨h.2.2.2.1.1.moved hW.alike, h.2.2.2.1.2.moved hW.alike⟩, h.2.2.2.2.1.moved hW.alike, h.2.2.2.2.2.1.moved hW.alike, h.2.2.2.2.2.2.warm hW⟩
theorem nst.same {u U : State} (h : nst u) (e : u.vm = U.vm) : nst U := ⟨fun q hq => va_Nw.same rfl e (h.1 q hq), va_Nw.same rfl e h.2⟩
/-- what holds all along in a frame of the method y -/
def Stn (K : CX) (y : MR) (p : Program) (s : State) (m : MethodId) (args : Array Value) (meth : Method) (c : Code) : Prop :=
  p.tables.exec = Jvm.exec ∧ c.code = y.2.1 ∧ c.maxLocals = y.2.2.1 ∧ s.vm.findClass y.1.cls = some m.cls ∧ (∀ w ∈ wsM y, w.before args s = true) ∧ meth.sig.returnType = y.2.2.2 ∧ meth.locks = false ∧ meth.name = y.1.name ∧ cxs K s ∧ (cB K ≤ s.heap.size ∧ ∀ q, q < cB K → s.heap[q]? = K.1.heap[q]?)
/-- the locals -/
def lok (K : CX) (L : List (Option Value)) (ls : Array Slot) : Prop := ls.size = L.length ∧ lv_wf ls ∧ ∀ (i : Nat) (v : Value), L[i]? = some (some v) → ls[i]? = some (.val (cv K v))
def QW (K : CX) (r : Option Value) (w : XW) : Array Value → State → Outcome → State → Prop := fun _ _ o t => o = .returned (r.map (cv K)) ∧ rep K w t.heap
def WP (K : CX) (l : Launch) (y : MR) (fr lo n0 k0 : Nat) (r : Option Value) (w' : XW) (pc : Nat) (L : List (Option Value)) (S : List Value) (w : XW) : Prop :=
  w.1 ≤ w'.1 ∧ w.2.1 ≤ w'.2.1 ∧ (n0 ≤ w.1 → k0 ≤ w.2.1 → ∀ (p : Program) (e : Env) (s : State) (m : MethodId) (args : Array Value) (below : List Frame) (meth : Method) (c : Code) (H : Heap) (locs : List Loc) (ls : Array Slot) (R : Room), fr ≤ R.frames → lo ≤ R.locals → w'.1 - n0 ≤ R.cells → w'.2.1 - k0 ≤ R.slots →
    Stn K y p s m args meth c → rep K w H → (∀ q ∈ locs, cA K q.base) → lok K L ls →
    W p l e R s m args below meth c H locs (w.1 - n0) (w.2.1 - k0) (MQ below (QW K r w') args s (w'.1 - n0) (w'.2.1 - k0) (cA K)) (F0 m pc ls (S.map (cv K))))
def PM (K : CX) (as : List Value) (w : XW) : Array Value → State → Prop := fun v U => v = (as.map (cv K)).toArray ∧ rep K w U.heap ∧ cxs K U
def MT (K : CX) (l : Launch) (y : MR) (fr lo : Nat) (as : List Value) (w : XW) (r : Option Value) (w' : XW) : Prop :=
  w.1 ≤ w'.1 ∧ w.2.1 ≤ w'.2.1 ∧ Met l y.1 (wsM y) ({ frames := fr, cells := w'.1 - w.1, slots := w'.2.1 - w.2.1, locals := lo } : Room) (PM K as w) (QW K r w') (w'.1 - w.1) (w'.2.1 - w.2.1) (cA K)
section WPR
variable {K : CX} {l : Launch} {y : MR} {fr lo n0 k0 : Nat} {r : Option Value} {w' : XW} {pc : Nat} {L L1 : List (Option Value)} {S S1 : List Value} {w w1 : XW} {pc1 : Nat}
theorem WP.lift (h1 : w.1 ≤ w1.1) (h2 : w.2.1 ≤ w1.2.1)
    (h : ∀ (p : Program) (e : Env) (s : State) (m : MethodId) (args : Array Value) (below : List Frame) (meth : Method) (c : Code) (H : Heap) (locs : List Loc) (ls : Array Slot) (R : Room) (Q : State → Prop), Stn K y p s m args meth c → rep K w H → (∀ q ∈ locs, cA K q.base) → lok K L ls → fr ≤ R.frames → lo ≤ R.locals → w1.1 - n0 ≤ R.cells → w1.2.1 - k0 ≤ R.slots → n0 ≤ w.1 → k0 ≤ w.2.1 →
      (∀ (H1 : Heap) (locs1 : List Loc) (ls1 : Array Slot), rep K w1 H1 → (∀ q ∈ locs1, cA K q.base) → lok K L1 ls1 → W p l e R s m args below meth c H1 locs1 (w1.1 - n0) (w1.2.1 - k0) Q (F0 m pc1 ls1 (S1.map (cv K)))) →
      W p l e R s m args below meth c H locs (w.1 - n0) (w.2.1 - k0) Q (F0 m pc ls (S.map (cv K))))
    (k : WP K l y fr lo n0 k0 r w' pc1 L1 S1 w1) : WP K l y fr lo n0 k0 r w' pc L S w := by
  obtain ⟨a1, a2, a3⟩ := k
  refine ⟨Nat.le_trans h1 a1, Nat.le_trans h2 a2, fun b1 b2 p e s m args below meth c H locs ls R r1 r2 r3 r4 X hr hl hL => ?_⟩
  exact h p e s m args below meth c H locs ls R _ X hr hl hL r1 r2 (Nat.le_trans (Nat.sub_le_sub_right a1 n0) r3) (Nat.le_trans (Nat.sub_le_sub_right a2 k0) r4) b1 b2 (fun H1 locs1 ls1 g1 g2 g3 => a3 (Nat.le_trans b1 h1) (Nat.le_trans b2 h2) p e s m args below meth c H1 locs1 ls1 R r1 r2 r3 r4 X g1 g2 g3)
/-- a row of the machine that touches neither heap nor locals -/
theorem WP.go (h : ∀ (p : Program) (e : Env) (s : State) (m : MethodId) (args : Array Value) (below : List Frame) (meth : Method) (c : Code) (H : Heap) (locs : List Loc) (ls : Array Slot) (R : Room) (cells slots : Nat) (Q : State → Prop), Stn K y p s m args meth c → rep K w H → lok K L ls →
      W p l e R s m args below meth c H locs cells slots Q (F0 m pc1 ls (S1.map (cv K))) → W p l e R s m args below meth c H locs cells slots Q (F0 m pc ls (S.map (cv K))))
    (k : WP K l y fr lo n0 k0 r w' pc1 L S1 w) : WP K l y fr lo n0 k0 r w' pc L S w :=
  WP.lift (Nat.le_refl _) (Nat.le_refl _) (fun p e s m args below meth c H locs ls R Q X hr hl hL _ _ _ _ _ _ kk => h p e s m args below meth c H locs ls R _ _ Q X hr hL (kk H locs ls hr hl hL)) k
def lsub : List (Option Value) → List (Option Value) → Prop
  | [], [] => True
  | none :: a, _ :: b => lsub a b
  | some v :: a, some v' :: b => v = v' ∧ lsub a b
  | _, _ => False
theorem lsub_spec : ∀ (a b : List (Option Value)), lsub a b → a.length = b.length ∧ ∀ (i : Nat) (v : Value), a[i]? = some (some v) → b[i]? = some (some v)
  | [], [], _ => ⟨rfl, fun i v h => by simp at h⟩
  | [], _ :: _, h => h.elim
  | none :: a, [], h => h.elim
  | some _ :: a, [], h => h.elim
  | some _ :: a, none :: b, h => h.elim
  | none :: a, x :: b, h => by
    obtain ⟨h1, h2⟩ := lsub_spec a b h
    refine ⟨by simp [h1], fun i v hi => ?_⟩
    cases i with
    | zero => simp at hi
    | succ i => rw [List.getElem?_cons_succ] at hi ⊢; exact h2 i v hi
  | some v0 :: a, some v1 :: b, h => by
    obtain ⟨h0, h⟩ := h
    obtain ⟨h1, h2⟩ := lsub_spec a b h
    refine ⟨by simp [h1], fun i v hi => ?_⟩
    cases i with
    | zero => rw [List.getElem?_cons_zero] at hi ⊢; rw [← h0]; exact hi
    | succ i => rw [List.getElem?_cons_succ] at hi ⊢; exact h2 i v hi
/-- fewer locals -/
theorem WP.weak (hs : lsub L1 L) (k : WP K l y fr lo n0 k0 r w' pc L1 S w) : WP K l y fr lo n0 k0 r w' pc L S w := by
  obtain ⟨e1, e2⟩ := lsub_spec _ _ hs
  exact WP.lift (Nat.le_refl _) (Nat.le_refl _) (fun p e s m args below meth c H locs ls R Q X hr hl hL _ _ _ _ _ _ kk => kk H locs ls hr hl ⟨hL.1.trans e1.symm, hL.2.1, fun i v h => hL.2.2 i v (e2 i v h)⟩) k
theorem wp_iconst {n : Int} {v : Int32} (hd : decode y.2.1 pc = .ok (.iconst n, 1)) (hv : Int32.ofInt n = v) (k : WP K l y fr lo n0 k0 r w' (pc + 1) L (.int v :: S) w) : WP K l y fr lo n0 k0 r w' pc L S w :=
  WP.go (fun p e s m args below meth c H locs ls R cells slots Q X hr hL kk => lv_iconst X.1 X.2.1 hd hv kk) k
theorem wp_bipush {n : Int} {v : Int32} (hd : decode y.2.1 pc = .ok (.bipush n, 2)) (hv : (Int8.ofInt n).toInt32 = v) (k : WP K l y fr lo n0 k0 r w' (pc + 2) L (.int v :: S) w) : WP K l y fr lo n0 k0 r w' pc L S w :=
  WP.go (fun p e s m args below meth c H locs ls R cells slots Q X hr hL kk => lv_bipush X.1 X.2.1 hd hv kk) k
theorem wp_sipush {n : Int} {v : Int32} (hd : decode y.2.1 pc = .ok (.sipush n, 3)) (hv : (Int16.ofInt n).toInt32 = v) (k : WP K l y fr lo n0 k0 r w' (pc + 3) L (.int v :: S) w) : WP K l y fr lo n0 k0 r w' pc L S w :=
  WP.go (fun p e s m args below meth c H locs ls R cells slots Q X hr hL kk => lv_sipush X.1 X.2.1 hd hv kk) k
theorem wp_lconst {n : Fin 2} {v : Int64} (hd : decode y.2.1 pc = .ok (.lconst n, 1)) (hv : Int64.ofNat (n : Nat) = v) (k : WP K l y fr lo n0 k0 r w' (pc + 1) L (.long v :: S) w) : WP K l y fr lo n0 k0 r w' pc L S w :=
  WP.go (fun p e s m args below meth c H locs ls R cells slots Q X hr hL kk => lv_lconst X.1 X.2.1 hd hv kk) k
theorem wp_ldc {i : Nat} {v : Int32} (hc : Cond.constant y.1.cls i v ∈ TBL) (hd : decode y.2.1 pc = .ok (.ldc i, 2)) (k : WP K l y fr lo n0 k0 r w' (pc + 2) L (.int v :: S) w) : WP K l y fr lo n0 k0 r w' pc L S w :=
  WP.go (fun p e s m args below meth c H locs ls R cells slots Q X hr hL kk => lv_ldc X.1 X.2.1 X.2.2.2.1 (X.2.2.2.2.1 _ (wsM_in hc)) hd kk) k
theorem wp_ldc2 {i : Nat} {v : Int64} (hc : Cond.constantLong y.1.cls i v ∈ TBL) (hd : decode y.2.1 pc = .ok (.ldc2_w i, 3)) (k : WP K l y fr lo n0 k0 r w' (pc + 3) L (.long v :: S) w) : WP K l y fr lo n0 k0 r w' pc L S w :=
  WP.go (fun p e s m args below meth c H locs ls R cells slots Q X hr hL kk => lv_ldc2 X.1 X.2.1 X.2.2.2.1 (X.2.2.2.2.1 _ (wsM_in hc)) hd kk) k
theorem wp_iload_n {j : Fin 4} {x : Int32} (hd : decode y.2.1 pc = .ok (.iload_n j, 1)) (h : L[(j : Nat)]? = some (some (.int x))) (k : WP K l y fr lo n0 k0 r w' (pc + 1) L (.int x :: S) w) : WP K l y fr lo n0 k0 r w' pc L S w :=
  WP.go (fun p e s m args below meth c H locs ls R cells slots Q X hr hL kk => lv_iload_n X.1 X.2.1 hd rfl (hL.2.2 _ _ h) kk) k
theorem wp_iload {i : Nat} {x : Int32} (hd : decode y.2.1 pc = .ok (.iload i, 2)) (h : L[i]? = some (some (.int x))) (k : WP K l y fr lo n0 k0 r w' (pc + 2) L (.int x :: S) w) : WP K l y fr lo n0 k0 r w' pc L S w :=
  WP.go (fun p e s m args below meth c H locs ls R cells slots Q X hr hL kk => lv_iload X.1 X.2.1 hd (hL.2.2 _ _ h) kk) k
theorem wp_lload_n {j : Fin 4} {x : Int64} (hd : decode y.2.1 pc = .ok (.lload_n j, 1)) (h : L[(j : Nat)]? = some (some (.long x))) (k : WP K l y fr lo n0 k0 r w' (pc + 1) L (.long x :: S) w) : WP K l y fr lo n0 k0 r w' pc L S w :=
  WP.go (fun p e s m args below meth c H locs ls R cells slots Q X hr hL kk => lv_lload_n X.1 X.2.1 hd rfl (hL.2.2 _ _ h) kk) k
theorem wp_lload {i : Nat} {x : Int64} (hd : decode y.2.1 pc = .ok (.lload i, 2)) (h : L[i]? = some (some (.long x))) (k : WP K l y fr lo n0 k0 r w' (pc + 2) L (.long x :: S) w) : WP K l y fr lo n0 k0 r w' pc L S w :=
  WP.go (fun p e s m args below meth c H locs ls R cells slots Q X hr hL kk => lv_lload X.1 X.2.1 hd (hL.2.2 _ _ h) kk) k
theorem wp_aload_n {j : Fin 4} {x : Nat} (hd : decode y.2.1 pc = .ok (.aload_n j, 1)) (h : L[(j : Nat)]? = some (some (.ref x))) (k : WP K l y fr lo n0 k0 r w' (pc + 1) L (.ref x :: S) w) : WP K l y fr lo n0 k0 r w' pc L S w :=
  WP.go (fun p e s m args below meth c H locs ls R cells slots Q X hr hL kk => lv_aload_n X.1 X.2.1 hd rfl (hL.2.2 _ _ h) kk) k
theorem wp_aload {i : Nat} {x : Nat} (hd : decode y.2.1 pc = .ok (.aload i, 2)) (h : L[i]? = some (some (.ref x))) (k : WP K l y fr lo n0 k0 r w' (pc + 2) L (.ref x :: S) w) : WP K l y fr lo n0 k0 r w' pc L S w :=
  WP.go (fun p e s m args below meth c H locs ls R cells slots Q X hr hL kk => lv_aload X.1 X.2.1 hd (hL.2.2 _ _ h) kk) k
theorem wp_xload_n {j : Fin 4} {x : UInt32} (hd : decode y.2.1 pc = .ok (.aload_n j, 1)) (h : L[(j : Nat)]? = some (some (.float x))) (k : WP K l y fr lo n0 k0 r w' (pc + 1) L (.float x :: S) w) : WP K l y fr lo n0 k0 r w' pc L S w :=
  WP.go (fun p e s m args below meth c H locs ls R cells slots Q X hr hL kk => lv_aload_n X.1 X.2.1 hd rfl (hL.2.2 _ _ h) kk) k
end WPR
