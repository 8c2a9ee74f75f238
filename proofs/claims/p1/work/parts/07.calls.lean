/-! new cells, calls, answers -/
section CL
variable {K : CX} {l : Launch} {y : MR} {fr lo n0 k0 : Nat} {r : Option Value} {w' : XW} {pc : Nat} {L L1 : List (Option Value)} {S S1 : List Value} {w w1 : XW} {pc1 : Nat}
theorem wp_new {ci idx : Nat} {C : String} {T : u_T} {N : Nat} {ty : Nat → FieldType} {fs : List Value} (ok : okc ci C T N ty) (hcl : Cond.classLink y.1.cls idx C ∈ TBL) (hins : Cond.instantiable C N ∈ TBL) (hini : Cond.initialized C ∈ TBL) (hd : decode y.2.1 pc = .ok (.new idx, 3)) (hfs : ∀ j, j < N → defaultValue (ty j) = vp_V fs j) (hcv : fs.map (cv K) = fs)
    (kk : WP K l y fr lo n0 k0 r w' (pc + 3) L (.ref w.1 :: S) (xpush w N (xo ci fs))) : WP K l y fr lo n0 k0 r w' pc L S w := by
  refine WP.lift (w1 := xpush w N (xo ci fs)) (Nat.le_succ _) (Nat.le_add_right _ _) (fun p e s m args below meth c H locs ls R Q X hr hlo hL _ _ c1 c2 c3 c4 k1 => ?_) kk
  have hKn := X.2.2.2.2.2.2.2.2.1.1.1 ci _ ok.1
  have d1 : (w.1 + 1) - n0 ≤ R.cells := c1
  have d2 : (w.2.1 + N) - k0 ≤ R.slots := c2
  refine W.newcK X.1 X.2.1 X.2.2.2.1 (X.wd hcl) (X.wd hins) (X.wd hini) rfl hd (by omega) (by omega) hKn.2.1 rfl fun H1 kC hkC e1 z1 o1 => ?_
  refine W.cs (cells' := (w.1 + 1) - n0) (slots' := (w.2.1 + N) - k0) (by omega) (by omega) ?_
  have hob := (u_born ty X.2.2.2.2.1 (fun u hu => wsM_in (ok.2.1 u hu)) hKn hkC e1 ok.2.2.1).to hfs
  have hrep : rep K (xpush w N (xo ci fs)) H1 := hr.push z1 ⟨_, ok.1, by rw [hcv]; exact hob⟩ o1
  have hk := k1 H1 locs ls hrep hlo hL
  rw [hr.1]
  exact hk
theorem wp_newa {t : Nat} {atype : ArrayType} {ty : FieldType} {n : Int32} {N : Nat} {cx : XC} (hty : newarray.typeOf atype = ty) (ht : (tysK K)[t]? = some (cI K t, ty)) (hra : ∀ (U : State) (c : ClassId), va_RA U c ty → U.vm.findClass ("[" ++ ty.toString) = some c) (hac : Cond.arrayClass ty ∈ TBL) (hd : decode y.2.1 pc = .ok (.newarray atype, 2)) (hn : ¬ n < 0) (hN : n.toNatClampNeg = N) (hby : N * componentBytes ty ≤ 536870912) (hcx : ∀ (a : Nat) (H : Heap), H[a]? = some (arrV (cI K t) N (fun _ => defaultValue ty)) → xcell K a cx H)
    (kk : WP K l y fr lo n0 k0 r w' (pc + 2) L (.ref w.1 :: S) (xpush w N cx)) : WP K l y fr lo n0 k0 r w' pc L (.int n :: S) w := by
  subst hty
  refine WP.lift (w1 := xpush w N cx) (Nat.le_succ _) (Nat.le_add_right _ _) (fun p e s m args below meth c H locs ls R Q X hr hlo hL _ _ c1 c2 c3 c4 k1 => ?_) kk
  have d1 : (w.1 + 1) - n0 ≤ R.cells := c1
  have d2 : (w.2.1 + N) - k0 ≤ R.slots := c2
  refine va_newaK X.1 X.2.1 (X.wd hac) rfl hd rfl hn hN hby (by omega) (by omega) rfl fun H1 cA0 e1 z1 o1 hAr hNm => ?_
  refine W.cs (cells' := (w.1 + 1) - n0) (slots' := (w.2.1 + N) - k0) (by omega) (by omega) ?_
  have hc := Option.some.inj (hNm.symm.trans (hra s _ (X.2.2.2.2.2.2.2.2.1.1.2 t _ ht).2))
  rw [hc] at e1
  have hk := k1 H1 locs ls (hr.push z1 (hcx _ _ e1) o1) hlo hL
  rw [hr.1]
  exact hk
theorem wp_newI {n : Int32} {N : Nat} (hac : Cond.arrayClass .int ∈ TBL) (hd : decode y.2.1 pc = .ok (.newarray .int, 2)) (hn : ¬ n < 0) (hN : n.toNatClampNeg = N) (hby : N * componentBytes .int ≤ 536870912) (kk : WP K l y fr lo n0 k0 r w' (pc + 2) L (.ref w.1 :: S) (xpush w N (xi 0 N (fun _ => 0)))) : WP K l y fr lo n0 k0 r w' pc L (.int n :: S) w :=
  wp_newa (t := 0) (ty := .int) (cx := xi 0 N (fun _ => 0)) rfl rfl (fun _ _ h => h) hac hd hn hN hby (fun _ _ h => h) kk
theorem wp_newC {n : Int32} {N : Nat} (hac : Cond.arrayClass .char ∈ TBL) (hd : decode y.2.1 pc = .ok (.newarray .char, 2)) (hn : ¬ n < 0) (hN : n.toNatClampNeg = N) (hby : N * componentBytes .char ≤ 536870912) (kk : WP K l y fr lo n0 k0 r w' (pc + 2) L (.ref w.1 :: S) (xpush w N (xi 1 N (fun _ => 0)))) : WP K l y fr lo n0 k0 r w' pc L (.int n :: S) w :=
  wp_newa (t := 1) (ty := .char) (cx := xi 1 N (fun _ => 0)) rfl rfl (fun _ _ h => h) hac hd hn hN hby (fun _ _ h => h) kk
theorem wp_newB {n : Int32} {N : Nat} (hac : Cond.arrayClass .byte ∈ TBL) (hd : decode y.2.1 pc = .ok (.newarray .byte, 2)) (hn : ¬ n < 0) (hN : n.toNatClampNeg = N) (hby : N * componentBytes .byte ≤ 536870912) (kk : WP K l y fr lo n0 k0 r w' (pc + 2) L (.ref w.1 :: S) (xpush w N (xi 2 N (fun _ => 0)))) : WP K l y fr lo n0 k0 r w' pc L (.int n :: S) w :=
  wp_newa (t := 2) (ty := .byte) (cx := xi 2 N (fun _ => 0)) rfl rfl (fun _ _ h => h) hac hd hn hN hby (fun _ _ h => h) kk
theorem wp_newJ {n : Int32} {N : Nat} (hac : Cond.arrayClass .long ∈ TBL) (hd : decode y.2.1 pc = .ok (.newarray .long, 2)) (hn : ¬ n < 0) (hN : n.toNatClampNeg = N) (hby : N * componentBytes .long ≤ 536870912) (kk : WP K l y fr lo n0 k0 r w' (pc + 2) L (.ref w.1 :: S) (xpush w N (xl N (fun _ => 0)))) : WP K l y fr lo n0 k0 r w' pc L (.int n :: S) w :=
  wp_newa (t := 3) (ty := .long) (cx := xl N (fun _ => 0)) rfl rfl (fun _ _ h => h) hac hd hn hN hby (fun _ _ h => h) kk
theorem wp_newQ {t idx : Nat} {C : String} {n : Int32} {N : Nat} (ht : (tysK K)[4 + t]? = some (cI K (4 + t), .object C)) (hao : ∀ U : State, cxs K U → va_AO C U) (hcl : Cond.classLink y.1.cls idx C ∈ TBL) (hd : decode y.2.1 pc = .ok (.anewarray idx, 3)) (hn : ¬ n < 0) (hN : n.toNatClampNeg = N) (hby : N * 4 ≤ 536870912) (kk : WP K l y fr lo n0 k0 r w' (pc + 3) L (.ref w.1 :: S) (xpush w N (xr t N (fun _ => none)))) : WP K l y fr lo n0 k0 r w' pc L (.int n :: S) w := by
  subst hN
  refine WP.lift (w1 := xpush w n.toNatClampNeg (xr t n.toNatClampNeg (fun _ => none))) (Nat.le_succ _) (Nat.le_add_right _ _) (fun p e s m args below meth c H locs ls R Q X hr hlo hL _ _ c1 c2 c3 c4 k1 => ?_) kk
  have d1 : (w.1 + 1) - n0 ≤ R.cells := c1
  have d2 : (w.2.1 + n.toNatClampNeg) - k0 ≤ R.slots := c2
  refine W.anew X.1 X.2.1 X.2.2.2.1 (X.wd hcl) (va_AO.use (hao s X.2.2.2.2.2.2.2.2.1)) rfl hd rfl hn hby (by omega) (by omega) fun cA0 kA comp f1 f2 f3 f4 => ?_
  refine W.cs (cells' := (w.1 + 1) - n0) (slots' := (w.2.1 + n.toNatClampNeg) - k0) (by omega) (by omega) ?_
  obtain ⟨kA', comp', a1, a2, a3, a4⟩ := (X.2.2.2.2.2.2.2.2.1.1.2 (4 + t) _ ht).2
  have hc : cA0 = cI K (4 + t) := Option.some.inj (f1.symm.trans a4)
  subst hc
  generalize hH1 : H.push ({ cls := cI K (4 + t), slots := Array.replicate n.toNatClampNeg .null, vm := .none } : Cell) = H1
  have z1 : H1.size = H.size + 1 := by rw [← hH1, Array.size_push]
  have e1 : H1[H.size]? = some (arrV (cI K (4 + t)) n.toNatClampNeg (fun _ => .null)) := by rw [← hH1, Array.getElem?_push_size, ← arrV_new]
  have o1 : ∀ q : Nat, q < H.size → H1[q]? = H[q]? := fun q hq => by rw [← hH1, Array.getElem?_push, if_neg (Nat.ne_of_lt hq)]
  have hk := k1 H1 locs ls (hr.push z1 e1 o1) hlo hL
  rw [hr.1]
  exact hk
theorem cxs.same {u U : State} (h : cxs K u) (e : u.vm = U.vm) : cxs K U := by
  have ha : u.vm.Alike U.vm := by rw [e]; exact Vm.Alike.refl _
  exact ⟨va_K.moved ha h.1, h.2.1.same e, h.2.2.1.moved ha, ⟨h.2.2.2.1.1.moved ha, h.2.2.2.1.2.moved ha⟩, h.2.2.2.2.1.moved ha, h.2.2.2.2.2.1.moved ha, h.2.2.2.2.2.2.same e⟩
theorem PM.blind {as : List Value} : FrameBlind (PM K as w) := fun a U g mk q => ⟨q.1, q.2.1, q.2.2.same rfl⟩
theorem scat : ((S.map (cv K)).map fun v => v.category).sum = (S.map fun v => v.category).sum := by
  rw [List.map_map]
  congr 1
  apply List.map_congr_left
  intro v _
  exact cv_cat v
theorem call_go {p : Program} {e : Env} {R : Room} {s : State} {m : MethodId} {args : Array Value} {below : List Frame} {meth : Method} {c : Code} {H : Heap} {locs : List Loc} {cells slots mc ms : Nat} {Q : State → Prop} {ls : Array Slot} {st0 rest : List Value} {a : Array Value} {rv : Option Value}
    (hr : va_Run p l e R s m args below meth c H locs cells slots mc ms (F0 m pc ls st0) rest (QW K rv w1 a) (cA K)) (hl : ∀ q ∈ locs, cA K q.base)
    (kk : ∀ (H1 : Heap) (locs1 : List Loc), rep K w1 H1 → (∀ q ∈ locs1, cA K q.base) → W p l e R s m args below meth c H1 locs1 (cells + mc) (slots + ms) Q (F0 m (pc + 3) ls ((rv.map (cv K)).toList ++ rest))) : W p l e R s m args below meth c H locs cells slots Q (F0 m pc ls st0) := by
  intro T hT X
  obtain ⟨v, st₀, t, T', L, h0, X', hL, e1, e2, hq, st⟩ := hr T hT X
  obtain ⟨hv, hrep⟩ := hq
  have hv' : v = rv.map (cv K) := Outcome.returned.inj hv
  subst hv'
  obtain ⟨t2, a1, b1⟩ := kk T'.heap (locs ++ L) (by rw [e1]; exact hrep) (fun q hq => by
    rcases List.mem_append.mp hq with h | h
    · exact hl q h
    · exact hL q h) T' rfl X'
  exact ⟨t2, st t2 a1, b1⟩
/-- a method's rows, as the tables have them -/
def okM (z : MR) (n : Nat) : Prop := cdw z ∈ TBL ∧ Cond.initialized z.1.cls ∈ TBL ∧ z.1.cls ≠ "java/lang/invoke/MethodHandle" ∧ z.1.cls ≠ "java/lang/invoke/VarHandle" ∧ (parseMethodDescriptor z.1.desc).map (fun d => d.parameters.length) = some n
theorem tol {rv : Option Value} : (rv.toList ++ S).map (cv K) = (rv.map (cv K)).toList ++ S.map (cv K) := by cases rv <;> rfl
theorem wp_callV {z : MR} {fz lz nz idx i ci : Nat} {q0 : vw_C} {As : List Value} {fs : List Value} {rv : Option Value} (okz : okM z nz) (him : Cond.instanceMethod z.1 ∈ TBL) (hse : Cond.selects z.1.cls z.1 z.1 ∈ TBL) (hl : Cond.methodLink y.1.cls idx z.1 ∈ TBL) (hx : xat w i (xo ci fs)) (hci : classes[ci]? = some q0) (hq0 : q0.1 = z.1.cls) (hn : As.length = nz) (hf : fz + 1 ≤ fr ∧ 8 + (z.2.2.1 + 11) + lz ≤ lo) (hS : (S.map fun v => v.category).sum ≤ 8) (hLn : L.length = y.2.2.1) (hd : decode y.2.1 pc = .ok (.invokevirtual idx, 3)) (hM : MT K l z fz lz (.ref i :: As) w rv w1)
    (kk : WP K l y fr lo n0 k0 r w' (pc + 3) L (rv.toList ++ S) w1) : WP K l y fr lo n0 k0 r w' pc L (As.reverse ++ .ref i :: S) w := by
  refine WP.lift hM.1 hM.2.1 (fun p e s m args below meth c H locs ls R Q X hr hlo hL f1 f2 c1 c2 c3 c4 k1 => ?_) kk
  have g1 := hM.1
  have g2 := hM.2.1
  have hcell := hr.at hx
  obtain ⟨rr, a1, cell, q1, q2, q3, q4⟩ := hcell
  have hrr : rr = q0 := Option.some.inj (a1.symm.trans hci)
  subst hrr
  have hcls := (X.2.2.2.2.2.2.2.2.1.1.1 ci _ hci).2.1
  refine call_go (mc := w1.1 - w.1) (ms := w1.2.1 - w.2.1) (rest := S.map (cv K)) (va_runV (C := z.1.cls) (b := cB K + i) (As := As.map (cv K)) (n := nz) (nL := y.2.2.1) (Ts := wsM y) (own := y.1.cls) (index := idx) ⟨X.1, X.2.1, X.2.2.1, X.2.2.2.1, X.2.2.2.2.1⟩ hM.2.2 ⟨callB_of nz X.2.2.2.2.1 (wsM_good okz.1) rfl rfl rfl (X.wd okz.2.1) (X.wd hl) okz.2.2 ⟨Nat.le_trans hf.1 f1, Nat.le_trans hf.2 f2⟩, X.wd him, X.wd hse⟩ ⟨PM.blind, ⟨cell, q1, by rw [q3]; rfl, by rw [q2, ← hq0]; exact hcls⟩, fun U hU hW => ⟨rfl, by rw [hU]; exact hr, X.2.2.2.2.2.2.2.2.1.warm hW⟩⟩ rfl (by rw [List.length_map]; exact hn) (hL.1.trans hLn) (by show (As.reverse ++ .ref i :: S).map (cv K) = _; rw [List.map_append, List.map_reverse]; rfl) (lv_room (by rw [scat]; exact hS)) hd ⟨by omega, by omega⟩) hlo (fun H1 locs1 h1 h2 => ?_)
  rw [← tol]
  exact W.cs (by omega) (by omega) (k1 H1 locs1 ls h1 h2 hL)
theorem wp_callS {z : MR} {fz lz nz idx : Nat} {As : List Value} {rv : Option Value} (okz : okM z nz) (hst : Cond.static z.1 ∈ TBL) (hl : Cond.methodLink y.1.cls idx z.1 ∈ TBL) (hn : As.length = nz) (hf : fz + 1 ≤ fr ∧ 8 + (z.2.2.1 + 11) + lz ≤ lo) (hS : (S.map fun v => v.category).sum ≤ 8) (hLn : L.length = y.2.2.1) (hd : decode y.2.1 pc = .ok (.invokestatic idx, 3)) (hM : MT K l z fz lz As w rv w1)
    (kk : WP K l y fr lo n0 k0 r w' (pc + 3) L (rv.toList ++ S) w1) : WP K l y fr lo n0 k0 r w' pc L (As.reverse ++ S) w := by
  refine WP.lift hM.1 hM.2.1 (fun p e s m args below meth c H locs ls R Q X hr hlo hL f1 f2 c1 c2 c3 c4 k1 => ?_) kk
  have g1 := hM.1
  have g2 := hM.2.1
  refine call_go (mc := w1.1 - w.1) (ms := w1.2.1 - w.2.1) (rest := S.map (cv K)) (va_runS (As := As.map (cv K)) (n := nz) (nL := y.2.2.1) (Ts := wsM y) (own := y.1.cls) (index := idx) ⟨X.1, X.2.1, X.2.2.1, X.2.2.2.1, X.2.2.2.2.1⟩ hM.2.2 ⟨callB_of nz X.2.2.2.2.1 (wsM_good okz.1) rfl rfl rfl (X.wd okz.2.1) (X.wd hl) okz.2.2 ⟨Nat.le_trans hf.1 f1, Nat.le_trans hf.2 f2⟩, X.wd hst⟩ ⟨PM.blind, fun U hU hW => ⟨rfl, by rw [hU]; exact hr, X.2.2.2.2.2.2.2.2.1.warm hW⟩⟩ rfl (by rw [List.length_map]; exact hn) (hL.1.trans hLn) (by show (As.reverse ++ S).map (cv K) = _; rw [List.map_append, List.map_reverse]) (lv_room (by rw [scat]; exact hS)) hd ⟨by omega, by omega⟩) hlo (fun H1 locs1 h1 h2 => ?_)
  rw [← tol]
  exact W.cs (by omega) (by omega) (k1 H1 locs1 ls h1 h2 hL)
theorem wp_callSN {z : MR} {fz lz nz idx : Nat} {As : List Value} {rv : Option Value} (okz : okM z nz) (hst : Cond.static z.1 ∈ TBL) (hl : (y.1.cls, idx, z.1) ∈ NWm) (hn : As.length = nz) (hf : fz + 1 ≤ fr ∧ 8 + (z.2.2.1 + 11) + lz ≤ lo) (hS : (S.map fun v => v.category).sum ≤ 8) (hLn : L.length = y.2.2.1) (hd : decode y.2.1 pc = .ok (.invokestatic idx, 3)) (hM : MT K l z fz lz As w rv w1)
    (kk : WP K l y fr lo n0 k0 r w' (pc + 3) L (rv.toList ++ S) w1) : WP K l y fr lo n0 k0 r w' pc L (As.reverse ++ S) w := by
  refine WP.lift hM.1 hM.2.1 (fun p e s m args below meth c H locs ls R Q X hr hlo hL f1 f2 c1 c2 c3 c4 k1 => ?_) kk
  have g1 := hM.1
  have g2 := hM.2.1
  refine call_go (mc := w1.1 - w.1) (ms := w1.2.1 - w.2.1) (rest := S.map (cv K)) (va_runSN (host := "FractionRun") (As := As.map (cv K)) (n := nz) (nL := y.2.2.1) (Ts := wsM y) (own := y.1.cls) (index := idx) ⟨X.1, X.2.1, X.2.2.1, X.2.2.2.1, X.2.2.2.2.1⟩ hM.2.2 ⟨va_cnB nz X.2.2.2.2.1 (wsM_good okz.1) rfl rfl rfl (X.2.2.2.2.2.2.2.2.1.2.1.1 _ hl) (X.wd okz.2.1) okz.2.2 ⟨Nat.le_trans hf.1 f1, Nat.le_trans hf.2 f2⟩, X.wd hst, trivial⟩ ⟨PM.blind, fun U hU hW => ⟨rfl, by rw [hU]; exact hr, X.2.2.2.2.2.2.2.2.1.warm hW⟩⟩ rfl (by rw [List.length_map]; exact hn) (hL.1.trans hLn) (by show (As.reverse ++ S).map (cv K) = _; rw [List.map_append, List.map_reverse]) (lv_room (by rw [scat]; exact hS)) hd ⟨by omega, by omega⟩) hlo (fun H1 locs1 h1 h2 => ?_)
  rw [← tol]
  exact W.cs (by omega) (by omega) (k1 H1 locs1 ls h1 h2 hL)
theorem wp_callI {z : MR} {fz lz nz idx i : Nat} {As : List Value} (okz : okM z nz) (hz : z.2.2.2 = none) (him : Cond.instanceMethod z.1 ∈ TBL) (hnm : z.1.name = "<init>") (hl : Cond.methodLink y.1.cls idx z.1 ∈ TBL) (hn : As.length = nz) (hf : fz + 1 ≤ fr ∧ 8 + (z.2.2.1 + 11) + lz ≤ lo) (hS : (S.map fun v => v.category).sum ≤ 8) (hLn : L.length = y.2.2.1) (hd : decode y.2.1 pc = .ok (.invokespecial idx, 3)) (hM : MT K l z fz lz (.ref i :: As) w none w1)
    (kk : WP K l y fr lo n0 k0 r w' (pc + 3) L S w1) : WP K l y fr lo n0 k0 r w' pc L (As.reverse ++ .ref i :: S) w := by
  refine WP.lift hM.1 hM.2.1 (fun p e s m args below meth c H locs ls R Q X hr hlo hL f1 f2 c1 c2 c3 c4 k1 => ?_) kk
  have g1 := hM.1
  have g2 := hM.2.1
  refine call_go (rv := none) (mc := w1.1 - w.1) (ms := w1.2.1 - w.2.1) (rest := S.map (cv K)) (va_runI (b := cB K + i) (As := As.map (cv K)) (n := nz) (nL := y.2.2.1) (Ts := wsM y) (own := y.1.cls) (index := idx) ⟨X.1, X.2.1, X.2.2.1, X.2.2.2.1, X.2.2.2.2.1⟩ hM.2.2 ⟨callB_of (ws' := TBL) nz X.2.2.2.2.1 (wsM_good okz.1) (by show cdw z :: TBL = _; rw [← hz]) rfl rfl (X.wd okz.2.1) (X.wd hl) okz.2.2 ⟨Nat.le_trans hf.1 f1, Nat.le_trans hf.2 f2⟩, hnm, X.wd him⟩ ⟨PM.blind, fun U hU hW => ⟨rfl, by rw [hU]; exact hr, X.2.2.2.2.2.2.2.2.1.warm hW⟩⟩ rfl (by rw [List.length_map]; exact hn) (hL.1.trans hLn) (by show (As.reverse ++ .ref i :: S).map (cv K) = _; rw [List.map_append, List.map_reverse]; rfl) (lv_room (by rw [scat]; exact hS)) hd ⟨by omega, by omega⟩) hlo (fun H1 locs1 h1 h2 => ?_)
  exact W.cs (by omega) (by omega) (k1 H1 locs1 ls h1 h2 hL)
theorem wp_callIN {z : MR} {fz lz nz idx i : Nat} {As : List Value} (okz : okM z nz) (hz : z.2.2.2 = none) (him : Cond.instanceMethod z.1 ∈ TBL) (hnm : z.1.name = "<init>") (hl : (y.1.cls, idx, z.1) ∈ NWm) (hn : As.length = nz) (hf : fz + 1 ≤ fr ∧ 8 + (z.2.2.1 + 11) + lz ≤ lo) (hS : (S.map fun v => v.category).sum ≤ 8) (hLn : L.length = y.2.2.1) (hd : decode y.2.1 pc = .ok (.invokespecial idx, 3)) (hM : MT K l z fz lz (.ref i :: As) w none w1)
    (kk : WP K l y fr lo n0 k0 r w' (pc + 3) L S w1) : WP K l y fr lo n0 k0 r w' pc L (As.reverse ++ .ref i :: S) w := by
  refine WP.lift hM.1 hM.2.1 (fun p e s m args below meth c H locs ls R Q X hr hlo hL f1 f2 c1 c2 c3 c4 k1 => ?_) kk
  have g1 := hM.1
  have g2 := hM.2.1
  refine call_go (rv := none) (mc := w1.1 - w.1) (ms := w1.2.1 - w.2.1) (rest := S.map (cv K)) (va_runIN (host := "FractionRun") (b := cB K + i) (As := As.map (cv K)) (n := nz) (nL := y.2.2.1) (Ts := wsM y) (own := y.1.cls) (index := idx) ⟨X.1, X.2.1, X.2.2.1, X.2.2.2.1, X.2.2.2.2.1⟩ hM.2.2 ⟨va_cnB (ws' := TBL) nz X.2.2.2.2.1 (wsM_good okz.1) (by show cdw z :: TBL = _; rw [← hz]) rfl rfl (X.2.2.2.2.2.2.2.2.1.2.1.1 _ hl) (X.wd okz.2.1) okz.2.2 ⟨Nat.le_trans hf.1 f1, Nat.le_trans hf.2 f2⟩, hnm, X.wd him⟩ ⟨PM.blind, fun U hU hW => ⟨rfl, by rw [hU]; exact hr, X.2.2.2.2.2.2.2.2.1.warm hW⟩⟩ rfl (by rw [List.length_map]; exact hn) (hL.1.trans hLn) (by show (As.reverse ++ .ref i :: S).map (cv K) = _; rw [List.map_append, List.map_reverse]; rfl) (lv_room (by rw [scat]; exact hS)) hd ⟨by omega, by omega⟩) hlo (fun H1 locs1 h1 h2 => ?_)
  exact W.cs (by omega) (by omega) (k1 H1 locs1 ls h1 h2 hL)
theorem wp_objI {idx i : Nat} (hl : Cond.methodLink y.1.cls idx Lib.objectInit ∈ TBL) (him : Cond.instanceMethod Lib.objectInit ∈ TBL) (hcd : Cond.code Lib.objectInit ⟨#[0xb1]⟩ 1 none ∈ TBL) (hf : 1 ≤ fr ∧ (S.map fun v => v.category).sum + 12 ≤ lo) (hLn : L.length = y.2.2.1) (hd : decode y.2.1 pc = .ok (.invokespecial idx, 3)) (kk : WP K l y fr lo n0 k0 r w' (pc + 3) L S w) : WP K l y fr lo n0 k0 r w' pc L (.ref i :: S) w := by
  refine WP.lift (Nat.le_refl _) (Nat.le_refl _) (fun p e s m args below meth c H locs ls R Q X hr hlo hL f1 f2 c1 c2 c3 c4 k1 => ?_) kk
  exact W.objInit X.1 X.2.1 X.2.2.2.1 (X.wd hl) (X.wd him) (X.wd hcd) rfl (hL.1.trans (hLn.trans X.2.2.1.symm)) rfl hd (Nat.le_trans hf.1 f1) (by show 2 * 0 + ((S.map (cv K)).map _).sum + 12 ≤ R.locals; rw [scat]; omega) (k1 H locs ls hr hlo hL)
theorem wp_max {idx : Nat} {x y0 : Int32} (hl : Cond.methodLink y.1.cls idx Lib.Math.max.name ∈ TBL) (hst : Cond.static Lib.Math.max.name ∈ TBL) (hini : Cond.initialized "java/lang/Math" ∈ TBL) (hcd : Cond.code Lib.Math.max.name Lib.Math.max.code 2 (some .int) ∈ TBL) (hf : 1 ≤ fr ∧ (S.map fun v => v.category).sum + 13 ≤ lo) (hLn : L.length = y.2.2.1) (hd : decode y.2.1 pc = .ok (.invokestatic idx, 3)) (kk : WP K l y fr lo n0 k0 r w' (pc + 3) L (.int (if x < y0 then y0 else x) :: S) w) : WP K l y fr lo n0 k0 r w' pc L (.int y0 :: .int x :: S) w := by
  refine WP.lift (Nat.le_refl _) (Nat.le_refl _) (fun p e s m args below meth c H locs ls R Q X hr hlo hL f1 f2 c1 c2 c3 c4 k1 => ?_) kk
  exact va_mmax X.1 X.2.1 (by rw [X.2.2.1, ← hLn, hL.1]) X.2.2.2.1 (X.wd hl) (X.wd hst) (X.wd hini) (X.wd hcd) (Nat.le_trans hf.1 f1) (by rw [scat]; exact Nat.le_trans hf.2 f2) c1 c2 hd (k1 H locs ls hr hlo hL)
theorem wp_min {idx : Nat} {x y0 : Int32} (hl : Cond.methodLink y.1.cls idx Lib.Math.min.name ∈ TBL) (hst : Cond.static Lib.Math.min.name ∈ TBL) (hini : Cond.initialized "java/lang/Math" ∈ TBL) (hcd : Cond.code Lib.Math.min.name Lib.Math.min.code 2 (some .int) ∈ TBL) (hf : 1 ≤ fr ∧ (S.map fun v => v.category).sum + 13 ≤ lo) (hLn : L.length = y.2.2.1) (hd : decode y.2.1 pc = .ok (.invokestatic idx, 3)) (kk : WP K l y fr lo n0 k0 r w' (pc + 3) L (.int (if y0 < x then y0 else x) :: S) w) : WP K l y fr lo n0 k0 r w' pc L (.int y0 :: .int x :: S) w := by
  refine WP.lift (Nat.le_refl _) (Nat.le_refl _) (fun p e s m args below meth c H locs ls R Q X hr hlo hL f1 f2 c1 c2 c3 c4 k1 => ?_) kk
  exact va_mmin X.1 X.2.1 (by rw [X.2.2.1, ← hLn, hL.1]) X.2.2.2.1 (X.wd hl) (X.wd hst) (X.wd hini) (X.wd hcd) (Nat.le_trans hf.1 f1) (by rw [scat]; exact Nat.le_trans hf.2 f2) c1 c2 hd (k1 H locs ls hr hlo hL)
theorem wp_iret {x : Int32} (hret : y.2.2.2 = some .int) (hd : decode y.2.1 pc = .ok (.ireturn, 1)) : WP K l y fr lo n0 k0 (some (.int x)) w pc L [.int x] w :=
  ⟨Nat.le_refl _, Nat.le_refl _, fun _ _ p e s m args below meth c H locs ls R _ _ _ _ X hr hlo hL => W.iret (v := x) X.1 X.2.1 (X.2.2.2.2.2.1.trans hret) (fun t ht _ => ⟨rfl, by rw [ht]; exact hr⟩) hlo hd X.2.2.2.2.2.2.1⟩
theorem wp_zret {x : Int32} {ty : FieldType} (hret : y.2.2.2 = some ty) (hn : narrow ty (.int x) = .int x) (hd : decode y.2.1 pc = .ok (.ireturn, 1)) : WP K l y fr lo n0 k0 (some (.int x)) w pc L [.int x] w :=
  ⟨Nat.le_refl _, Nat.le_refl _, fun _ _ p e s m args below meth c H locs ls R _ _ _ _ X hr hlo hL => W.zret (v := x) X.1 X.2.1 (X.2.2.2.2.2.1.trans hret) hn (fun t ht _ => ⟨rfl, by rw [ht]; exact hr⟩) hlo hd X.2.2.2.2.2.2.1⟩
theorem wp_vret (hret : y.2.2.2 = none) (hd : decode y.2.1 pc = .ok (.return_, 1)) : WP K l y fr lo n0 k0 none w pc L [] w :=
  ⟨Nat.le_refl _, Nat.le_refl _, fun _ _ p e s m args below meth c H locs ls R _ _ _ _ X hr hlo hL => W.vret X.1 X.2.1 (X.2.2.2.2.2.1.trans hret) (fun t ht _ => ⟨rfl, by rw [ht]; exact hr⟩) hlo hd X.2.2.2.2.2.2.1⟩
def entL : List Value → List (Option Value)
  | [] => []
  | v :: vs => if v.category = 2 then some v :: none :: entL vs else some v :: entL vs
theorem ent_mem : ∀ (as : List Value) (i0 j : Nat) (v : Value), (entL as)[j]? = some (some v) → (i0 + j, cv K v) ∈ lv_args i0 (as.map (cv K))
  | [], i0, j, v, h => by simp [entL] at h
  | a :: as, i0, j, v, h => by
    simp only [List.map_cons, lv_args, cv_cat]
    simp only [entL] at h
    by_cases hc : a.category = 2
    · rw [if_pos hc] at h ⊢
      match j, h with
      | 0, h => simp at h; subst h; exact List.mem_cons_self
      | 1, h => simp at h
      | j + 2, h =>
        simp at h
        have := ent_mem as (i0 + 2) j v h
        rw [show i0 + (j + 2) = i0 + 2 + j by omega]
        exact List.mem_cons_of_mem _ this
    · rw [if_neg hc] at h ⊢
      match j, h with
      | 0, h => simp at h; subst h; exact List.mem_cons_self
      | j + 1, h =>
        simp at h
        have := ent_mem as (i0 + 1) j v h
        rw [show i0 + (j + 1) = i0 + 1 + j by omega]
        exact List.mem_cons_of_mem _ this
theorem ent_len : ∀ (as : List Value), (entL as).length = (lg_sl (as.map (cv K))).length
  | [] => rfl
  | a :: as => by
    have ih := ent_len as
    simp only [entL, lg_sl, List.map_cons, List.flatMap_cons, List.length_append, cv_cat]
    simp only [lg_sl] at ih
    by_cases hc : a.category = 2
    · simp [hc, ih]; omega
    · simp [hc, ih]; omega
theorem MT.of {as : List Value} (hy : plainName y.1.cls = true) (hlen : (entL as).length ≤ y.2.2.1) (hL : entL as ++ List.replicate (y.2.2.1 - (entL as).length) none = L) (k : WP K l y fr lo w.1 w.2.1 r w' 0 L [] w) : MT K l y fr lo as w r w' := by
  refine ⟨k.1, k.2.1, Met.ofW (cc := y.2.1) (maxL := y.2.2.1) (ret := y.2.2.2) hy rfl ?_⟩
  intro p e s m args below meth c s₁ B hml hv
  obtain ⟨rfl, hrep, hcx⟩ := hv
  have he := lv_entry (as.map (cv K)) (n := y.2.2.1) (by rw [← ent_len]; exact hlen)
  rw [lg_entry_eq]
  generalize hls : (lg_sl (as.map (cv K)) ++ List.replicate (y.2.2.1 - (lg_sl (as.map (cv K))).length) Slot.unset).toArray = ls at he ⊢
  have hlok : lok K L ls := by
    refine ⟨by rw [he.1, ← hL, List.length_append, List.length_replicate]; omega, he.2.1, fun i v hi => ?_⟩
    rw [← hL] at hi
    by_cases hlt : i < (entL as).length
    · rw [List.getElem?_append_left hlt] at hi
      have := ent_mem (K := K) as 0 i v hi
      rw [Nat.zero_add] at this
      exact he.2.2 _ this
    · rw [List.getElem?_append_right (by omega), List.getElem?_replicate] at hi
      split at hi <;> simp at hi
  have h := k.2.2 (Nat.le_refl _) (Nat.le_refl _) p e s m ((as.map (cv K)).toArray) below meth c s.heap [] ls ({ frames := fr, cells := w'.1 - w.1, slots := w'.2.1 - w.2.1, locals := lo } : Room) (Nat.le_refl _) (Nat.le_refl _) (Nat.le_refl _) (Nat.le_refl _) ⟨B.exec, B.bytes, hml, findClass_of_methodNamed B.named, atoms_spec (ws := wsM y) B.pre, B.returns, B.notSynchronized, (name_of_methodNamed B.named B.method).1, hcx, by rw [hrep.1]; omega, hrep.2.2⟩ hrep (fun q hq => by cases hq) hlok
  rw [Nat.sub_self, Nat.sub_self] at h
  exact h
end CL
