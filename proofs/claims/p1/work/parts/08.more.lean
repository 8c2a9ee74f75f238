/-! arraycopy; the String constant; switches -/
def cpI (w : XW) (t i : Nat) (sp : Int32) (j : Nat) (dp n : Int32) : Option XW := match w.2.2 i with
  | .inl q => (match w.2.2 j with
    | .inl o => if i < w.1 ∧ q.1 = t ∧ j < w.1 ∧ o.1 = t ∧ ¬ sp < 0 ∧ ¬ dp < 0 ∧ ¬ n < 0 ∧ sp.toNatClampNeg + n.toNatClampNeg ≤ q.2.1 ∧ dp.toNatClampNeg + n.toNatClampNeg ≤ o.2.1 ∧ (t = 1 → ∀ k, k < n.toNatClampNeg → fits .char (.int (q.2.2 (sp.toNatClampNeg + k))) = true) then some (xput w j (xi t o.2.1 (va_cpy q.2.2 o.2.2 sp.toNatClampNeg dp.toNatClampNeg n.toNatClampNeg))) else none
    | _ => none)
  | _ => none
section MO
variable {K : CX} {l : Launch} {y : MR} {fr lo n0 k0 : Nat} {r : Option Value} {w' : XW} {pc : Nat} {L L1 : List (Option Value)} {S S1 : List Value} {w w1 : XW} {pc1 : Nat}
theorem cpI_spec {t i j : Nat} {sp dp n : Int32} (h : cpI w t i sp j dp n = some w1) : ∃ n1 f n2 g, xat w i (xi t n1 f) ∧ xat w j (xi t n2 g) ∧ ¬ sp < 0 ∧ ¬ dp < 0 ∧ ¬ n < 0 ∧ sp.toNatClampNeg + n.toNatClampNeg ≤ n1 ∧ dp.toNatClampNeg + n.toNatClampNeg ≤ n2 ∧ (t = 1 → ∀ k, k < n.toNatClampNeg → fits .char (.int (f (sp.toNatClampNeg + k))) = true) ∧ w1 = xput w j (xi t n2 (va_cpy f g sp.toNatClampNeg dp.toNatClampNeg n.toNatClampNeg)) := by
  unfold cpI at h
  split at h
  · rename_i q hq
    split at h
    · rename_i o ho
      split at h
      · rename_i hc
        obtain ⟨h1, e1, h3, e2, h5, h6, h7, h8, h9, h10⟩ := hc
        cases h
        refine ⟨q.2.1, q.2.2, o.2.1, o.2.2, ⟨h1, ?_⟩, ⟨h3, ?_⟩, h5, h6, h7, h8, h9, h10, rfl⟩
        · rw [hq, ← e1]
        · rw [ho, ← e2]
      · cases h
    · cases h
  · cases h
theorem wp_copy {t i j idx : Nat} {ty : FieldType} {sp dp n : Int32} (ht : (tysK K)[t]? = some (cI K t, ty)) (hty : ty = .int ∨ (ty = .char ∧ t = 1)) (hl : Cond.methodLink y.1.cls idx arraycopyName ∈ TBL) (hna : Cond.native arraycopyName ∈ TBL) (hst : Cond.static arraycopyName ∈ TBL) (hini : Cond.initialized "java/lang/System" ∈ TBL) (hf : 1 ≤ fr ∧ (S.map fun v => v.category).sum + (nativeFrameWords "java/lang/System" "arraycopy" 5 + 11) ≤ lo) (hLn : L.length = y.2.2.1) (hd : decode y.2.1 pc = .ok (.invokestatic idx, 3)) (h : cpI w t i sp j dp n = some w1)
    (kk : WP K l y fr lo n0 k0 r w' (pc + 3) L S w1) : WP K l y fr lo n0 k0 r w' pc L (.int n :: .int dp :: .ref j :: .int sp :: .ref i :: S) w := by
  obtain ⟨m1, f, m2, g, hx, hxj, h1, h2, h3, h4, h5, h6, rfl⟩ := cpI_spec h
  refine WP.lift (w1 := xput w j _) (Nat.le_refl _) (Nat.le_refl _) (fun p e s m args below meth c H locs ls R Q X hr hlo hL f1 f2 c1 c2 c3 c4 k1 => ?_) kk
  have nn : ∀ z : Int32, ¬ z < 0 → z.toInt = (z.toNatClampNeg : Int) := by
    intro z hz
    have hz0 : (0 : Int) ≤ z.toInt := by
      have := Int32.not_lt.mp hz
      simpa using Int32.le_iff_toInt_le.mp this
    show z.toInt = ((z.toInt.toNat : Nat) : Int)
    omega
  have hK := X.2.2.2.2.2.2.2.2.1.1
  have hc0 : H[cB K + i]? = some (arrV (cI K t) m1 (fun j => .int (f j))) := hr.at hx
  have hc1 : H[cB K + j]? = some (arrV (cI K t) m2 (fun j => .int (g j))) := hr.at hxj
  have hfit : ∀ k, k < n.toNatClampNeg → fits ty (.int (f (sp.toNatClampNeg + k))) = true := by
    rcases hty with rfl | ⟨rfl, ht1⟩
    · intro k _; rfl
    · exact h6 ht1
  have hprim : refKind ty = false := by rcases hty with rfl | ⟨rfl, -⟩ <;> rfl
  intro T hT X0
  obtain ⟨-, kk0, hk0, cm0, hkk0⟩ := (hK.2 t _ ht).1 m1 (fun j => .int (f j))
  obtain ⟨-, kk1, hk1, cm1, hkk1⟩ := (hK.2 t _ ht).1 m2 (fun j => .int (g j))
  obtain ⟨vm', X', step⟩ := X0.arraycopy X.1 X.2.2.2.1 (X.wd hl) (X.wd hna) (X.wd hst) (X.wd hini) (src := cB K + i) (dst := cB K + j) (cs := arrV (cI K t) m1 (fun j => .int (f j))) (cd := arrV (cI K t) m2 (fun j => .int (g j))) (srcPos := sp) (destPos := dp) (n := n) (by rw [hT]; exact hc0) (by rw [hT]; exact hc1)
    (fun _ h => by cases h) (fun _ h => by cases h) (fun h => by cases h) (fun h => by cases h) hk0 hk1 hkk0 hkk1 (by simp [hprim]) h1 h2 h3
    (by rw [nn sp h1, nn n h3, arrV_size]; omega)
    (by rw [nn dp h2, nn n h3, arrV_size]; omega)
    (fun vm₁ _ i hi => by
      have e : (arrV (cI K t) m1 (fun j => .int (f j))).slots.getD (sp.toNatClampNeg + i) .null = .int (f (sp.toNatClampNeg + i)) := by
        rw [Array.getD_eq_getD_getElem?, arrV_read _ _ (by omega)]
        rfl
      refine ⟨?_, ?_⟩
      · rw [e]
        exact hfit i hi
      · rw [e]
        exact trivial)
    (g := F0 m pc ls (.int n :: .int dp :: .ref (cB K + j) :: .int sp :: .ref (cB K + i) :: S.map (cv K))) rfl (by show ls.size = c.maxLocals; rw [hL.1, hLn, X.2.2.1]) (rest := S.map (cv K)) rfl (by rw [X.2.1]; exact hd) (Nat.le_trans hf.1 f1) (by show 2 * 0 + _ + _ ≤ _; rw [scat]; omega)
  have e1 : copied (arrV (cI K t) m1 (fun j => .int (f j))) (arrV (cI K t) m2 (fun j => .int (g j))) sp dp n = arrV (cI K t) m2 (fun k => .int (va_cpy f g sp.toNatClampNeg dp.toNatClampNeg n.toNatClampNeg k)) := va_copied (fun z => .int z) (cI K t) (cI K t) f g h4
  rw [e1] at X' step
  have hla : cB K + j < H.size := (Array.getElem?_eq_some_iff.mp hc1).1
  generalize hcell : arrV (cI K t) m2 (fun k => .int (va_cpy f g sp.toNatClampNeg dp.toNatClampNeg n.toNatClampNeg k)) = cell at X' step
  have hheap : ((T.setVm vm').setCell (cB K + j) cell).heap = H.setIfInBounds (cB K + j) cell := by rw [← hT]; rfl
  have oq : ∀ q : Nat, q ≠ cB K + j → (H.setIfInBounds (cB K + j) cell)[q]? = H[q]? := fun q hq => by simp [Array.getElem?_setIfInBounds, Ne.symm hq]
  have hnew : (H.setIfInBounds (cB K + j) cell)[cB K + j]? = some cell := by simp [Array.getElem?_setIfInBounds, hla]
  obtain ⟨t2, a1, b1⟩ := k1 (H.setIfInBounds (cB K + j) cell) _ ls (hr.put (by simp) (by show _ = some _; rw [hcell]; exact hnew) oq) (fun q hq => by
      rcases List.mem_append.mp hq with h | h
      · exact hlo q h
      · obtain ⟨z, -, hz⟩ := List.mem_map.mp h
        rw [← hz]
        exact Nat.le_add_right _ _) hL _ hheap X'
  exact ⟨t2, step t2 a1, b1⟩
theorem wp_ldcS (hy : y.1.cls = "FractionRun") (hd : decode y.2.1 pc = .ok (.ldc 80, 2)) (kk : WP K l y fr lo n0 k0 r w' (pc + 2) L (.float 2 :: S) w) : WP K l y fr lo n0 k0 r w' pc L S w :=
  WP.go (fun p e s m args below meth c H locs ls R cells slots Q X hr hL k1 => va_ldcS X.1 X.2.1 (hy ▸ X.2.2.2.1) X.2.2.2.2.2.2.2.2.1.2.2.2.2.2.2.2.2.2.2.1 hd k1) kk
theorem ofk {o n d : String} {v : Value} {a : Nat} {s : State} {H : Heap} (h : va_OF o n d v a (cA K) s K.1.heap) (hr : rep K w H) : va_OF o n d v a (cA K) s H := h.kept (fun q hq _ => hr.2.2 q hq)
theorem wp_xcoder {idx : Nat} (hl : Cond.fieldLink y.1.cls idx "java/lang/String" "coder" "B" ∈ TBL) (hd : decode y.2.1 pc = .ok (.getfield idx, 3)) (kk : WP K l y fr lo n0 k0 r w' (pc + 3) L (.int 0 :: S) w) : WP K l y fr lo n0 k0 r w' pc L (.float 2 :: S) w := by
  refine WP.go (fun p e s m args below meth c H locs ls R cells slots Q X hr hL k1 => ?_) kk
  obtain ⟨cf, k, fi, f, cell, h1, h2, h3, h4, h5, h6⟩ := ofk X.2.2.2.2.2.2.2.2.1.2.2.2.2.2.2.2.1 hr
  exact W.getf X.1 X.2.1 X.2.2.2.1 (X.wd hl) h1 h2 h3 h4 (v := .int 0) h5 rfl rfl hd k1
theorem wp_xvalue {idx : Nat} (hl : Cond.fieldLink y.1.cls idx "java/lang/String" "value" "[B" ∈ TBL) (hd : decode y.2.1 pc = .ok (.getfield idx, 3)) (kk : WP K l y fr lo n0 k0 r w' (pc + 3) L (.float 3 :: S) w) : WP K l y fr lo n0 k0 r w' pc L (.float 2 :: S) w := by
  refine WP.go (fun p e s m args below meth c H locs ls R cells slots Q X hr hL k1 => ?_) kk
  obtain ⟨cf, k, fi, f, cell, h1, h2, h3, h4, h5, h6⟩ := ofk X.2.2.2.2.2.2.2.2.1.2.2.2.2.2.2.2.2.1 hr
  exact W.getf X.1 X.2.1 X.2.2.2.1 (X.wd hl) h1 h2 h3 h4 (v := .ref (K.2.1 3)) h5 rfl rfl hd k1
theorem wp_gets {C n d : String} {v : Value} {idx : Nat} (hZ : ∀ U : State, cxs K U → va_Z C n d (cv K v) (cA K) U K.1.heap) (hl : Cond.fieldLink y.1.cls idx C n d ∈ TBL) (hd : decode y.2.1 pc = .ok (.getstatic idx, 3)) (kk : WP K l y fr lo n0 k0 r w' (pc + 3) L (v :: S) w) : WP K l y fr lo n0 k0 r w' pc L S w := by
  refine WP.go (fun p e s m args below meth c H locs ls R cells slots Q X hr hL k1 => ?_) kk
  obtain ⟨cf, kf, fi, f, a, cell, h1, h2, h3, h4, h5, h6, h7, h8⟩ := hZ s X.2.2.2.2.2.2.2.2.1
  have hb : a < cB K := (Array.getElem?_eq_some_iff.mp h5).1
  exact W.gets X.1 X.2.1 X.2.2.2.1 (X.wd hl) h1 h2 h3 h4 (by rw [hr.2.2 _ hb]; exact h5) (fun e => by rw [e] at h6; cases h6) h7 rfl hd k1
theorem wp_xlen {v : Int32} (hv : Int32.ofNat 53 = v) (hd : decode y.2.1 pc = .ok (.arraylength, 1)) (kk : WP K l y fr lo n0 k0 r w' (pc + 1) L (.int v :: S) w) : WP K l y fr lo n0 k0 r w' pc L (.float 3 :: S) w := by
  subst hv
  refine WP.go (fun p e s m args below meth c H locs ls R cells slots Q X hr hL k1 => ?_) kk
  obtain ⟨cell, h1, h2, h3, h4, h5, h6, h7⟩ := X.2.2.2.2.2.2.2.2.1.2.2.2.2.2.2.2.2.2.1
  have hb : K.2.1 3 < cB K := (Array.getElem?_eq_some_iff.mp h1).1
  exact W.alen X.1 X.2.1 (by rw [hr.2.2 _ hb]; exact h1) h2 h5 rfl rfl hd k1
theorem wp_xbald {x v : Int32} (hd : decode y.2.1 pc = .ok (.baload, 1)) (h : bI x = some v) (kk : WP K l y fr lo n0 k0 r w' (pc + 1) L (.int v :: S) w) : WP K l y fr lo n0 k0 r w' pc L (.int x :: .float 3 :: S) w := by
  unfold bI at h
  split at h
  · rename_i hc
    cases h
    refine WP.go (fun p e s m args below meth c H locs ls R cells slots Q X hr hL k1 => ?_) kk
    obtain ⟨cell, h1, h2, h3, h4, h5, h6, h7⟩ := X.2.2.2.2.2.2.2.2.1.2.2.2.2.2.2.2.2.2.1
    have hb : K.2.1 3 < cB K := (Array.getElem?_eq_some_iff.mp h1).1
    have hlt : x.toNatClampNeg < 53 := Nat.not_le.mp fun q => hc (Or.inr q)
    exact W.bald (v := .int (byA x.toNatClampNeg)) X.1 X.2.1 (by rw [hr.2.2 _ hb]; exact h1) h2 h3 (fun q => hc (q.imp id (fun z => by omega))) (h6 _ hlt) rfl rfl hd k1
  · cases h
theorem wp_callX {z : MR} {fz lz nz idx : Nat} {As : List Value} {rv : Option Value} (okz : okM z nz) (hzc : z.1.cls = "java/lang/String") (him : Cond.instanceMethod z.1 ∈ TBL) (hse : Cond.selects z.1.cls z.1 z.1 ∈ TBL) (hl : Cond.methodLink y.1.cls idx z.1 ∈ TBL) (hn : As.length = nz) (hf : fz + 1 ≤ fr ∧ 8 + (z.2.2.1 + 11) + lz ≤ lo) (hS : (S.map fun v => v.category).sum ≤ 8) (hLn : L.length = y.2.2.1) (hd : decode y.2.1 pc = .ok (.invokevirtual idx, 3)) (hM : MT K l z fz lz (.float 2 :: As) w rv w1)
    (kk : WP K l y fr lo n0 k0 r w' (pc + 3) L (rv.toList ++ S) w1) : WP K l y fr lo n0 k0 r w' pc L (As.reverse ++ .float 2 :: S) w := by
  refine WP.lift hM.1 hM.2.1 (fun p e s m args below meth c H locs ls R Q X hr hlo hL f1 f2 c1 c2 c3 c4 k1 => ?_) kk
  have g1 := hM.1
  have g2 := hM.2.1
  obtain ⟨cell, q1, q2, q3, q4⟩ := X.2.2.2.2.2.2.2.2.1.2.2.2.2.2.2.1
  have hb : K.2.1 2 < cB K := (Array.getElem?_eq_some_iff.mp q1).1
  refine call_go (mc := w1.1 - w.1) (ms := w1.2.1 - w.2.1) (rest := S.map (cv K)) (va_runV (C := z.1.cls) (b := K.2.1 2) (As := As.map (cv K)) (n := nz) (nL := y.2.2.1) (Ts := wsM y) (own := y.1.cls) (index := idx) ⟨X.1, X.2.1, X.2.2.1, X.2.2.2.1, X.2.2.2.2.1⟩ hM.2.2 ⟨callB_of nz X.2.2.2.2.1 (wsM_good okz.1) rfl rfl rfl (X.wd okz.2.1) (X.wd hl) okz.2.2 ⟨Nat.le_trans hf.1 f1, Nat.le_trans hf.2 f2⟩, X.wd him, X.wd hse⟩ ⟨PM.blind, ⟨cell, by rw [hr.2.2 _ hb]; exact q1, q2, by rw [hzc]; exact q3⟩, fun U hU hW => ⟨rfl, by rw [hU]; exact hr, X.2.2.2.2.2.2.2.2.1.warm hW⟩⟩ rfl (by rw [List.length_map]; exact hn) (hL.1.trans hLn) (by show (As.reverse ++ .float 2 :: S).map (cv K) = _; rw [List.map_append, List.map_reverse]; rfl) (lv_room (by rw [scat]; exact hS)) hd ⟨by omega, by omega⟩) hlo (fun H1 locs1 h1 h2 => ?_)
  rw [← tol]
  exact W.cs (by omega) (by omega) (k1 H1 locs1 ls h1 h2 hL)
theorem wp_tabOut {dflt a b : Int} {offs : Array Int} {len : Nat} {x : Int32} {tgt : Nat} (hd : decode y.2.1 pc = .ok (.tableswitch dflt a b offs, len)) (h : x.toInt < a ∨ b < x.toInt) (ht : (pc : Int) + dflt = (tgt : Int)) (k : WP K l y fr lo n0 k0 r w' tgt L S w) : WP K l y fr lo n0 k0 r w' pc L (.int x :: S) w :=
  WP.go (fun p e s m args below meth c H locs ls R cells slots Q X hr hL kk => lv_tableOut X.1 X.2.1 hd h ht kk) k
theorem wp_tabIn {dflt a b : Int} {offs : Array Int} {len : Nat} {x : Int32} {off : Int} {tgt : Nat} (hd : decode y.2.1 pc = .ok (.tableswitch dflt a b offs, len)) (h1 : ¬ x.toInt < a) (h2 : ¬ b < x.toInt) (ho : offs[(x.toInt - a).toNat]? = some off) (ht : (pc : Int) + off = (tgt : Int)) (k : WP K l y fr lo n0 k0 r w' tgt L S w) : WP K l y fr lo n0 k0 r w' pc L (.int x :: S) w :=
  WP.go (fun p e s m args below meth c H locs ls R cells slots Q X hr hL kk => lv_tableIn X.1 X.2.1 hd h1 h2 ho ht kk) k
theorem wp_look {dflt : Int} {ps : Array (Int × Int)} {len : Nat} {x : Int32} {off : Int} {tgt : Nat} (hd : decode y.2.1 pc = .ok (.lookupswitch dflt ps, len)) (hp : (ps.toList.zip (ps.toList.drop 1)).all (fun (a, next) => a.1 < next.1) = true) (ho : Op.lookupswitch.offset ps.toList dflt x.toInt = off) (ht : (pc : Int) + off = (tgt : Int)) (k : WP K l y fr lo n0 k0 r w' tgt L S w) : WP K l y fr lo n0 k0 r w' pc L (.int x :: S) w :=
  WP.go (fun p e s m args below meth c H locs ls R cells slots Q X hr hL kk => lv_lookup X.1 X.2.1 hd hp ho ht kk) k
theorem wp_lcmp {x y0 : Int64} (hd : decode y.2.1 pc = .ok (.lcmp, 1)) (k : WP K l y fr lo n0 k0 r w' (pc + 1) L (.int (lg_cmp x y0) :: S) w) : WP K l y fr lo n0 k0 r w' pc L (.long y0 :: .long x :: S) w :=
  WP.go (fun p e s m args below meth c H locs ls R cells slots Q X hr hL kk => W.lcmp X.1 X.2.1 hd kk) k
end MO
