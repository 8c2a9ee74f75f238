/-! arrays, new cells -/
section AR
variable {K : CX} {l : Launch} {y : MR} {fr lo n0 k0 : Nat} {r : Option Value} {w' : XW} {pc : Nat} {L L1 : List (Option Value)} {S S1 : List Value} {w w1 : XW} {pc1 : Nat}
theorem arin {n : Nat} {x : Int32} {cA0 : ClassId} {z : Nat → Value} (h : ¬ (x < 0 ∨ n ≤ x.toNatClampNeg)) : ¬ (x < 0 ∨ (arrV cA0 n z).slots.size ≤ x.toNatClampNeg) := by rw [arrV_size]; exact h
theorem arrd {n : Nat} {x : Int32} {cA0 : ClassId} {z : Nat → Value} (h : ¬ (x < 0 ∨ n ≤ x.toNatClampNeg)) : (arrV cA0 n z).slots[x.toNatClampNeg]? = some (z x.toNatClampNeg) := arrV_read _ _ (Nat.not_le.mp fun q => h (Or.inr q))
theorem arvm {cA0 : ClassId} {n : Nat} {z : Nat → Value} : (arrV cA0 n z).vm ≠ .unknown := fun q => by cases q
theorem wp_iald {i : Nat} {x v : Int32} (hd : decode y.2.1 pc = .ok (.iaload, 1)) (h : aI w 0 i x = some v) (kk : WP K l y fr lo n0 k0 r w' (pc + 1) L (.int v :: S) w) : WP K l y fr lo n0 k0 r w' pc L (.int x :: .ref i :: S) w := by
  obtain ⟨n, f, hx, hin, rfl⟩ := aI_spec h
  exact WP.go (fun p e s m args below meth c H locs ls R cells slots Q X hr hL k1 => W.iald X.1 X.2.1 (hr.at hx) ((X.2.2.2.2.2.2.2.2.1.1.2 0 _ rfl).1 n _) arvm (arin hin) (arrd hin) rfl rfl hd k1) kk
theorem wp_cald {i : Nat} {x v : Int32} (hd : decode y.2.1 pc = .ok (.caload, 1)) (h : aI w 1 i x = some v) (kk : WP K l y fr lo n0 k0 r w' (pc + 1) L (.int v :: S) w) : WP K l y fr lo n0 k0 r w' pc L (.int x :: .ref i :: S) w := by
  obtain ⟨n, f, hx, hin, rfl⟩ := aI_spec h
  exact WP.go (fun p e s m args below meth c H locs ls R cells slots Q X hr hL k1 => W.cald X.1 X.2.1 (hr.at hx) ((X.2.2.2.2.2.2.2.2.1.1.2 1 _ rfl).1 n _) arvm (arin hin) (arrd hin) rfl rfl hd k1) kk
theorem wp_bald {i : Nat} {x v : Int32} (hd : decode y.2.1 pc = .ok (.baload, 1)) (h : aI w 2 i x = some v) (kk : WP K l y fr lo n0 k0 r w' (pc + 1) L (.int v :: S) w) : WP K l y fr lo n0 k0 r w' pc L (.int x :: .ref i :: S) w := by
  obtain ⟨n, f, hx, hin, rfl⟩ := aI_spec h
  exact WP.go (fun p e s m args below meth c H locs ls R cells slots Q X hr hL k1 => W.bald X.1 X.2.1 (hr.at hx) ((X.2.2.2.2.2.2.2.2.1.1.2 2 _ rfl).1 n _) arvm (arin hin) (arrd hin) rfl rfl hd k1) kk
theorem wp_lald {i : Nat} {x : Int32} {v : Int64} (hd : decode y.2.1 pc = .ok (.laload, 1)) (h : aJ w i x = some v) (kk : WP K l y fr lo n0 k0 r w' (pc + 1) L (.long v :: S) w) : WP K l y fr lo n0 k0 r w' pc L (.int x :: .ref i :: S) w := by
  obtain ⟨n, f, hx, hin, rfl⟩ := aJ_spec h
  exact WP.go (fun p e s m args below meth c H locs ls R cells slots Q X hr hL k1 => W.lald X.1 X.2.1 (hr.at hx) ((X.2.2.2.2.2.2.2.2.1.1.2 3 _ rfl).1 n _) arvm (arin hin) (arrd hin) rfl rfl hd k1) kk
theorem wp_aald {t i j : Nat} {C : String} {x : Int32} (ht : (tysK K)[4 + t]? = some (cI K (4 + t), .object C)) (hd : decode y.2.1 pc = .ok (.aaload, 1)) (h : aR w t i x = some j) (kk : WP K l y fr lo n0 k0 r w' (pc + 1) L (.ref j :: S) w) : WP K l y fr lo n0 k0 r w' pc L (.int x :: .ref i :: S) w := by
  obtain ⟨n, f, hx, hin, hj⟩ := aR_spec h
  exact WP.go (fun p e s m args below meth c H locs ls R cells slots Q X hr hL k1 => W.aald (v := .ref (cB K + j)) (ty := .object C) X.1 X.2.1 (hr.at hx) ((X.2.2.2.2.2.2.2.2.1.1.2 (4 + t) _ ht).1 n _) rfl arvm (arin hin) (by rw [arrd hin]; show some (cvr K (f x.toNatClampNeg)) = _; rw [hj]; rfl) rfl rfl hd k1) kk
theorem wp_eald {x v : Int32} (hd : decode y.2.1 pc = .ok (.iaload, 1)) (h : eI (K.2.2.1 0).1 (K.2.2.1 0).2 x = some v) (kk : WP K l y fr lo n0 k0 r w' (pc + 1) L (.int v :: S) w) : WP K l y fr lo n0 k0 r w' pc L (.int x :: .float 0 :: S) w := by
  unfold eI at h
  split at h
  · rename_i hc
    cases h
    refine WP.go (fun p e s m args below meth c H locs ls R cells slots Q X hr hL k1 => ?_) kk
    obtain ⟨cell, h1, h2, h3, h4, h5, h6, h7⟩ := X.2.2.2.2.2.2.2.2.1.2.2.2.1.1
    have hb : K.2.1 0 < cB K := (Array.getElem?_eq_some_iff.mp h1).1
    have hlt : x.toNatClampNeg < (K.2.2.1 0).1 := Nat.not_le.mp fun q => hc (Or.inr q)
    exact W.iald (v := .int ((K.2.2.1 0).2 x.toNatClampNeg)) X.1 X.2.1 (by rw [hr.2.2 _ hb]; exact h1) h2 h3 (fun q => hc (q.imp id (fun z => by omega))) (h6 _ hlt) rfl rfl hd k1
  · cases h
theorem wp_pald {x v : Int32} (hd : decode y.2.1 pc = .ok (.iaload, 1)) (h : pI x = some v) (kk : WP K l y fr lo n0 k0 r w' (pc + 1) L (.int v :: S) w) : WP K l y fr lo n0 k0 r w' pc L (.int x :: .float 1 :: S) w := by
  unfold pI at h
  split at h
  · rename_i hc
    cases h
    refine WP.go (fun p e s m args below meth c H locs ls R cells slots Q X hr hL k1 => ?_) kk
    obtain ⟨cell, h1, h2, h3, h4, h5, h6, h7⟩ := X.2.2.2.2.2.2.2.2.1.2.2.2.1.2
    have hb : K.2.1 1 < cB K := (Array.getElem?_eq_some_iff.mp h1).1
    have hlt : x.toNatClampNeg < 6 := Nat.not_le.mp fun q => hc (Or.inr q)
    exact W.iald (v := .int (prA x.toNatClampNeg)) X.1 X.2.1 (by rw [hr.2.2 _ hb]; exact h1) h2 h3 (fun q => hc (q.imp id (fun z => by omega))) (h6 _ hlt) rfl rfl hd k1
  · cases h
theorem wp_elen {v : Int32} (hv : Int32.ofNat (K.2.2.1 0).1 = v) (hd : decode y.2.1 pc = .ok (.arraylength, 1)) (kk : WP K l y fr lo n0 k0 r w' (pc + 1) L (.int v :: S) w) : WP K l y fr lo n0 k0 r w' pc L (.float 0 :: S) w := by
  subst hv
  refine WP.go (fun p e s m args below meth c H locs ls R cells slots Q X hr hL k1 => ?_) kk
  obtain ⟨cell, h1, h2, h3, h4, h5, h6, h7⟩ := X.2.2.2.2.2.2.2.2.1.2.2.2.1.1
  have hb : K.2.1 0 < cB K := (Array.getElem?_eq_some_iff.mp h1).1
  exact W.alen X.1 X.2.1 (by rw [hr.2.2 _ hb]; exact h1) h2 h5 rfl rfl hd k1
theorem wp_primes {idx : Nat} (hl : Cond.fieldLink y.1.cls idx "FractionRun" "PRIMES" "[I" ∈ TBL) (hd : decode y.2.1 pc = .ok (.getstatic idx, 3)) (kk : WP K l y fr lo n0 k0 r w' (pc + 3) L (.float 1 :: S) w) : WP K l y fr lo n0 k0 r w' pc L S w := by
  refine WP.go (fun p e s m args below meth c H locs ls R cells slots Q X hr hL k1 => ?_) kk
  obtain ⟨cf, kf, fi, f, a, cell, h1, h2, h3, h4, h5, h6, h7, h8⟩ := X.2.2.2.2.2.2.2.2.1.2.2.1
  have hb : a < cB K := (Array.getElem?_eq_some_iff.mp h5).1
  exact W.gets X.1 X.2.1 X.2.2.2.1 (X.wd hl) h1 h2 h3 h4 (by rw [hr.2.2 _ hb]; exact h5) (fun e => by rw [e] at h6; cases h6) h7 rfl hd k1
theorem wp_primesN (hy : y.1.cls = "FractionRun$Fractions") (hd : decode y.2.1 pc = .ok (.getstatic 51, 3)) (kk : WP K l y fr lo n0 k0 r w' (pc + 3) L (.float 1 :: S) w) : WP K l y fr lo n0 k0 r w' pc L S w := by
  refine WP.go (fun p e s m args below meth c H locs ls R cells slots Q X hr hL k1 => ?_) kk
  obtain ⟨cf, kf, fi, f, a, cell, h1, h2, h3, h4, h5, h6, h7, h8⟩ := X.2.2.2.2.2.2.2.2.1.2.2.1
  have hb : a < cB K := (Array.getElem?_eq_some_iff.mp h5).1
  exact va_WgetsN X.1 X.2.1 (hy ▸ X.2.2.2.1) (va_Nw.use rfl X.2.2.2.2.2.2.2.2.1.2.1.2) h1 h2 h3 h4 (by rw [hr.2.2 _ hb]; exact h5) (fun e => by rw [e] at h6; cases h6) h7 rfl hd k1
theorem upd_updV {f : Nat → Int32} {k : Nat} {x : Int32} : updV (fun j => .int (f j)) k (.int x) = fun j => .int (upd f k x j) := by
  funext q
  by_cases h : q = k
  · simp [updV, upd, h]
  · simp [updV, upd, h]
theorem wp_iast {i : Nat} {x v : Int32} (hd : decode y.2.1 pc = .ok (.iastore, 1)) (h : sI w 0 i x v = some w1) (kk : WP K l y fr lo n0 k0 r w' (pc + 1) L S w1) : WP K l y fr lo n0 k0 r w' pc L (.int v :: .int x :: .ref i :: S) w := by
  obtain ⟨n, f, hx, hin, rfl⟩ := sI_spec h
  refine WP.lift (w1 := xput w i _) (Nat.le_refl _) (Nat.le_refl _) (fun p e s m args below meth c H locs ls R Q X hr hlo hL _ _ _ _ _ _ k1 => ?_) kk
  refine W.iast X.1 X.2.1 (hr.at hx) ((X.2.2.2.2.2.2.2.2.1.1.2 0 _ rfl).1 n _) arvm (arin hin) rfl rfl hd fun H1 e z oq => ?_
  refine k1 H1 _ ls (hr.put z ?_ oq) (lcs hlo (Nat.le_add_right _ _)) hL
  show H1[cB K + i]? = some (arrV _ _ _)
  rw [e, arrV_store, upd_updV]
theorem wp_cast {i : Nat} {x v : Int32} (hd : decode y.2.1 pc = .ok (.castore, 1)) (h : sI w 1 i x (vp_nar .char v) = some w1) (kk : WP K l y fr lo n0 k0 r w' (pc + 1) L S w1) : WP K l y fr lo n0 k0 r w' pc L (.int v :: .int x :: .ref i :: S) w := by
  obtain ⟨n, f, hx, hin, rfl⟩ := sI_spec h
  refine WP.lift (w1 := xput w i _) (Nat.le_refl _) (Nat.le_refl _) (fun p e s m args below meth c H locs ls R Q X hr hlo hL _ _ _ _ _ _ k1 => ?_) kk
  refine W.cast X.1 X.2.1 (hr.at hx) ((X.2.2.2.2.2.2.2.2.1.1.2 1 _ rfl).1 n _) arvm (arin hin) rfl rfl hd fun H1 e z oq => ?_
  refine k1 H1 _ ls (hr.put z ?_ oq) (lcs hlo (Nat.le_add_right _ _)) hL
  show H1[cB K + i]? = some (arrV _ _ _)
  rw [e, arrV_store, ← upd_updV]
  rfl
theorem wp_bast {i : Nat} {x v : Int32} (hd : decode y.2.1 pc = .ok (.bastore, 1)) (h : sI w 2 i x (vp_nar .byte v) = some w1) (kk : WP K l y fr lo n0 k0 r w' (pc + 1) L S w1) : WP K l y fr lo n0 k0 r w' pc L (.int v :: .int x :: .ref i :: S) w := by
  obtain ⟨n, f, hx, hin, rfl⟩ := sI_spec h
  refine WP.lift (w1 := xput w i _) (Nat.le_refl _) (Nat.le_refl _) (fun p e s m args below meth c H locs ls R Q X hr hlo hL _ _ _ _ _ _ k1 => ?_) kk
  refine W.bast X.1 X.2.1 (hr.at hx) ((X.2.2.2.2.2.2.2.2.1.1.2 2 _ rfl).1 n _) arvm (arin hin) rfl rfl hd fun H1 e z oq => ?_
  refine k1 H1 _ ls (hr.put z ?_ oq) (lcs hlo (Nat.le_add_right _ _)) hL
  show H1[cB K + i]? = some (arrV _ _ _)
  rw [e, arrV_store, ← upd_updV]
  rfl
theorem wp_last {i : Nat} {x : Int32} {v : Int64} (hd : decode y.2.1 pc = .ok (.lastore, 1)) (h : sJ w i x v = some w1) (kk : WP K l y fr lo n0 k0 r w' (pc + 1) L S w1) : WP K l y fr lo n0 k0 r w' pc L (.long v :: .int x :: .ref i :: S) w := by
  obtain ⟨n, f, hx, hin, rfl⟩ := sJ_spec h
  refine WP.lift (w1 := xput w i _) (Nat.le_refl _) (Nat.le_refl _) (fun p e s m args below meth c H locs ls R Q X hr hlo hL _ _ _ _ _ _ k1 => ?_) kk
  refine W.last X.1 X.2.1 (hr.at hx) ((X.2.2.2.2.2.2.2.2.1.1.2 3 _ rfl).1 n _) arvm (arin hin) rfl rfl hd fun H1 e z oq => ?_
  refine k1 H1 _ ls (hr.put z ?_ oq) (lcs hlo (Nat.le_add_right _ _)) hL
  show H1[cB K + i]? = some (arrV _ _ _)
  rw [e, arrV_store]
  congr 2
  funext q
  by_cases h : q = x.toNatClampNeg
  · simp [updV, vp_updL, h]
  · simp [updV, vp_updL, h]
theorem wp_aast {t i j ec : Nat} {q0 : vw_C} {x : Int32} (ht : (tysK K)[4 + t]? = some (cI K (4 + t), .object q0.1)) (hq : classes[ec]? = some q0) (hd : decode y.2.1 pc = .ok (.aastore, 1)) (h : sR w t i x j ec = some w1) (kk : WP K l y fr lo n0 k0 r w' (pc + 1) L S w1) : WP K l y fr lo n0 k0 r w' pc L (.ref j :: .int x :: .ref i :: S) w := by
  obtain ⟨n, f, vs, hx, hxj, hin, rfl⟩ := sR_spec h
  refine WP.lift (w1 := xput w i _) (Nat.le_refl _) (Nat.le_refl _) (fun p e s m args below meth c H locs ls R Q X hr hlo hL _ _ _ _ _ _ k1 => ?_) kk
  have hK := X.2.2.2.2.2.2.2.2.1.1
  obtain ⟨r', hr', cellV, g1, g2, g3, -⟩ := hr.at hxj
  have hcls := (hK.1 ec q0 hq).2
  obtain ⟨kA, comp, a1, a2, a3, -⟩ := (hK.2 (4 + t) _ ht).2
  have hcomp : comp = (cD K).1 ec := Option.some.inj (a3.symm.trans hcls.1)
  subst hcomp
  obtain ⟨kC, hkC, -⟩ := hcls.2
  refine W.aast X.1 X.2.1 (hr.at hx) (fun q h => by cases h) (fun h => by cases h) a1 a2 rfl hkC ⟨fun q => hin (Or.inl q), by rw [arrV_size]; exact Nat.not_le.mp fun q => hin (Or.inr q)⟩ g1 (fun q h => by rw [g3] at h; cases h) (by rw [g2]; exact hkC) (by rw [g2]; exact va_assign hcls) rfl rfl hd fun H1 e z oq => ?_
  refine k1 H1 _ ls (hr.put z ?_ oq) (lcs hlo (Nat.le_add_right _ _)) hL
  show H1[cB K + i]? = some (arrV _ _ _)
  rw [e, arrV_store]
  congr 2
  funext q
  by_cases h : q = x.toNatClampNeg
  · simp [updV, va_up, h, cvr]
  · simp [updV, va_up, h]
end AR
