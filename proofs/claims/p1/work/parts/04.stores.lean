/-! rows of stores, arithmetic, branches -/
section WPS
variable {K : CX} {l : Launch} {y : MR} {fr lo n0 k0 : Nat} {r : Option Value} {w' : XW} {pc : Nat} {L L1 : List (Option Value)} {S S1 : List Value} {w w1 : XW} {pc1 : Nat}
theorem cv_cat (v : Value) : (cv K v).category = v.category := by cases v <;> rfl
def isL (o : Option (Option Value)) : Bool := match o with
  | some (some v) => v.category == 2
  | _ => false
def kill (L : List (Option Value)) (i : Nat) : List (Option Value) := match i with
  | 0 => L
  | j + 1 => if isL L[j]? = true then L.set j none else L
def lset1 (L : List (Option Value)) (i : Nat) (v : Value) : List (Option Value) := (kill L i).set i (some v)
def lset2 (L : List (Option Value)) (i : Nat) (v : Value) : List (Option Value) := ((kill L i).set i (some v)).set (i + 1) none
theorem kill_len (L : List (Option Value)) (i : Nat) : (kill L i).length = L.length := by
  cases i with
  | zero => rfl
  | succ j =>
    simp only [kill]
    split
    · exact List.length_set
    · rfl
theorem kill_spec {i j : Nat} {u : Value} (h : (kill L i)[j]? = some (some u)) : L[j]? = some (some u) ∧ ¬ (j + 1 = i ∧ u.category = 2) := by
  cases i with
  | zero => exact ⟨h, fun q => by omega⟩
  | succ i =>
    simp only [kill] at h
    split at h
    · by_cases e : i = j
      · subst e
        exact absurd h (by
          by_cases z : i < L.length
          · rw [List.getElem?_set_self z]; intro q; cases q
          · rw [List.getElem?_eq_none (by rw [List.length_set]; omega)]; intro q; cases q)
      · rw [List.getElem?_set_ne e] at h
        exact ⟨h, fun q => by omega⟩
    · rename_i hn
      refine ⟨h, fun q => ?_⟩
      have e : j = i := by omega
      subst e
      rw [h] at hn
      exact hn (by simp [isL, q.2])
def lvo (K : CX) (L : List (Option Value)) : List (Nat × Value) := (List.range L.length).filterMap (fun i => match L[i]? with | some (some v) => some (i, cv K v) | _ => none)
theorem lvo_mem {i : Nat} {v : Value} (h : L[i]? = some (some v)) : (i, cv K v) ∈ lvo K L := by
  refine List.mem_filterMap.mpr ⟨i, List.mem_range.mpr (List.getElem?_eq_some_iff.mp h).1, ?_⟩
  rw [h]
theorem lok.has {ls : Array Slot} (h : lok K L ls) : lv_has ls L.length (lvo K L) := by
  refine ⟨h.1, h.2.1, fun q hq => ?_⟩
  obtain ⟨i, -, hi⟩ := List.mem_filterMap.mp hq
  split at hi
  · rename_i v hv
    cases hi
    exact h.2.2 i v hv
  · cases hi
theorem lok_store1 {ls : Array Slot} {i : Nat} {v : Value} (hi : i < L.length) (h : lv_has ls L.length ((i, cv K v) :: (lvo K L).filter (fun q => !(q.1 == i) && !(q.1 + 1 == i && q.2.category == 2)))) : lok K (lset1 L i v) ls := by
  refine ⟨by rw [h.1, lset1, List.length_set, kill_len], h.2.1, fun j u hj => ?_⟩
  by_cases e : i = j
  · subst e
    rw [lset1, List.getElem?_set_self (by rw [kill_len]; exact hi)] at hj
    cases hj
    exact h.2.2 _ List.mem_cons_self
  · rw [lset1, List.getElem?_set_ne e] at hj
    obtain ⟨h1, h2⟩ := kill_spec hj
    refine h.2.2 (j, cv K u) (List.mem_cons_of_mem _ (List.mem_filter.mpr ⟨lvo_mem h1, ?_⟩))
    have e1 : (j == i) = false := by simp; omega
    have e2 : (j + 1 == i && (cv K u).category == 2) = false := by
      rw [cv_cat]
      by_cases q : j + 1 = i
      · have q2 : ¬ u.category = 2 := fun z => h2 ⟨q, z⟩
        simp [q2]
      · simp [q]
    simp only [e1, e2]; rfl
theorem lok_store2 {ls : Array Slot} {i : Nat} {v : Value} (hi : i + 1 < L.length) (h : lv_has ls L.length ((i, cv K v) :: (lvo K L).filter (fun q => !(q.1 == i) && (!(q.1 == i + 1) && !(q.1 + 1 == i && q.2.category == 2))))) : lok K (lset2 L i v) ls := by
  refine ⟨by rw [h.1, lset2, List.length_set, List.length_set, kill_len], h.2.1, fun j u hj => ?_⟩
  by_cases e0 : i + 1 = j
  · subst e0
    rw [lset2, List.getElem?_set_self (by rw [List.length_set, kill_len]; exact hi)] at hj
    cases hj
  rw [lset2, List.getElem?_set_ne e0] at hj
  by_cases e : i = j
  · subst e
    rw [List.getElem?_set_self (by rw [kill_len]; omega)] at hj
    cases hj
    exact h.2.2 _ List.mem_cons_self
  · rw [List.getElem?_set_ne e] at hj
    obtain ⟨h1, h2⟩ := kill_spec hj
    refine h.2.2 (j, cv K u) (List.mem_cons_of_mem _ (List.mem_filter.mpr ⟨lvo_mem h1, ?_⟩))
    have e1 : (j == i) = false := by simp; omega
    have e3 : (j == i + 1) = false := by simp; omega
    have e2 : (j + 1 == i && (cv K u).category == 2) = false := by
      rw [cv_cat]
      by_cases q : j + 1 = i
      · have q2 : ¬ u.category = 2 := fun z => h2 ⟨q, z⟩
        simp [q2]
      · simp [q]
    simp only [e1, e2, e3]; rfl
theorem WP.loc (h : ∀ (p : Program) (e : Env) (s : State) (m : MethodId) (args : Array Value) (below : List Frame) (meth : Method) (c : Code) (H : Heap) (locs : List Loc) (ls : Array Slot) (R : Room) (cells slots : Nat) (Q : State → Prop), Stn K y p s m args meth c → lok K L ls →
      (∀ ls1, lok K L1 ls1 → W p l e R s m args below meth c H locs cells slots Q (F0 m pc1 ls1 (S1.map (cv K)))) → W p l e R s m args below meth c H locs cells slots Q (F0 m pc ls (S.map (cv K))))
    (k : WP K l y fr lo n0 k0 r w' pc1 L1 S1 w) : WP K l y fr lo n0 k0 r w' pc L S w :=
  WP.lift (Nat.le_refl _) (Nat.le_refl _) (fun p e s m args below meth c H locs ls R Q X hr hl hL _ _ _ _ _ _ kk => h p e s m args below meth c H locs ls R _ _ Q X hL (fun ls1 h1 => kk H locs ls1 hr hl h1)) k
theorem wp_istore_n {j : Fin 4} {x : Int32} (hd : decode y.2.1 pc = .ok (.istore_n j, 1)) (hi : (j : Nat) < L.length) (hs : lset1 L j (.int x) = L1) (k : WP K l y fr lo n0 k0 r w' (pc + 1) L1 S w) : WP K l y fr lo n0 k0 r w' pc L (.int x :: S) w :=
  WP.loc (fun p e s m args below meth c H locs ls R cells slots Q X hL kk => lv_istore_n X.1 X.2.1 hd rfl hL.has hi rfl (fun ls1 h1 => kk ls1 (hs ▸ lok_store1 (v := .int x) hi h1))) k
theorem wp_istore {i : Nat} {x : Int32} (hd : decode y.2.1 pc = .ok (.istore i, 2)) (hi : i < L.length) (hs : lset1 L i (.int x) = L1) (k : WP K l y fr lo n0 k0 r w' (pc + 2) L1 S w) : WP K l y fr lo n0 k0 r w' pc L (.int x :: S) w :=
  WP.loc (fun p e s m args below meth c H locs ls R cells slots Q X hL kk => lv_istore X.1 X.2.1 hd hL.has hi rfl (fun ls1 h1 => kk ls1 (hs ▸ lok_store1 (v := .int x) hi h1))) k
theorem wp_astore_n {j : Fin 4} {x : Nat} (hd : decode y.2.1 pc = .ok (.astore_n j, 1)) (hi : (j : Nat) < L.length) (hs : lset1 L j (.ref x) = L1) (k : WP K l y fr lo n0 k0 r w' (pc + 1) L1 S w) : WP K l y fr lo n0 k0 r w' pc L (.ref x :: S) w :=
  WP.loc (fun p e s m args below meth c H locs ls R cells slots Q X hL kk => lv_astore_n X.1 X.2.1 hd rfl hL.has hi rfl (fun ls1 h1 => kk ls1 (hs ▸ lok_store1 (v := .ref x) hi h1))) k
theorem wp_astore {i : Nat} {x : Nat} (hd : decode y.2.1 pc = .ok (.astore i, 2)) (hi : i < L.length) (hs : lset1 L i (.ref x) = L1) (k : WP K l y fr lo n0 k0 r w' (pc + 2) L1 S w) : WP K l y fr lo n0 k0 r w' pc L (.ref x :: S) w :=
  WP.loc (fun p e s m args below meth c H locs ls R cells slots Q X hL kk => lv_astore X.1 X.2.1 hd hL.has hi rfl (fun ls1 h1 => kk ls1 (hs ▸ lok_store1 (v := .ref x) hi h1))) k
theorem wp_lstore_n {j : Fin 4} {x : Int64} (hd : decode y.2.1 pc = .ok (.lstore_n j, 1)) (hi : (j : Nat) + 1 < L.length) (hs : lset2 L j (.long x) = L1) (k : WP K l y fr lo n0 k0 r w' (pc + 1) L1 S w) : WP K l y fr lo n0 k0 r w' pc L (.long x :: S) w :=
  WP.loc (fun p e s m args below meth c H locs ls R cells slots Q X hL kk => lv_lstore_n X.1 X.2.1 hd rfl hL.has hi rfl (fun ls1 h1 => kk ls1 (hs ▸ lok_store2 (v := .long x) hi h1))) k
theorem wp_lstore {i : Nat} {x : Int64} (hd : decode y.2.1 pc = .ok (.lstore i, 2)) (hi : i + 1 < L.length) (hs : lset2 L i (.long x) = L1) (k : WP K l y fr lo n0 k0 r w' (pc + 2) L1 S w) : WP K l y fr lo n0 k0 r w' pc L (.long x :: S) w :=
  WP.loc (fun p e s m args below meth c H locs ls R cells slots Q X hL kk => lv_lstore X.1 X.2.1 hd hL.has hi rfl (fun ls1 h1 => kk ls1 (hs ▸ lok_store2 (v := .long x) hi h1))) k
theorem wp_iinc {i : Nat} {n : Int} {x v : Int32} (hd : decode y.2.1 pc = .ok (.iinc i n, 3)) (hi : i < L.length) (h : L[i]? = some (some (.int x))) (hv : x + Int32.ofInt n = v) (hs : lset1 L i (.int v) = L1) (k : WP K l y fr lo n0 k0 r w' (pc + 3) L1 S w) : WP K l y fr lo n0 k0 r w' pc L S w := by
  obtain ⟨q, hq⟩ := List.getElem?_of_mem (lvo_mem (K := K) h)
  exact WP.loc (fun p e s m args below meth c H locs ls R cells slots Q X hL kk => lv_iinc X.1 X.2.1 hd hL.has hq hv hi rfl (fun ls1 h1 => kk ls1 (hs ▸ lok_store1 (v := .int v) hi h1))) k
theorem wp_iadd {x y0 : Int32} (hd : decode y.2.1 pc = .ok (.iadd, 1)) (k : WP K l y fr lo n0 k0 r w' (pc + 1) L (.int (x + y0) :: S) w) : WP K l y fr lo n0 k0 r w' pc L (.int y0 :: .int x :: S) w :=
  WP.go (fun p e s m args below meth c H locs ls R cells slots Q X hr hL kk => lv_iadd X.1 X.2.1 hd kk) k
theorem wp_isub {x y0 : Int32} (hd : decode y.2.1 pc = .ok (.isub, 1)) (k : WP K l y fr lo n0 k0 r w' (pc + 1) L (.int (x - y0) :: S) w) : WP K l y fr lo n0 k0 r w' pc L (.int y0 :: .int x :: S) w :=
  WP.go (fun p e s m args below meth c H locs ls R cells slots Q X hr hL kk => lv_isub X.1 X.2.1 hd kk) k
theorem wp_imul {x y0 : Int32} (hd : decode y.2.1 pc = .ok (.imul, 1)) (k : WP K l y fr lo n0 k0 r w' (pc + 1) L (.int (x * y0) :: S) w) : WP K l y fr lo n0 k0 r w' pc L (.int y0 :: .int x :: S) w :=
  WP.go (fun p e s m args below meth c H locs ls R cells slots Q X hr hL kk => lv_imul X.1 X.2.1 hd kk) k
theorem wp_iand {x y0 : Int32} (hd : decode y.2.1 pc = .ok (.iand, 1)) (k : WP K l y fr lo n0 k0 r w' (pc + 1) L (.int (x &&& y0) :: S) w) : WP K l y fr lo n0 k0 r w' pc L (.int y0 :: .int x :: S) w :=
  WP.go (fun p e s m args below meth c H locs ls R cells slots Q X hr hL kk => lv_iand X.1 X.2.1 hd kk) k
theorem wp_ior {x y0 : Int32} (hd : decode y.2.1 pc = .ok (.ior, 1)) (k : WP K l y fr lo n0 k0 r w' (pc + 1) L (.int (x ||| y0) :: S) w) : WP K l y fr lo n0 k0 r w' pc L (.int y0 :: .int x :: S) w :=
  WP.go (fun p e s m args below meth c H locs ls R cells slots Q X hr hL kk => lv_ior X.1 X.2.1 hd kk) k
theorem wp_ixor {x y0 : Int32} (hd : decode y.2.1 pc = .ok (.ixor, 1)) (k : WP K l y fr lo n0 k0 r w' (pc + 1) L (.int (x ^^^ y0) :: S) w) : WP K l y fr lo n0 k0 r w' pc L (.int y0 :: .int x :: S) w :=
  WP.go (fun p e s m args below meth c H locs ls R cells slots Q X hr hL kk => lv_ixor X.1 X.2.1 hd kk) k
theorem wp_ishl {x y0 : Int32} (hd : decode y.2.1 pc = .ok (.ishl, 1)) (k : WP K l y fr lo n0 k0 r w' (pc + 1) L (.int (x <<< (y0 &&& 31)) :: S) w) : WP K l y fr lo n0 k0 r w' pc L (.int y0 :: .int x :: S) w :=
  WP.go (fun p e s m args below meth c H locs ls R cells slots Q X hr hL kk => lv_ishl X.1 X.2.1 hd kk) k
theorem wp_ishr {x y0 : Int32} (hd : decode y.2.1 pc = .ok (.ishr, 1)) (k : WP K l y fr lo n0 k0 r w' (pc + 1) L (.int (x >>> (y0 &&& 31)) :: S) w) : WP K l y fr lo n0 k0 r w' pc L (.int y0 :: .int x :: S) w :=
  WP.go (fun p e s m args below meth c H locs ls R cells slots Q X hr hL kk => lv_ishr X.1 X.2.1 hd kk) k
theorem wp_idiv {x y0 : Int32} (hd : decode y.2.1 pc = .ok (.idiv, 1)) (hne : ¬ y0 = 0) (k : WP K l y fr lo n0 k0 r w' (pc + 1) L (.int (x / y0) :: S) w) : WP K l y fr lo n0 k0 r w' pc L (.int y0 :: .int x :: S) w :=
  WP.go (fun p e s m args below meth c H locs ls R cells slots Q X hr hL kk => lv_idiv X.1 X.2.1 hd hne kk) k
theorem wp_irem {x y0 : Int32} (hd : decode y.2.1 pc = .ok (.irem, 1)) (hne : ¬ y0 = 0) (k : WP K l y fr lo n0 k0 r w' (pc + 1) L (.int (x - x / y0 * y0) :: S) w) : WP K l y fr lo n0 k0 r w' pc L (.int y0 :: .int x :: S) w :=
  WP.go (fun p e s m args below meth c H locs ls R cells slots Q X hr hL kk => lv_irem X.1 X.2.1 hd hne kk) k
theorem wp_ladd {x y0 : Int64} (hd : decode y.2.1 pc = .ok (.ladd, 1)) (k : WP K l y fr lo n0 k0 r w' (pc + 1) L (.long (x + y0) :: S) w) : WP K l y fr lo n0 k0 r w' pc L (.long y0 :: .long x :: S) w :=
  WP.go (fun p e s m args below meth c H locs ls R cells slots Q X hr hL kk => lv_ladd X.1 X.2.1 hd kk) k
theorem wp_lmul {x y0 : Int64} (hd : decode y.2.1 pc = .ok (.lmul, 1)) (k : WP K l y fr lo n0 k0 r w' (pc + 1) L (.long (x * y0) :: S) w) : WP K l y fr lo n0 k0 r w' pc L (.long y0 :: .long x :: S) w :=
  WP.go (fun p e s m args below meth c H locs ls R cells slots Q X hr hL kk => lv_lmul X.1 X.2.1 hd kk) k
theorem wp_lor {x y0 : Int64} (hd : decode y.2.1 pc = .ok (.lor, 1)) (k : WP K l y fr lo n0 k0 r w' (pc + 1) L (.long (x ||| y0) :: S) w) : WP K l y fr lo n0 k0 r w' pc L (.long y0 :: .long x :: S) w :=
  WP.go (fun p e s m args below meth c H locs ls R cells slots Q X hr hL kk => lv_lor X.1 X.2.1 hd kk) k
theorem wp_lrem {x y0 : Int64} (hd : decode y.2.1 pc = .ok (.lrem, 1)) (hne : ¬ y0 = 0) (k : WP K l y fr lo n0 k0 r w' (pc + 1) L (.long (x - x / y0 * y0) :: S) w) : WP K l y fr lo n0 k0 r w' pc L (.long y0 :: .long x :: S) w :=
  WP.go (fun p e s m args below meth c H locs ls R cells slots Q X hr hL kk => lv_lrem X.1 X.2.1 hd hne kk) k
theorem wp_ineg {x : Int32} (hd : decode y.2.1 pc = .ok (.ineg, 1)) (k : WP K l y fr lo n0 k0 r w' (pc + 1) L (.int (-x) :: S) w) : WP K l y fr lo n0 k0 r w' pc L (.int x :: S) w :=
  WP.go (fun p e s m args below meth c H locs ls R cells slots Q X hr hL kk => lv_ineg X.1 X.2.1 hd kk) k
theorem wp_i2l {x : Int32} (hd : decode y.2.1 pc = .ok (.i2l, 1)) (k : WP K l y fr lo n0 k0 r w' (pc + 1) L (.long x.toInt64 :: S) w) : WP K l y fr lo n0 k0 r w' pc L (.int x :: S) w :=
  WP.go (fun p e s m args below meth c H locs ls R cells slots Q X hr hL kk => lv_i2l X.1 X.2.1 hd rfl kk) k
theorem wp_l2i {x : Int64} (hd : decode y.2.1 pc = .ok (.l2i, 1)) (k : WP K l y fr lo n0 k0 r w' (pc + 1) L (.int x.toInt32 :: S) w) : WP K l y fr lo n0 k0 r w' pc L (.long x :: S) w :=
  WP.go (fun p e s m args below meth c H locs ls R cells slots Q X hr hL kk => lv_l2i X.1 X.2.1 hd rfl kk) k
theorem wp_dup {v : Value} (hd : decode y.2.1 pc = .ok (.dup, 1)) (hv : v.category = 1) (k : WP K l y fr lo n0 k0 r w' (pc + 1) L (v :: v :: S) w) : WP K l y fr lo n0 k0 r w' pc L (v :: S) w :=
  WP.go (fun p e s m args below meth c H locs ls R cells slots Q X hr hL kk => lv_dup X.1 X.2.1 hd ((cv_cat v).trans hv) kk) k
theorem wp_pop {v : Value} (hd : decode y.2.1 pc = .ok (.pop, 1)) (hv : v.category = 1) (k : WP K l y fr lo n0 k0 r w' (pc + 1) L S w) : WP K l y fr lo n0 k0 r w' pc L (v :: S) w :=
  WP.go (fun p e s m args below meth c H locs ls R cells slots Q X hr hL kk => lv_pop X.1 X.2.1 hd ((cv_cat v).trans hv) kk) k
theorem wp_dup2 {v u : Value} (hd : decode y.2.1 pc = .ok (.dup2, 1)) (hv : v.category = 1) (hu : u.category = 1) (k : WP K l y fr lo n0 k0 r w' (pc + 1) L (v :: u :: v :: u :: S) w) : WP K l y fr lo n0 k0 r w' pc L (v :: u :: S) w :=
  WP.go (fun p e s m args below meth c H locs ls R cells slots Q X hr hL kk => lv_dup2_11 X.1 X.2.1 hd ((cv_cat v).trans hv) ((cv_cat u).trans hu) kk) k
theorem wp_if_eq {x : Int32} {off : Int} {tgt : Nat} (hd : decode y.2.1 pc = .ok (.ifCond .eq off, 3)) (ht : (pc : Int) + off = (tgt : Int)) (kt : x = 0 → WP K l y fr lo n0 k0 r w' tgt L S w) (kf : ¬ x = 0 → WP K l y fr lo n0 k0 r w' (pc + 3) L S w) : WP K l y fr lo n0 k0 r w' pc L (.int x :: S) w := by
  by_cases h : x = 0
  · exact WP.go (fun p e s m args below meth c H locs ls R cells slots Q X hr hL kk => lv_if_eq X.1 X.2.1 hd ht (fun _ => kk) (fun q => absurd h q)) (kt h)
  · exact WP.go (fun p e s m args below meth c H locs ls R cells slots Q X hr hL kk => lv_if_eq X.1 X.2.1 hd ht (fun q => absurd q h) (fun _ => kk)) (kf h)
theorem wp_if_lt {x : Int32} {off : Int} {tgt : Nat} (hd : decode y.2.1 pc = .ok (.ifCond .lt off, 3)) (ht : (pc : Int) + off = (tgt : Int)) (kt : x < 0 → WP K l y fr lo n0 k0 r w' tgt L S w) (kf : ¬ x < 0 → WP K l y fr lo n0 k0 r w' (pc + 3) L S w) : WP K l y fr lo n0 k0 r w' pc L (.int x :: S) w := by
  by_cases h : x < 0
  · exact WP.go (fun p e s m args below meth c H locs ls R cells slots Q X hr hL kk => lv_if_lt X.1 X.2.1 hd ht (fun _ => kk) (fun q => absurd h q)) (kt h)
  · exact WP.go (fun p e s m args below meth c H locs ls R cells slots Q X hr hL kk => lv_if_lt X.1 X.2.1 hd ht (fun q => absurd q h) (fun _ => kk)) (kf h)
theorem wp_if_ge {x : Int32} {off : Int} {tgt : Nat} (hd : decode y.2.1 pc = .ok (.ifCond .ge off, 3)) (ht : (pc : Int) + off = (tgt : Int)) (kt : 0 ≤ x → WP K l y fr lo n0 k0 r w' tgt L S w) (kf : ¬ 0 ≤ x → WP K l y fr lo n0 k0 r w' (pc + 3) L S w) : WP K l y fr lo n0 k0 r w' pc L (.int x :: S) w := by
  by_cases h : 0 ≤ x
  · exact WP.go (fun p e s m args below meth c H locs ls R cells slots Q X hr hL kk => lv_if_ge X.1 X.2.1 hd ht (fun _ => kk) (fun q => absurd h q)) (kt h)
  · exact WP.go (fun p e s m args below meth c H locs ls R cells slots Q X hr hL kk => lv_if_ge X.1 X.2.1 hd ht (fun q => absurd q h) (fun _ => kk)) (kf h)
theorem wp_if_gt {x : Int32} {off : Int} {tgt : Nat} (hd : decode y.2.1 pc = .ok (.ifCond .gt off, 3)) (ht : (pc : Int) + off = (tgt : Int)) (kt : 0 < x → WP K l y fr lo n0 k0 r w' tgt L S w) (kf : ¬ 0 < x → WP K l y fr lo n0 k0 r w' (pc + 3) L S w) : WP K l y fr lo n0 k0 r w' pc L (.int x :: S) w := by
  by_cases h : 0 < x
  · exact WP.go (fun p e s m args below meth c H locs ls R cells slots Q X hr hL kk => lv_if_gt X.1 X.2.1 hd ht (fun _ => kk) (fun q => absurd h q)) (kt h)
  · exact WP.go (fun p e s m args below meth c H locs ls R cells slots Q X hr hL kk => lv_if_gt X.1 X.2.1 hd ht (fun q => absurd q h) (fun _ => kk)) (kf h)
theorem wp_if_le {x : Int32} {off : Int} {tgt : Nat} (hd : decode y.2.1 pc = .ok (.ifCond .le off, 3)) (ht : (pc : Int) + off = (tgt : Int)) (kt : x ≤ 0 → WP K l y fr lo n0 k0 r w' tgt L S w) (kf : ¬ x ≤ 0 → WP K l y fr lo n0 k0 r w' (pc + 3) L S w) : WP K l y fr lo n0 k0 r w' pc L (.int x :: S) w := by
  by_cases h : x ≤ 0
  · exact WP.go (fun p e s m args below meth c H locs ls R cells slots Q X hr hL kk => lv_if_le X.1 X.2.1 hd ht (fun _ => kk) (fun q => absurd h q)) (kt h)
  · exact WP.go (fun p e s m args below meth c H locs ls R cells slots Q X hr hL kk => lv_if_le X.1 X.2.1 hd ht (fun q => absurd q h) (fun _ => kk)) (kf h)
theorem wp_if_ne {x : Int32} {off : Int} {tgt : Nat} (hd : decode y.2.1 pc = .ok (.ifCond .ne off, 3)) (ht : (pc : Int) + off = (tgt : Int)) (kt : ¬ x = 0 → WP K l y fr lo n0 k0 r w' tgt L S w) (kf : x = 0 → WP K l y fr lo n0 k0 r w' (pc + 3) L S w) : WP K l y fr lo n0 k0 r w' pc L (.int x :: S) w := by
  by_cases h : x = 0
  · exact WP.go (fun p e s m args below meth c H locs ls R cells slots Q X hr hL kk => lv_if_ne X.1 X.2.1 hd ht (fun q => absurd h q) (fun _ => kk)) (kf h)
  · exact WP.go (fun p e s m args below meth c H locs ls R cells slots Q X hr hL kk => lv_if_ne X.1 X.2.1 hd ht (fun _ => kk) (fun q => absurd q h)) (kt h)
theorem wp_icmp_eq {x y0 : Int32} {off : Int} {tgt : Nat} (hd : decode y.2.1 pc = .ok (.if_icmp .eq off, 3)) (ht : (pc : Int) + off = (tgt : Int)) (kt : x = y0 → WP K l y fr lo n0 k0 r w' tgt L S w) (kf : ¬ x = y0 → WP K l y fr lo n0 k0 r w' (pc + 3) L S w) : WP K l y fr lo n0 k0 r w' pc L (.int y0 :: .int x :: S) w := by
  by_cases h : x = y0
  · exact WP.go (fun p e s m args below meth c H locs ls R cells slots Q X hr hL kk => lv_icmp_eq X.1 X.2.1 hd ht (fun _ => kk) (fun q => absurd h q)) (kt h)
  · exact WP.go (fun p e s m args below meth c H locs ls R cells slots Q X hr hL kk => lv_icmp_eq X.1 X.2.1 hd ht (fun q => absurd q h) (fun _ => kk)) (kf h)
theorem wp_icmp_lt {x y0 : Int32} {off : Int} {tgt : Nat} (hd : decode y.2.1 pc = .ok (.if_icmp .lt off, 3)) (ht : (pc : Int) + off = (tgt : Int)) (kt : x < y0 → WP K l y fr lo n0 k0 r w' tgt L S w) (kf : ¬ x < y0 → WP K l y fr lo n0 k0 r w' (pc + 3) L S w) : WP K l y fr lo n0 k0 r w' pc L (.int y0 :: .int x :: S) w := by
  by_cases h : x < y0
  · exact WP.go (fun p e s m args below meth c H locs ls R cells slots Q X hr hL kk => lv_icmp_lt X.1 X.2.1 hd ht (fun _ => kk) (fun q => absurd h q)) (kt h)
  · exact WP.go (fun p e s m args below meth c H locs ls R cells slots Q X hr hL kk => lv_icmp_lt X.1 X.2.1 hd ht (fun q => absurd q h) (fun _ => kk)) (kf h)
theorem wp_icmp_ge {x y0 : Int32} {off : Int} {tgt : Nat} (hd : decode y.2.1 pc = .ok (.if_icmp .ge off, 3)) (ht : (pc : Int) + off = (tgt : Int)) (kt : y0 ≤ x → WP K l y fr lo n0 k0 r w' tgt L S w) (kf : ¬ y0 ≤ x → WP K l y fr lo n0 k0 r w' (pc + 3) L S w) : WP K l y fr lo n0 k0 r w' pc L (.int y0 :: .int x :: S) w := by
  by_cases h : y0 ≤ x
  · exact WP.go (fun p e s m args below meth c H locs ls R cells slots Q X hr hL kk => lv_icmp_ge X.1 X.2.1 hd ht (fun _ => kk) (fun q => absurd h q)) (kt h)
  · exact WP.go (fun p e s m args below meth c H locs ls R cells slots Q X hr hL kk => lv_icmp_ge X.1 X.2.1 hd ht (fun q => absurd q h) (fun _ => kk)) (kf h)
theorem wp_icmp_gt {x y0 : Int32} {off : Int} {tgt : Nat} (hd : decode y.2.1 pc = .ok (.if_icmp .gt off, 3)) (ht : (pc : Int) + off = (tgt : Int)) (kt : y0 < x → WP K l y fr lo n0 k0 r w' tgt L S w) (kf : ¬ y0 < x → WP K l y fr lo n0 k0 r w' (pc + 3) L S w) : WP K l y fr lo n0 k0 r w' pc L (.int y0 :: .int x :: S) w := by
  by_cases h : y0 < x
  · exact WP.go (fun p e s m args below meth c H locs ls R cells slots Q X hr hL kk => lv_icmp_gt X.1 X.2.1 hd ht (fun _ => kk) (fun q => absurd h q)) (kt h)
  · exact WP.go (fun p e s m args below meth c H locs ls R cells slots Q X hr hL kk => lv_icmp_gt X.1 X.2.1 hd ht (fun q => absurd q h) (fun _ => kk)) (kf h)
theorem wp_icmp_le {x y0 : Int32} {off : Int} {tgt : Nat} (hd : decode y.2.1 pc = .ok (.if_icmp .le off, 3)) (ht : (pc : Int) + off = (tgt : Int)) (kt : x ≤ y0 → WP K l y fr lo n0 k0 r w' tgt L S w) (kf : ¬ x ≤ y0 → WP K l y fr lo n0 k0 r w' (pc + 3) L S w) : WP K l y fr lo n0 k0 r w' pc L (.int y0 :: .int x :: S) w := by
  by_cases h : x ≤ y0
  · exact WP.go (fun p e s m args below meth c H locs ls R cells slots Q X hr hL kk => lv_icmp_le X.1 X.2.1 hd ht (fun _ => kk) (fun q => absurd h q)) (kt h)
  · exact WP.go (fun p e s m args below meth c H locs ls R cells slots Q X hr hL kk => lv_icmp_le X.1 X.2.1 hd ht (fun q => absurd q h) (fun _ => kk)) (kf h)
theorem wp_icmp_ne {x y0 : Int32} {off : Int} {tgt : Nat} (hd : decode y.2.1 pc = .ok (.if_icmp .ne off, 3)) (ht : (pc : Int) + off = (tgt : Int)) (kt : ¬ x = y0 → WP K l y fr lo n0 k0 r w' tgt L S w) (kf : x = y0 → WP K l y fr lo n0 k0 r w' (pc + 3) L S w) : WP K l y fr lo n0 k0 r w' pc L (.int y0 :: .int x :: S) w := by
  by_cases h : x = y0
  · exact WP.go (fun p e s m args below meth c H locs ls R cells slots Q X hr hL kk => lv_icmp_ne X.1 X.2.1 hd ht (fun q => absurd h q) (fun _ => kk)) (kf h)
  · exact WP.go (fun p e s m args below meth c H locs ls R cells slots Q X hr hL kk => lv_icmp_ne X.1 X.2.1 hd ht (fun _ => kk) (fun q => absurd q h)) (kt h)
theorem wp_goto {off : Int} {tgt : Nat} (hd : decode y.2.1 pc = .ok (.goto off, 3)) (ht : (pc : Int) + off = (tgt : Int)) (k : WP K l y fr lo n0 k0 r w' tgt L S w) : WP K l y fr lo n0 k0 r w' pc L S w :=
  WP.go (fun p e s m args below meth c H locs ls R cells slots Q X hr hL kk => lv_goto X.1 X.2.1 hd ht kk) k
theorem wp_i2c {x : Int32} (hd : decode y.2.1 pc = .ok (.i2c, 1)) (k : WP K l y fr lo n0 k0 r w' (pc + 1) L (.int (x.toUInt32 % 65536).toInt32 :: S) w) : WP K l y fr lo n0 k0 r w' pc L (.int x :: S) w :=
  WP.go (fun p e s m args below meth c H locs ls R cells slots Q X hr hL kk => lv_i2c X.1 X.2.1 hd rfl kk) k
theorem wp_i2b {x : Int32} (hd : decode y.2.1 pc = .ok (.i2b, 1)) (k : WP K l y fr lo n0 k0 r w' (pc + 1) L (.int x.toInt8.toInt32 :: S) w) : WP K l y fr lo n0 k0 r w' pc L (.int x :: S) w :=
  WP.go (fun p e s m args below meth c H locs ls R cells slots Q X hr hL kk => lv_i2b X.1 X.2.1 hd rfl kk) k
theorem wp_iushr {x y0 : Int32} (hd : decode y.2.1 pc = .ok (.iushr, 1)) (k : WP K l y fr lo n0 k0 r w' (pc + 1) L (.int (x.toUInt32 >>> (y0.toUInt32 &&& Int32.toUInt32 31)).toInt32 :: S) w) : WP K l y fr lo n0 k0 r w' pc L (.int y0 :: .int x :: S) w :=
  WP.go (fun p e s m args below meth c H locs ls R cells slots Q X hr hL kk => lv_iushr X.1 X.2.1 hd rfl kk) k
theorem wp_lshl {x : Int64} {y0 : Int32} (hd : decode y.2.1 pc = .ok (.lshl, 1)) (k : WP K l y fr lo n0 k0 r w' (pc + 1) L (.long (x <<< (y0.toInt64 &&& 63)) :: S) w) : WP K l y fr lo n0 k0 r w' pc L (.int y0 :: .long x :: S) w :=
  WP.go (fun p e s m args below meth c H locs ls R cells slots Q X hr hL kk => lv_lshl X.1 X.2.1 hd rfl kk) k
end WPS
