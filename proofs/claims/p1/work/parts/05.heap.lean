/-! the heap: what is read and written, as computed, and the rows for it -/
def gI (w : XW) (i ci k : Nat) : Option Int32 := match w.2.2 i with
  | .inr (.inr (.inr q)) => if i < w.1 ∧ q.1 = ci then (match q.2[k]? with | some (.int x) => some x | _ => none) else none
  | _ => none
def gR (w : XW) (i ci k : Nat) : Option Nat := match w.2.2 i with
  | .inr (.inr (.inr q)) => if i < w.1 ∧ q.1 = ci then (match q.2[k]? with | some (.ref x) => some x | _ => none) else none
  | _ => none
def pV (w : XW) (i ci k : Nat) (v : Value) : Option XW := match w.2.2 i with
  | .inr (.inr (.inr q)) => if i < w.1 ∧ q.1 = ci ∧ k < q.2.length then some (xput w i (xo ci (q.2.set k v))) else none
  | _ => none
def aI (w : XW) (t i : Nat) (x : Int32) : Option Int32 := match w.2.2 i with
  | .inl q => if i < w.1 ∧ q.1 = t ∧ ¬ (x < 0 ∨ q.2.1 ≤ x.toNatClampNeg) then some (q.2.2 x.toNatClampNeg) else none
  | _ => none
def sI (w : XW) (t i : Nat) (x v : Int32) : Option XW := match w.2.2 i with
  | .inl q => if i < w.1 ∧ q.1 = t ∧ ¬ (x < 0 ∨ q.2.1 ≤ x.toNatClampNeg) then some (xput w i (xi t q.2.1 (upd q.2.2 x.toNatClampNeg v))) else none
  | _ => none
def aJ (w : XW) (i : Nat) (x : Int32) : Option Int64 := match w.2.2 i with
  | .inr (.inl q) => if i < w.1 ∧ ¬ (x < 0 ∨ q.1 ≤ x.toNatClampNeg) then some (q.2 x.toNatClampNeg) else none
  | _ => none
def sJ (w : XW) (i : Nat) (x : Int32) (v : Int64) : Option XW := match w.2.2 i with
  | .inr (.inl q) => if i < w.1 ∧ ¬ (x < 0 ∨ q.1 ≤ x.toNatClampNeg) then some (xput w i (xl q.1 (vp_updL q.2 x.toNatClampNeg v))) else none
  | _ => none
def aR (w : XW) (t i : Nat) (x : Int32) : Option Nat := match w.2.2 i with
  | .inr (.inr (.inl q)) => if i < w.1 ∧ q.1 = t ∧ ¬ (x < 0 ∨ q.2.1 ≤ x.toNatClampNeg) then q.2.2 x.toNatClampNeg else none
  | _ => none
def sR (w : XW) (t i : Nat) (x : Int32) (j ec : Nat) : Option XW := match w.2.2 i with
  | .inr (.inr (.inl q)) => (match w.2.2 j with
    | .inr (.inr (.inr o)) => if i < w.1 ∧ q.1 = t ∧ ¬ (x < 0 ∨ q.2.1 ≤ x.toNatClampNeg) ∧ j < w.1 ∧ o.1 = ec then some (xput w i (xr t q.2.1 (va_up q.2.2 x.toNatClampNeg (some j)))) else none
    | _ => none)
  | _ => none
def eI (sn : Nat) (sx : Nat → Int32) (x : Int32) : Option Int32 := if ¬ (x < 0 ∨ sn ≤ x.toNatClampNeg) then some (sx x.toNatClampNeg) else none
def pI (x : Int32) : Option Int32 := if ¬ (x < 0 ∨ 6 ≤ x.toNatClampNeg) then some (prA x.toNatClampNeg) else none
def bI (x : Int32) : Option Int32 := if ¬ (x < 0 ∨ 53 ≤ x.toNatClampNeg) then some (byA x.toNatClampNeg) else none
section HP
variable {K : CX} {l : Launch} {y : MR} {fr lo n0 k0 : Nat} {r : Option Value} {w' : XW} {pc : Nat} {L L1 : List (Option Value)} {S S1 : List Value} {w w1 : XW} {pc1 : Nat}
theorem gI_spec {i ci k : Nat} {x : Int32} (h : gI w i ci k = some x) : ∃ fs, xat w i (xo ci fs) ∧ fs[k]? = some (.int x) := by
  unfold gI at h
  split at h
  · rename_i q hq
    split at h
    · rename_i hc
      obtain ⟨h1, rfl⟩ := hc
      split at h
      · rename_i x0 hx
        cases h
        exact ⟨q.2, ⟨h1, hq⟩, hx⟩
      · cases h
    · cases h
  · cases h
theorem gR_spec {i ci k : Nat} {x : Nat} (h : gR w i ci k = some x) : ∃ fs, xat w i (xo ci fs) ∧ fs[k]? = some (.ref x) := by
  unfold gR at h
  split at h
  · rename_i q hq
    split at h
    · rename_i hc
      obtain ⟨h1, rfl⟩ := hc
      split at h
      · rename_i x0 hx
        cases h
        exact ⟨q.2, ⟨h1, hq⟩, hx⟩
      · cases h
    · cases h
  · cases h
theorem pV_spec {i ci k : Nat} {v : Value} (h : pV w i ci k v = some w1) : ∃ fs, xat w i (xo ci fs) ∧ k < fs.length ∧ w1 = xput w i (xo ci (fs.set k v)) := by
  unfold pV at h
  split at h
  · rename_i q hq
    split at h
    · rename_i hc
      obtain ⟨h1, rfl, h2⟩ := hc
      cases h
      exact ⟨q.2, ⟨h1, hq⟩, h2, rfl⟩
    · cases h
  · cases h
theorem aI_spec {t i : Nat} {x v : Int32} (h : aI w t i x = some v) : ∃ n f, xat w i (xi t n f) ∧ ¬ (x < 0 ∨ n ≤ x.toNatClampNeg) ∧ v = f x.toNatClampNeg := by
  unfold aI at h
  split at h
  · rename_i q hq
    split at h
    · rename_i hc
      obtain ⟨h1, rfl, h2⟩ := hc
      cases h
      exact ⟨q.2.1, q.2.2, ⟨h1, hq⟩, h2, rfl⟩
    · cases h
  · cases h
theorem sI_spec {t i : Nat} {x v : Int32} (h : sI w t i x v = some w1) : ∃ n f, xat w i (xi t n f) ∧ ¬ (x < 0 ∨ n ≤ x.toNatClampNeg) ∧ w1 = xput w i (xi t n (upd f x.toNatClampNeg v)) := by
  unfold sI at h
  split at h
  · rename_i q hq
    split at h
    · rename_i hc
      obtain ⟨h1, rfl, h2⟩ := hc
      cases h
      exact ⟨q.2.1, q.2.2, ⟨h1, hq⟩, h2, rfl⟩
    · cases h
  · cases h
theorem aJ_spec {i : Nat} {x : Int32} {v : Int64} (h : aJ w i x = some v) : ∃ n f, xat w i (xl n f) ∧ ¬ (x < 0 ∨ n ≤ x.toNatClampNeg) ∧ v = f x.toNatClampNeg := by
  unfold aJ at h
  split at h
  · rename_i q hq
    split at h
    · rename_i hc
      obtain ⟨h1, h2⟩ := hc
      cases h
      exact ⟨q.1, q.2, ⟨h1, hq⟩, h2, rfl⟩
    · cases h
  · cases h
theorem sJ_spec {i : Nat} {x : Int32} {v : Int64} (h : sJ w i x v = some w1) : ∃ n f, xat w i (xl n f) ∧ ¬ (x < 0 ∨ n ≤ x.toNatClampNeg) ∧ w1 = xput w i (xl n (vp_updL f x.toNatClampNeg v)) := by
  unfold sJ at h
  split at h
  · rename_i q hq
    split at h
    · rename_i hc
      obtain ⟨h1, h2⟩ := hc
      cases h
      exact ⟨q.1, q.2, ⟨h1, hq⟩, h2, rfl⟩
    · cases h
  · cases h
theorem aR_spec {t i j : Nat} {x : Int32} (h : aR w t i x = some j) : ∃ n f, xat w i (xr t n f) ∧ ¬ (x < 0 ∨ n ≤ x.toNatClampNeg) ∧ f x.toNatClampNeg = some j := by
  unfold aR at h
  split at h
  · rename_i q hq
    split at h
    · rename_i hc
      obtain ⟨h1, rfl, h2⟩ := hc
      exact ⟨q.2.1, q.2.2, ⟨h1, hq⟩, h2, h⟩
    · cases h
  · cases h
theorem sR_spec {t i j ec : Nat} {x : Int32} (h : sR w t i x j ec = some w1) : ∃ n f vs, xat w i (xr t n f) ∧ xat w j (xo ec vs) ∧ ¬ (x < 0 ∨ n ≤ x.toNatClampNeg) ∧ w1 = xput w i (xr t n (va_up f x.toNatClampNeg (some j))) := by
  unfold sR at h
  split at h
  · rename_i q hq
    split at h
    · rename_i o ho
      split at h
      · rename_i hc
        obtain ⟨h1, rfl, h2, h3, rfl⟩ := hc
        cases h
        exact ⟨q.2.1, q.2.2, o.2, ⟨h1, hq⟩, ⟨h3, ho⟩, h2, rfl⟩
      · cases h
    · cases h
  · cases h
/-- a class's rows, as the tables have them -/
def okc (ci : Nat) (C : String) (T : u_T) (N : Nat) (ty : Nat → FieldType) : Prop := classes[ci]? = some (C, T, N) ∧ (∀ u ∈ u_ws C T N, u ∈ TBL) ∧ (∀ k, k < N → parseFieldDescriptor (T k).2.2.1 = some (ty k)) ∧ (∀ a, a < N → ∀ b, b < N → a ≠ b → (T a).2.1 ≠ (T b).2.1)
theorem rep.at {i : Nat} {c : XC} {H : Heap} (hr : rep K w H) (h : xat w i c) : xcell K (cB K + i) c H := by
  have h1 := hr.2.1 i h.1
  rw [h.2] at h1
  exact h1
theorem Stn.wd {p : Program} {s : State} {m : MethodId} {args : Array Value} {meth : Method} {c : Code} (X : Stn K y p s m args meth c) {u : Cond} (h : u ∈ TBL) : u.before args s = true := X.2.2.2.2.1 u (wsM_in h)
theorem wp_getV {i ci k idx : Nat} {C : String} {T : u_T} {N : Nat} {ty : Nat → FieldType} {v : Value} {fs : List Value} (ok : okc ci C T N ty) (hk : k < N) (hl : Cond.fieldLink y.1.cls idx (T k).1 (T k).2.1 (T k).2.2.1 ∈ TBL) (hd : decode y.2.1 pc = .ok (.getfield idx, 3)) (hx : xat w i (xo ci fs)) (hv : fs[k]? = some v) (kk : WP K l y fr lo n0 k0 r w' (pc + 3) L (v :: S) w) : WP K l y fr lo n0 k0 r w' pc L (.ref i :: S) w := by
  refine WP.go (fun p e s m args below meth c H locs ls R cells slots Q X hr hL k1 => ?_) kk
  have hP : va_P (cD K) classes [(cB K + i, .inr (ci, fs.map (cv K)))] H := by
    intro j q hj
    cases j with
    | zero => simp at hj; subst hj; exact hr.at hx
    | succ j => simp at hj
  exact va_get (D := cD K) (cl := classes) (Ts := wsM y) X.1 X.2.1 X.2.2.2.2.1 (fun u hu => wsM_in (ok.2.1 u hu)) X.2.2.2.1 X.2.2.2.2.2.2.2.2.1.1 hP 0 rfl ok.1 k hk (X.wd hl) (fun _ h => h) (v := cv K v) (by rw [List.getElem?_map, hv]; rfl) hd k1
theorem wp_getI {i ci k idx : Nat} {C : String} {T : u_T} {N : Nat} {ty : Nat → FieldType} {x : Int32} (ok : okc ci C T N ty) (hk : k < N) (hl : Cond.fieldLink y.1.cls idx (T k).1 (T k).2.1 (T k).2.2.1 ∈ TBL) (hd : decode y.2.1 pc = .ok (.getfield idx, 3)) (h : gI w i ci k = some x) (kk : WP K l y fr lo n0 k0 r w' (pc + 3) L (.int x :: S) w) : WP K l y fr lo n0 k0 r w' pc L (.ref i :: S) w := by
  obtain ⟨fs, h1, h2⟩ := gI_spec h
  exact wp_getV ok hk hl hd h1 h2 kk
theorem wp_getR {i ci k idx : Nat} {C : String} {T : u_T} {N : Nat} {ty : Nat → FieldType} {x : Nat} (ok : okc ci C T N ty) (hk : k < N) (hl : Cond.fieldLink y.1.cls idx (T k).1 (T k).2.1 (T k).2.2.1 ∈ TBL) (hd : decode y.2.1 pc = .ok (.getfield idx, 3)) (h : gR w i ci k = some x) (kk : WP K l y fr lo n0 k0 r w' (pc + 3) L (.ref x :: S) w) : WP K l y fr lo n0 k0 r w' pc L (.ref i :: S) w := by
  obtain ⟨fs, h1, h2⟩ := gR_spec h
  exact wp_getV ok hk hl hd h1 h2 kk
theorem lcs {locs : List Loc} {a k : Nat} (h : ∀ q ∈ locs, cA K q.base) (ha : cB K ≤ a) : ∀ q ∈ locs ++ [⟨a, k⟩], cA K q.base := by
  intro q hq
  rcases List.mem_append.mp hq with h1 | h1
  · exact h q h1
  · rw [List.mem_singleton.mp h1]; exact ha
theorem wp_putV {i ci k idx : Nat} {C : String} {T : u_T} {N : Nat} {ty : Nat → FieldType} {v : Value} (ok : okc ci C T N ty) (hk : k < N) (hfin : (T k).2.2.2 = false) (hl : Cond.fieldLink y.1.cls idx (T k).1 (T k).2.1 (T k).2.2.1 ∈ TBL) (hd : decode y.2.1 pc = .ok (.putfield idx, 3)) (hn : narrow (ty k) (cv K v) = cv K v) (hf : fits (ty k) (cv K v) = true) (h : pV w i ci k v = some w1) (kk : WP K l y fr lo n0 k0 r w' (pc + 3) L S w1) : WP K l y fr lo n0 k0 r w' pc L (v :: .ref i :: S) w := by
  obtain ⟨fs, hx, hlen, rfl⟩ := pV_spec h
  refine WP.lift (w1 := xput w i (xo ci (fs.set k v))) (Nat.le_refl _) (Nat.le_refl _) (fun p e s m args below meth c H locs ls R Q X hr hlo hL _ _ _ _ _ _ k1 => ?_) kk
  have hts := X.2.2.2.2.1
  have hin : ∀ u ∈ u_ws C T N, u ∈ wsM y := fun u hu => wsM_in (ok.2.1 u hu)
  have hK := X.2.2.2.2.2.2.2.2.1.1
  have hap := va_apart (own := y.1.cls) hts hin ty ok.2.2.1 ok.2.2.2 hK ok.1
  obtain ⟨rr, h1, cell, q1, q2, q3, q4⟩ := hr.at hx
  have hrr : rr = (C, T, N) := Option.some.inj (h1.symm.trans ok.1)
  subst hrr
  obtain ⟨hS, hfc, kC, hkC, hkind⟩ := hK.1 ci _ ok.1
  obtain ⟨cf, kf, fi, f, hi, hsl⟩ := hS k hk
  have hlay := hts _ (hin _ (u_in_lay hk))
  unfold u_lay at hlay
  rw [if_neg (by rw [hfin]; decide)] at hlay
  have hst := (u_facts hfc hkC (u_lays hts hin hk) hi).1
  have h6 := u_store hfc hkC hkind hlay hi (ok.2.2.1 k hk) hn hf
  refine W.putK X.1 X.2.1 (f := f) ⟨X.2.2.2.1, X.wd hl, ⟨_, _, _, hi⟩, hst⟩ (by rw [q2]; exact h6) q1 q3 (by rw [hsl]; exact k2_hasslot (q4 k hk)) rfl rfl hd fun H' e1 e2 e3 => ?_
  rw [hsl] at e1 ⊢
  refine k1 H' _ ls (hr.put e2 ⟨_, ok.1, ?_⟩ e3) (lcs hlo (Nat.le_add_right _ _)) hL
  show t_OB _ _ _ _ _ (vp_V ((fs.set k v).map (cv K)))
  rw [List.map_set]
  exact t_OB.to (V := updV (vp_V (fs.map (cv K))) k (cv K v)) ⟨_, e1, q2, q3, t_set q4 hap hk (cv K v)⟩ (fun j _ => vp_updV_set (by rw [List.length_map]; exact hlen) (cv K v) j)
theorem wp_putF {i ci k idx : Nat} {C : String} {T : u_T} {N : Nat} {ty : Nat → FieldType} {v : Value} (ok : okc ci C T N ty) (hk : k < N) (hfin : (T k).2.2.2 = true) (hown : (T k).1 = y.1.cls) (hini : y.1.name = "<init>") (hl : Cond.fieldLink y.1.cls idx (T k).1 (T k).2.1 (T k).2.2.1 ∈ TBL) (hd : decode y.2.1 pc = .ok (.putfield idx, 3)) (hn : narrow (ty k) (cv K v) = cv K v) (hf : fits (ty k) (cv K v) = true) (h : pV w i ci k v = some w1) (kk : WP K l y fr lo n0 k0 r w' (pc + 3) L S w1) : WP K l y fr lo n0 k0 r w' pc L (v :: .ref i :: S) w := by
  obtain ⟨fs, hx, hlen, rfl⟩ := pV_spec h
  refine WP.lift (w1 := xput w i (xo ci (fs.set k v))) (Nat.le_refl _) (Nat.le_refl _) (fun p e s m args below meth c H locs ls R Q X hr hlo hL _ _ _ _ _ _ k1 => ?_) kk
  have hts := X.2.2.2.2.1
  have hin : ∀ u ∈ u_ws C T N, u ∈ wsM y := fun u hu => wsM_in (ok.2.1 u hu)
  have hK := X.2.2.2.2.2.2.2.2.1.1
  have hap := va_apart (own := y.1.cls) hts hin ty ok.2.2.1 ok.2.2.2 hK ok.1
  obtain ⟨rr, h1, cell, q1, q2, q3, q4⟩ := hr.at hx
  have hrr : rr = (C, T, N) := Option.some.inj (h1.symm.trans ok.1)
  subst hrr
  obtain ⟨hS, hfc, kC, hkC, hkind⟩ := hK.1 ci _ ok.1
  obtain ⟨cf, kf, fi, f, hi, hsl⟩ := hS k hk
  have hlay := hts _ (hin _ (u_in_lay hk))
  unfold u_lay at hlay
  rw [if_pos hfin] at hlay
  have hst := (u_facts hfc hkC (u_lays hts hin hk) hi).1
  have hcf : m.cls = cf := by
    obtain ⟨_, _, c', _, _, _, -, -, hf', -, -, -, hown2, -⟩ := Cond.laysFinal_spec hlay
    have e1 : c' = cf := by have := hi.symm.trans hf'; simp at this; exact this.1.symm
    rw [hown] at hown2
    rw [← e1]; exact Option.some.inj (X.2.2.2.1.symm.trans hown2)
  have h6 := u_fits hfc hkC hkind (Or.inr hlay) hi (ok.2.2.1 k hk) hn hf
  refine W.putFinK X.1 X.2.1 X.2.2.2.1 (X.wd hl) hi hst hcf (X.2.2.2.2.2.2.2.1.trans hini) (by rw [q2]; exact h6) q1 q3 (by rw [hsl]; exact k2_hasslot (q4 k hk)) rfl rfl hd fun H' e1 e2 e3 => ?_
  rw [hsl] at e1 ⊢
  refine k1 H' _ ls (hr.put e2 ⟨_, ok.1, ?_⟩ e3) (lcs hlo (Nat.le_add_right _ _)) hL
  show t_OB _ _ _ _ _ (vp_V ((fs.set k v).map (cv K)))
  rw [List.map_set]
  exact t_OB.to (V := updV (vp_V (fs.map (cv K))) k (cv K v)) ⟨_, e1, q2, q3, t_set q4 hap hk (cv K v)⟩ (fun j _ => vp_updV_set (by rw [List.length_map]; exact hlen) (cv K v) j)
end HP
