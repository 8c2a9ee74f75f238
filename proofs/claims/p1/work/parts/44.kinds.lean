/-! of which kind: the class's table of uses, the model's run -/
def u8 (x : Int32) : Int32 := if x = -4 then 8 else x
def kdv (f k : Nat) : Nat → Int32 := upd kd0 f (nI k)
def Vn (f k a : Nat) : Int32 := nxt (kdv f k) ch0 (itS (kdv f k) ch0 a S0)
def kb : Nat → Nat → Int32 → Int32
  | 0, _, s => s
  | m + 1, k, s => kb m (k + 1) (s ||| ((1 : Int32) <<< (nI k &&& 31)))
theorem upd_k {K : Nat → Int32} {f : Nat} (h : ∀ q, q ≠ f → K q = kd0 q) (v : Int32) : upd K f v = upd kd0 f v := by
  funext q
  by_cases e : q = f
  · rw [e, pk_us, pk_us]
  · rw [pk_un e, pk_un e, h q e]
theorem upd_b {f : Nat} (v : Int32) : ∀ q, q ≠ f → upd kd0 f v q = kd0 q := fun q e => pk_un e
theorem upd_0 {K : Nat → Int32} {f : Nat} (h : ∀ q, q ≠ f → K q = kd0 q) : upd K f (kd0 f) = kd0 := by
  funext q
  by_cases e : q = f
  · rw [e, pk_us]
  · rw [pk_un e, h q e]
theorem la_0 {l : List Int32} {j : Nat} (h : l.length ≤ j) : la l j = 0 := by
  unfold la
  rw [List.getD_eq_getElem?_getD, List.getElem?_eq_none h]
  rfl
theorem cpk : va_cpy kd0 (la []) 0 0 8 = kd0 := by
  funext q
  show (if 0 ≤ q ∧ q < 0 + 8 then la [] (0 + (q - 0)) else la [] q) = la [] q
  rw [la_0 (Nat.zero_le _), la_0 (Nat.zero_le _)]
  split <;> rfl
theorem cpc : va_cpy ch0 (la []) 0 0 48 = ch0 := by
  funext q
  show (if 0 ≤ q ∧ q < 0 + 48 then ch0 (0 + (q - 0)) else la [] q) = ch0 q
  split
  · rw [show 0 + (q - 0) = q by omega]
  · rename_i h
    rw [la_0 (Nat.zero_le _)]
    exact (la_0 (by show 32 ≤ q; omega)).symm
theorem draft_spec : ∃ w, fX1_copyFrom WN 11 5 = some w ∧ Off sC WN w ∧ FrA w 11 kd0 ch0 ∧ anS w 20 ∧ xat w 67 (xi 0 366 (la [])) := by
  have hs : ∀ k, 11 ≤ k → k ≤ 16 → sC k := fun k a b => Or.inl ⟨a, b⟩
  have x11 : xat WN 11 (xo 1 [.ref 12, .ref 13, .ref 14, .ref 15, .ref 16, .int 0]) := ⟨by decide, rfl⟩
  have x5 : xat WN 5 (xo 1 [.ref 6, .ref 7, .ref 8, .ref 9, .ref 10, .int 6]) := ⟨by decide, rfl⟩
  have x6 : xat WN 6 (xi 0 8 (la [])) := ⟨by decide, rfl⟩
  have x7 : xat WN 7 (xi 0 8 (la [455, 11, 1, 3, 11, 1])) := ⟨by decide, rfl⟩
  have x8 : xat WN 8 (xi 0 8 (la [33, 13, 11, 7, 2, 3])) := ⟨by decide, rfl⟩
  have x9 : xat WN 9 (xi 0 48 ch0) := ⟨by decide, rfl⟩
  have x10 : xat WN 10 (xi 0 6 (la [3, 2])) := ⟨by decide, rfl⟩
  have x12 : xat WN 12 (xi 0 8 (la [])) := ⟨by decide, rfl⟩
  have x13 : xat WN 13 (xi 0 8 (la [])) := ⟨by decide, rfl⟩
  have x14 : xat WN 14 (xi 0 8 (la [])) := ⟨by decide, rfl⟩
  have x15 : xat WN 15 (xi 0 48 (la [])) := ⟨by decide, rfl⟩
  have x16 : xat WN 16 (xi 0 6 (la [])) := ⟨by decide, rfl⟩
  have x67 : xat WN 67 (xi 0 366 (la [])) := ⟨by decide, rfl⟩
  have c1 := cpI_at (n := 8) x6 x12 (by omega) (by omega) (by omega)
  rw [cpk] at c1
  have o1 : Off (fun k => k = 12) WN (xput WN 12 (xi 0 8 kd0)) := Off.put rfl
  have y12 : xat (xput WN 12 (xi 0 8 kd0)) 12 (xi 0 8 kd0) := xat_put x12
  generalize xput WN 12 (xi 0 8 kd0) = w1 at c1 o1 y12
  have c2 := cpI_at (n := 8) (o1.xat x7 (by omega)) (o1.xat x13 (by omega)) (by omega) (by omega) (by omega)
  have o2 : Off (fun k => 12 ≤ k ∧ k ≤ 13) WN (xput w1 13 (xi 0 8 (va_cpy (la [455, 11, 1, 3, 11, 1]) (la []) 0 0 8))) := (o1.mono (fun k (z : k = 12) => ⟨by omega, by omega⟩)).tr (Off.put ⟨by omega, by omega⟩)
  have y12b := xat_ne (c := xi 0 8 (va_cpy (la [455, 11, 1, 3, 11, 1]) (la []) 0 0 8)) y12 (show 12 ≠ 13 by omega)
  generalize xput w1 13 (xi 0 8 (va_cpy (la [455, 11, 1, 3, 11, 1]) (la []) 0 0 8)) = w2 at c2 o2 y12b
  have c3 := cpI_at (n := 8) (o2.xat x8 (by omega)) (o2.xat x14 (by omega)) (by omega) (by omega) (by omega)
  have o3 : Off (fun k => 12 ≤ k ∧ k ≤ 14) WN (xput w2 14 (xi 0 8 (va_cpy (la [33, 13, 11, 7, 2, 3]) (la []) 0 0 8))) := (o2.mono (fun k (z : 12 ≤ k ∧ k ≤ 13) => ⟨by omega, by omega⟩)).tr (Off.put ⟨by omega, by omega⟩)
  have y12c := xat_ne (c := xi 0 8 (va_cpy (la [33, 13, 11, 7, 2, 3]) (la []) 0 0 8)) y12b (show 12 ≠ 14 by omega)
  generalize xput w2 14 (xi 0 8 (va_cpy (la [33, 13, 11, 7, 2, 3]) (la []) 0 0 8)) = w3 at c3 o3 y12c
  have c4 := cpI_at (n := 48) (o3.xat x9 (by omega)) (o3.xat x15 (by omega)) (by omega) (by omega) (by omega)
  rw [cpc] at c4
  have o4 : Off (fun k => 12 ≤ k ∧ k ≤ 15) WN (xput w3 15 (xi 0 48 ch0)) := (o3.mono (fun k (z : 12 ≤ k ∧ k ≤ 14) => ⟨by omega, by omega⟩)).tr (Off.put ⟨by omega, by omega⟩)
  have y12d := xat_ne (c := xi 0 48 ch0) y12c (show 12 ≠ 15 by omega)
  have y15 : xat (xput w3 15 (xi 0 48 ch0)) 15 (xi 0 48 ch0) := xat_put (o3.xat x15 (by omega))
  generalize xput w3 15 (xi 0 48 ch0) = w4 at c4 o4 y12d y15
  have c5 := cpI_at (n := 6) (o4.xat x10 (by omega)) (o4.xat x16 (by omega)) (by omega) (by omega) (by omega)
  have o5 : Off (fun k => 12 ≤ k ∧ k ≤ 16) WN (xput w4 16 (xi 0 6 (va_cpy (la [3, 2]) (la []) 0 0 6))) := (o4.mono (fun k (z : 12 ≤ k ∧ k ≤ 15) => ⟨by omega, by omega⟩)).tr (Off.put ⟨by omega, by omega⟩)
  have y12e := xat_ne (c := xi 0 6 (va_cpy (la [3, 2]) (la []) 0 0 6)) y12d (show 12 ≠ 16 by omega)
  have y15e := xat_ne (c := xi 0 6 (va_cpy (la [3, 2]) (la []) 0 0 6)) y15 (show 15 ≠ 16 by omega)
  generalize xput w4 16 (xi 0 6 (va_cpy (la [3, 2]) (la []) 0 0 6)) = w5 at c5 o5 y12e y15e
  have y11 := o5.xat x11 (by omega)
  have p6 := pV_at (k := 5) (y := .int 6) y11 (by simp)
  have o6 : Off (fun k => 11 ≤ k ∧ k ≤ 16) WN (xput w5 11 (xo 1 [.ref 12, .ref 13, .ref 14, .ref 15, .ref 16, .int 6])) := (o5.mono (fun k (z : 12 ≤ k ∧ k ≤ 16) => ⟨by omega, by omega⟩)).tr (Off.put ⟨by omega, by omega⟩)
  refine ⟨xput w5 11 (xo 1 [.ref 12, .ref 13, .ref 14, .ref 15, .ref 16, .int 6]), ?_, o6.mono (fun k z => hs k z.1 z.2), ⟨⟨6, xat_put y11⟩, xat_ne y12e (by omega), xat_ne y15e (by omega)⟩, ?_, o6.xat x67 (by omega)⟩
  · unfold fX1_copyFrom eX1_copyFrom
    rw [if_pos (isO_at x11), gR_at (k := 0) x5 rfl, Option.bind_some, gR_at (k := 0) x11 rfl, Option.bind_some]
    rw [show (8 : Int32) = nI 8 from rfl, show (48 : Int32) = nI 48 from rfl, show (6 : Int32) = nI 6 from rfl]
    rw [c1, Option.bind_some, gR_at (k := 1) (o1.xat x5 (by omega)) rfl, Option.bind_some, gR_at (k := 1) (o1.xat x11 (by omega)) rfl, Option.bind_some, c2, Option.bind_some]
    rw [gR_at (k := 2) (o2.xat x5 (by omega)) rfl, Option.bind_some, gR_at (k := 2) (o2.xat x11 (by omega)) rfl, Option.bind_some, c3, Option.bind_some]
    rw [gR_at (k := 3) (o3.xat x5 (by omega)) rfl, Option.bind_some, gR_at (k := 3) (o3.xat x11 (by omega)) rfl, Option.bind_some, c4, Option.bind_some]
    rw [gR_at (k := 4) (o4.xat x5 (by omega)) rfl, Option.bind_some, gR_at (k := 4) (o4.xat x11 (by omega)) rfl, Option.bind_some, c5, Option.bind_some]
    rw [gI_at (k := 5) (o5.xat x5 (by omega)) rfl, Option.bind_some, p6, Option.bind_some]
    rfl
  · obtain ⟨P, R, rs, ub, st, en, ti, hs2⟩ := an20
    exact ⟨P, R, rs, ub, st, en, ti, o6.StA hs2 (fun k a b z => by have := z.1; have := z.2; omega)⟩
theorem tells_spec {w : XW} (ho : Off sC WN w) (k : Int32) : fX7_tellsWhatWasSeen w 0 k = some (1, w) := by
  unfold fX7_tellsWhatWasSeen
  rw [if_pos (oc_o ho)]
  show hX7_tellsWhatWasSeen_2 (loX7_tellsWhatWasSeen 4095) w 0 k 0 = _
  unfold hX7_tellsWhatWasSeen_2
  rw [gI_at (k := 11) (oc_0 ho) rfl, Option.bind_some, if_pos (by decide)]
theorem oc_12 {w : XW} (h : Off sC WN w) : gR w 0 7 12 = some 67 := oc_g h rfl
theorem u_at {w : XW} {U : Nat → Int32} (h : xat w 67 (xi 0 366 U)) {a : Nat} (ha : a < 366) (v : Int32) : ∃ w', sI w 0 67 (nI a) v = some w' ∧ xat w' 67 (xi 0 366 (upd U a v)) ∧ Off (fun k => k = 67) w w' :=
  ⟨_, sI_at h ha (nI_cl (by omega)) (nI_nn (by omega)), xat_put h, Off.put rfl⟩
theorem oc_67 {w w' : XW} (h : Off (fun k => k = 67) w w') : Off sC w w' := h.mono (fun k (z : k = 67) => Or.inr (Or.inr z))
theorem fk_in {K : Nat → Int32} {f k : Nat} {s : Int32} (hk : k < 6) : ∀ (m a n : Nat) (w : XW) (S : PS) (t : Int32) (U : Nat → Int32), Off sC WN w → FrA w 11 K ch0 → Cl w 20 S t → xat w 67 (xi 0 366 U) → a + m = 60 → m + 1 ≤ n → ∃ n' w' U', n = n' + m + 1 ∧ (loX7_findKinds n).2 w 0 (nI f) s (nI k) (nI (a + 1)) = (loX7_findKinds n').1 w' 0 (nI f) (s ||| ((1 : Int32) <<< (nI k &&& 31))) (nI (k + 1)) ∧ Off sC WN w' ∧ FrA w' 11 K ch0 ∧ anS w' 20 ∧ xat w' 67 (xi 0 366 U') ∧ (∀ c, a ≤ c → c < 60 → U' (61 * k + c + 1) = u8 (nxt K ch0 (itS K ch0 (c - a) S))) ∧ (∀ x, x < 61 * k + a + 1 ∨ 61 * k + 60 < x → U' x = U x) := by
  intro m
  induction m with
  | zero =>
    intro a n w S t U ho hF hC hU ha hn
    obtain ⟨n, rfl⟩ : ∃ z, n = z + 1 := ⟨n - 1, by omega⟩
    have h60 : a = 60 := by omega
    subst h60
    refine ⟨n, w, U, by omega, ?_, ho, hF, hC.an, hU, fun c h1 h2 => by omega, fun _ _ => rfl⟩
    show hX7_findKinds_45 (loX7_findKinds n) w 0 (nI f) s (nI k) (nI 61) = _
    unfold hX7_findKinds_45
    rw [if_pos (by decide), tells_spec ho, Option.bind_some, if_neg n10]
    unfold bX7_findKinds_110
    rw [nI_1]
  | succ m ih =>
    intro a n w S t U ho hF hC hU ha hn
    obtain ⟨n, rfl⟩ : ∃ z, n = z + 1 := ⟨n - 1, by omega⟩
    have h60 : ¬ (60 : Int32) < nI (a + 1) := nI_nlt (a := 60) (b := a + 1) (by omega) (by omega)
    obtain ⟨w1, t1, g1, g2, g3, g4⟩ := takeStep_spec hC hF (by omega)
    have o1 := ho.tr (oc_t g3)
    have F1 := g3.FrA hF (fun k a b (z : 20 ≤ k ∧ k ≤ 20 + 2) => by omega)
    have U1 := g3.xat hU (by show ¬ (20 ≤ 67 ∧ 67 ≤ 20 + 2); omega)
    obtain ⟨w2, s1, s2, s3⟩ := u_at U1 (a := 61 * k + a + 1) (by omega) (u8 (nxt K ch0 S))
    have o2 := o1.tr (oc_67 s3)
    have F2 := s3.FrA F1 (fun k a b (z : k = 67) => by omega)
    have C2 := s3.Cl g2 (fun k a b (z : k = 67) => by omega)
    have ex : nI k * 61 + nI (a + 1) = nI (61 * k + a + 1) := by rw [show (61 : Int32) = nI 61 from rfl, pk_mul, nI_add, show k * 61 + (a + 1) = 61 * k + a + 1 by omega]
    obtain ⟨n', w3, U3, r1, r2, r3, r4, r5, r6, r7, r8⟩ := ih (a + 1) n w2 _ t1 _ o2 F2 C2 s2 (by omega) (by omega)
    refine ⟨n', w3, U3, by omega, ?_, r3, r4, r5, r6, fun c h1 h2 => ?_, fun x hx => ?_⟩
    · show hX7_findKinds_45 (loX7_findKinds n) w 0 (nI f) s (nI k) (nI (a + 1)) = _
      unfold hX7_findKinds_45
      rw [if_neg h60, oc_5 ho, Option.bind_some, oc_3 ho, Option.bind_some, g1, Option.bind_some, oc_12 o1, Option.bind_some]
      unfold fX7_useAt eX7_useAt
      rw [Option.bind_some, ← r2]
      unfold u8 at s1
      by_cases e : nxt K ch0 S = -4
      · rw [if_pos e] at s1
        rw [if_pos e]
        unfold bX7_findKinds_89
        show (sI w1 0 67 (nI k * 61 + nI (a + 1)) 8).bind _ = _
        rw [ex, s1, Option.bind_some, nI_1]
      · rw [if_neg e] at s1
        rw [if_neg e]
        unfold bX7_findKinds_89
        show (sI w1 0 67 (nI k * 61 + nI (a + 1)) (nxt K ch0 S)).bind _ = _
        rw [ex, s1, Option.bind_some, nI_1]
    · by_cases e : c = a
      · subst e
        rw [r8 (61 * k + c + 1) (by omega), pk_us, Nat.sub_self]
        rfl
      · rw [r7 c (by omega) h2, show c - a = (c - (a + 1)) + 1 by omega]
        rfl
    · rw [r8 x (by omega), pk_un (by omega)]
theorem fk_out {f : Nat} (hf : f < 6) : ∀ (m k n : Nat) (w : XW) (K U : Nat → Int32) (s : Int32), Off sC WN w → FrA w 11 K ch0 → (∀ q, q ≠ f → K q = kd0 q) → anS w 20 → xat w 67 (xi 0 366 U) → k + m = 6 → 1 + 62 * m ≤ n → ∃ w' U', (loX7_findKinds n).1 w 0 (nI f) s (nI k) = some (kb m k s, w') ∧ Off sC WN w' ∧ xat w' 67 (xi 0 366 U') ∧ (∀ k', k ≤ k' → k' < 6 → ∀ c, c < 60 → U' (61 * k' + c + 1) = u8 (Vn f k' c)) ∧ (∀ x, x < 61 * k + 1 → U' x = U x) := by
  intro m
  induction m with
  | zero =>
    intro k n w K U s ho hF hK ha hU hk hn
    obtain ⟨n, rfl⟩ : ∃ z, n = z + 1 := ⟨n - 1, by omega⟩
    have h6 : k = 6 := by omega
    subst h6
    refine ⟨w, U, ?_, ho, hU, fun k' h1 h2 => by omega, fun _ _ => rfl⟩
    show hX7_findKinds_15 (loX7_findKinds n) w 0 (nI f) s (nI 6) = _
    unfold hX7_findKinds_15
    rw [if_pos (by decide)]
    rfl
  | succ m ih =>
    intro k n w K U s ho hF hK ha hU hk hn
    obtain ⟨n, rfl⟩ : ∃ z, n = z + 1 := ⟨n - 1, by omega⟩
    have h6 : ¬ (6 : Int32) ≤ nI k := nI_ge (a := k) (b := 6) (by omega) (by omega)
    have hFF := hF
    obtain ⟨⟨sz, t1⟩, t2, t3⟩ := hF
    have s1 : sI w 0 12 (nI f) (nI k) = some (xput w 12 (xi 0 8 (upd K f (nI k)))) := sI_at t2 (show f < 8 by omega) (nI_cl (by omega)) (nI_nn (by omega))
    rw [upd_k hK] at s1
    have o1 : Off (fun k => k = 12) w (xput w 12 (xi 0 8 (upd kd0 f (nI k)))) := Off.put rfl
    have F1 : FrA (xput w 12 (xi 0 8 (upd kd0 f (nI k)))) 11 (kdv f k) ch0 := ⟨⟨sz, xat_ne t1 (by omega)⟩, xat_put t2, xat_ne t3 (by omega)⟩
    generalize xput w 12 (xi 0 8 (upd kd0 f (nI k))) = w1 at s1 o1 F1
    have ho1 : Off sC WN w1 := ho.tr (o1.mono (fun k (z : k = 12) => Or.inl ⟨by omega, by omega⟩))
    have ha1 : anS w1 20 := by
      obtain ⟨P, R, rs, ub, st, en, ti, hs2⟩ := ha
      exact ⟨P, R, rs, ub, st, en, ti, o1.StA hs2 (fun k a b (z : k = 12) => by omega)⟩
    have hU1 := o1.xat hU (by show ¬ 67 = 12; omega)
    obtain ⟨w2, t2', c1, c2, c3, c4⟩ := oc_cp ho1 ha1
    have F2 := c3.FrA F1 (fun k a b (z : 20 ≤ k ∧ k ≤ 20 + 2) => by omega)
    have hU2 := c3.xat hU1 (by show ¬ (20 ≤ 67 ∧ 67 ≤ 20 + 2); omega)
    obtain ⟨n', w3, U3, r1, r2, r3, r4, r5, r6, r7, r8⟩ := fk_in (f := f) (s := s) (show k < 6 by omega) 60 0 n w2 S0 t2' U c4 F2 c2 hU2 rfl (by omega)
    obtain ⟨w4, U4, q1, q2, q3, q4, q5⟩ := ih (k + 1) n' w3 _ U3 (s ||| ((1 : Int32) <<< (nI k &&& 31))) r3 r4 (upd_b (nI k)) r5 r6 (by omega) (by omega)
    refine ⟨w4, U4, ?_, q2, q3, fun k' h1 h2 c hc => ?_, fun x hx => ?_⟩
    · show hX7_findKinds_15 (loX7_findKinds n) w 0 (nI f) s (nI k) = _
      unfold hX7_findKinds_15
      rw [if_neg h6, oc_3 ho, Option.bind_some, gR_at (k := 0) t1 rfl, Option.bind_some, s1, Option.bind_some, oc_5 ho1, Option.bind_some, oc_4 ho1, Option.bind_some, c1, Option.bind_some, kb, ← q1, ← r2]
      rfl
    · by_cases e : k' = k
      · subst e
        rw [q5 _ (by omega), r7 c (by omega) hc]
        rfl
      · exact q4 k' (by omega) h2 c hc
    · rw [q5 x (by omega), r8 x (by omega)]
theorem fk_spec {f : Nat} (hf : f < 6) : ∃ w' U', fX7_findKinds WN 0 (nI f) = some (kb 6 0 0, w') ∧ Off sC WN w' ∧ xat w' 67 (xi 0 366 U') ∧ (∀ k, k < 6 → ∀ c, c < 60 → U' (61 * k + c + 1) = u8 (Vn f k c)) := by
  obtain ⟨w1, d1, d2, d3, d4, d5⟩ := draft_spec
  obtain ⟨w2, U2, q1, q2, q3, q4, q5⟩ := fk_out hf 6 0 FU w1 kd0 (la []) 0 d2 d3 (fun _ _ => rfl) d4 d5 rfl (by unfold FU; omega)
  refine ⟨w2, U2, ?_, q2, q3, fun k hk c hc => q4 k (by omega) hk c hc⟩
  unfold fX7_findKinds eX7_findKinds
  rw [if_pos o7, oc_3 Off.rf, Option.bind_some, oc_2 Off.rf, Option.bind_some, d1, Option.bind_some]
  exact q1
