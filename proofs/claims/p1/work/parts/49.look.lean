/-! what to look at -/
def cn (E : Nat → Bool) : Nat → Nat → Nat
  | 0, _ => 0
  | m + 1, b => (if E b = true then 1 else 0) + cn E m (b + 1)
def gm (E : Nat → Nat → Bool) : Nat → Nat → Nat → Nat
  | 0, _, t => t
  | m + 1, a, t => gm E m (a + 1) (max t (cn (E a) 6 0))
def EV (f c : Nat) : Nat → Nat → Bool := fun a b => decide (Vn f a c = Vn f b c)
def gp (f c : Nat) : Nat := gm (EV f c) 6 0 0
def bl (f : Nat) : Nat → Nat → Nat → Nat
  | 0, _, t => t
  | m + 1, a, t => bl f m (a + 1) (if gp f a < gp f t then a else t)
def lkE (f : Nat) (what : Int32) (t : Nat) : Int32 := if what = 0 then nI (t + 1) else nI (gp f t)
theorem cn_le (E : Nat → Bool) : ∀ m b, cn E m b ≤ m := by
  intro m
  induction m with
  | zero => intro b; exact Nat.le_refl 0
  | succ m ih =>
    intro b
    have := ih (b + 1)
    rw [cn]
    split <;> omega
theorem gm_le (E : Nat → Nat → Bool) : ∀ m a t, t ≤ 6 → gm E m a t ≤ 6 := by
  intro m
  induction m with
  | zero => intro a t h; exact h
  | succ m ih =>
    intro a t h
    have := cn_le (E a) 6 0
    rw [gm]
    exact ih _ _ (by omega)
theorem gp_le (f c : Nat) : gp f c ≤ 6 := gm_le _ 6 0 0 (by omega)
theorem u8_i {x y : Int32} (hx : x = -4 ∨ ∃ g, g < 8 ∧ x = nI g) (hy : y = -4 ∨ ∃ g, g < 8 ∧ y = nI g) : u8 y = u8 x ↔ x = y := by
  have h8 : ∀ g, g < 8 → ¬ nI g = 8 := by decide +kernel
  unfold u8
  constructor
  · intro h
    by_cases e1 : y = -4
    · rw [if_pos e1] at h
      by_cases e2 : x = -4
      · rw [e1, e2]
      · rw [if_neg e2] at h
        rcases hx with e | ⟨g, hg, e⟩
        · exact absurd e e2
        · rw [e] at h; exact absurd h.symm (h8 g hg)
    · rw [if_neg e1] at h
      by_cases e2 : x = -4
      · rw [if_pos e2] at h
        rcases hy with e | ⟨g, hg, e⟩
        · exact absurd e e1
        · rw [e] at h; exact absurd h (h8 g hg)
      · rw [if_neg e2] at h; exact h.symm
  · intro h; rw [h]
theorem Vn_c (f k c : Nat) : Vn f k c = -4 ∨ ∃ g, g < 8 ∧ Vn f k c = nI g := by
  unfold Vn
  rcases nxt_c (kd := kdv f k) (ch := ch0) (itS_ok (kd := kdv f k) (ch := ch0) c okS0) with e | ⟨g, hg, e, _⟩
  · exact Or.inl e
  · exact Or.inr ⟨g, hg, e⟩
theorem bit63 : ∀ b, b < 6 → (((63 : Int32) >>> (nI b &&& 31)) &&& (1 : Int32)) = 1 := by decide +kernel
theorem kb63 : kb 6 0 0 = 63 := by decide +kernel
theorem gp_in {f c a : Nat} (ha : a < 6) (hc : c < 60) {w : XW} {U : Nat → Int32} {t : Int32} (ho : Off sC WN w) (hU : xat w 67 (xi 0 366 U)) (hV : ∀ k, k < 6 → ∀ c, c < 60 → U (61 * k + c + 1) = u8 (Vn f k c)) : ∀ (m b n cc : Nat), b + m = 6 → (loX7_greatestPart (n + m + 1)).2 w 0 63 (nI (c + 1)) t (nI a) (nI cc) (nI b) = (loX7_greatestPart n).1 w 0 63 (nI (c + 1)) (imx t (nI (cc + cn (EV f c a) m b))) (nI (a + 1)) := by
  have hr : ∀ k, k < 6 → aI w 0 67 (nI k * 61 + nI (c + 1)) = some (u8 (Vn f k c)) := by
    intro k hk
    rw [show (61 : Int32) = nI 61 from rfl, pk_mul, nI_add, show k * 61 + (c + 1) = 61 * k + c + 1 by omega, ← hV k hk c hc]
    exact aI_at hU (by omega) (nI_cl (by omega)) (nI_nn (by omega))
  intro m
  induction m with
  | zero =>
    intro b n cc hb
    have h6 : b = 6 := by omega
    subst h6
    show hX7_greatestPart_18 (loX7_greatestPart n) w 0 63 (nI (c + 1)) t (nI a) (nI cc) (nI 6) = _
    unfold hX7_greatestPart_18
    rw [if_pos (by decide), nI_1]
    rfl
  | succ m ih =>
    intro b n cc hb
    have h6 : ¬ (6 : Int32) ≤ nI b := nI_ge (a := b) (b := 6) (by omega) (by omega)
    show hX7_greatestPart_18 (loX7_greatestPart (n + m + 1)) w 0 63 (nI (c + 1)) t (nI a) (nI cc) (nI b) = _
    unfold hX7_greatestPart_18 fX7_useAt eX7_useAt
    rw [if_neg h6, if_pos (bit63 b (by omega))]
    simp only [oc_12 ho, Option.bind_some, hr b (show b < 6 by omega), hr a ha]
    rw [cn]
    unfold bX7_greatestPart_63
    rw [nI_1, nI_1]
    by_cases e : Vn f a c = Vn f b c
    · rw [if_pos ((u8_i (Vn_c f a c) (Vn_c f b c)).mpr e), ih (b + 1) n (cc + 1) (by omega)]
      have : EV f c a b = true := decide_eq_true e
      rw [if_pos this, Nat.add_assoc]
    · rw [if_neg (fun z => e ((u8_i (Vn_c f a c) (Vn_c f b c)).mp z)), ih (b + 1) n cc (by omega)]
      have : ¬ EV f c a b = true := fun z => e (of_decide_eq_true z)
      rw [if_neg this, Nat.zero_add]
theorem gp_out {f c : Nat} (hc : c < 60) {w : XW} {U : Nat → Int32} (ho : Off sC WN w) (hU : xat w 67 (xi 0 366 U)) (hV : ∀ k, k < 6 → ∀ c, c < 60 → U (61 * k + c + 1) = u8 (Vn f k c)) : ∀ (m a n t : Nat), a + m = 6 → t ≤ 6 → (loX7_greatestPart (n + 8 * m + 1)).1 w 0 63 (nI (c + 1)) (nI t) (nI a) = some (nI (gm (EV f c) m a t), w) := by
  intro m
  induction m with
  | zero =>
    intro a n t ha ht
    have h6 : a = 6 := by omega
    subst h6
    show hX7_greatestPart_5 (loX7_greatestPart n) w 0 63 (nI (c + 1)) (nI t) (nI 6) = _
    unfold hX7_greatestPart_5
    rw [if_pos (by decide)]
    rfl
  | succ m ih =>
    intro a n t ha ht
    have h6 : ¬ (6 : Int32) ≤ nI a := nI_ge (a := a) (b := 6) (by omega) (by omega)
    have hc6 := cn_le (EV f c a) 6 0
    have hin := gp_in (f := f) (c := c) (a := a) (t := nI t) (by omega) hc ho hU hV 6 0 (n + 8 * m + 1) 0 rfl
    rw [Nat.zero_add, imx_N (by omega) (by omega)] at hin
    rw [show n + 8 * (m + 1) + 1 = (n + 8 * m + 1 + 6 + 1) + 1 by omega, gm, ← ih (a + 1) n _ (by omega) (by omega), ← hin]
    show hX7_greatestPart_5 (loX7_greatestPart (n + 8 * m + 1 + 6 + 1)) w 0 63 (nI (c + 1)) (nI t) (nI a) = _
    unfold hX7_greatestPart_5
    rw [if_neg h6]
    rfl
theorem gp_spec {f c : Nat} (hc : c < 60) {w : XW} {U : Nat → Int32} (ho : Off sC WN w) (hU : xat w 67 (xi 0 366 U)) (hV : ∀ k, k < 6 → ∀ c, c < 60 → U (61 * k + c + 1) = u8 (Vn f k c)) : fX7_greatestPart w 0 63 (nI (c + 1)) = some (nI (gp f c), w) := by
  unfold fX7_greatestPart
  rw [if_pos (oc_o ho)]
  exact gp_out hc ho hU hV 6 0 4047 0 rfl (by omega)
theorem look_loop {f : Nat} {what : Int32} {w : XW} {U : Nat → Int32} (ho : Off sC WN w) (hU : xat w 67 (xi 0 366 U)) (hV : ∀ k, k < 6 → ∀ c, c < 60 → U (61 * k + c + 1) = u8 (Vn f k c)) : ∀ (m a n t : Nat), a + m = 20 → t < a → m + 1 ≤ n → loX7_look n w 0 what 63 (nI (t + 1)) (nI (a + 1)) = some (lkE f what (bl f m a t), w) := by
  intro m
  induction m with
  | zero =>
    intro a n t ha ht hn
    obtain ⟨n, rfl⟩ : ∃ z, n = z + 1 := ⟨n - 1, by omega⟩
    have h20 : a = 20 := by omega
    subst h20
    show hX7_look_42 (loX7_look n) w 0 what 63 (nI (t + 1)) (nI 21) = some (lkE f what t, w)
    unfold hX7_look_42 lkE
    rw [if_pos (by decide), gp_spec (f := f) (c := t) (by omega) ho hU hV]
    by_cases e : what = 0
    · rw [if_pos e, if_pos e]; rfl
    · rw [if_neg e, if_neg e, Option.bind_some]; rfl
  | succ m ih =>
    intro a n t ha ht hn
    obtain ⟨n, rfl⟩ : ∃ z, n = z + 1 := ⟨n - 1, by omega⟩
    have h20 : ¬ (20 : Int32) < nI (a + 1) := nI_nlt (a := 20) (b := a + 1) (by omega) (by omega)
    have g1 := gp_le f a
    have g2 := gp_le f t
    show hX7_look_42 (loX7_look n) w 0 what 63 (nI (t + 1)) (nI (a + 1)) = _
    unfold hX7_look_42
    rw [if_neg h20, gp_spec (f := f) (c := a) (by omega) ho hU hV, Option.bind_some, gp_spec (f := f) (c := t) (by omega) ho hU hV, Option.bind_some, bl]
    unfold bX7_look_70
    rw [nI_1]
    show (if nI (gp f t) ≤ nI (gp f a) then _ else _) = _
    generalize gp f t = gt at g2 ⊢
    generalize gp f a = ga at g1 ⊢
    by_cases e : ga < gt
    · rw [if_neg (nI_ge e (by omega)), if_pos e]
      exact ih (a + 1) n a (by omega) (by omega) (by omega)
    · rw [if_pos (nI_le (by omega) (by omega)), if_neg e]
      exact ih (a + 1) n t (by omega) (by omega) (by omega)
/-! the model's side -/
abbrev sL : Nat → Prop := fun k => k = 72 ∨ k = 73 ∨ k = 78 ∨ k = 85
theorem ol_M {w w' : XW} (h : Off sM w w') : Off sL w w' := h.mono (fun k (z : k = 72 ∨ k = 73 ∨ k = 78) => show k = 72 ∨ k = 73 ∨ k = 78 ∨ k = 85 by omega)
theorem Mo.g22 {w : XW} {kd ch Z : Nat → Int32} {tw : Int32} (h : Mo w kd ch Z tw) : gR w 72 8 22 = some 85 := gR_at h.1 rfl
theorem y_at {w : XW} {kd ch Z W : Nat → Int32} {tw : Int32} (h : Mo w kd ch Z tw) (hW : xat w 85 (xi 0 120 W)) {a : Nat} (ha : a < 120) (v : Int32) : ∃ w', sI w 0 85 (nI a) v = some w' ∧ Mo w' kd ch Z tw ∧ xat w' 85 (xi 0 120 (upd W a v)) ∧ Off sL w w' :=
  ⟨_, sI_at hW ha (nI_cl (by omega)) (nI_nn (by omega)), ⟨xat_ne h.1 (by omega), xat_ne h.2.1 (by omega), xat_ne h.2.2.1 (by omega), xat_ne h.2.2.2 (by omega)⟩, xat_put hW, Off.put (Or.inr (Or.inr (Or.inr rfl)))⟩
theorem lk_1 {f k : Nat} (hk : k < 6) {K : Nat → Int32} {what its l5 : Int32} : ∀ (m a n : Nat) (w : XW) (Z : Nat → Int32) (tw : Int32) (S : PS) (W : Nat → Int32), Mo w K ch0 Z tw → zS Z 198 S → sk S + m < 2 ^ 30 → xat w 85 (xi 0 120 W) → a + m = 20 → ∃ w' Z' tw' W', (loX8_look (n + m + 1)).2.1 w 72 (nI f) what 63 its l5 (nI k) (nI a) = (loX8_look n).1 w' 72 (nI f) what 63 its l5 (nI (k + 1)) ∧ Mo w' K ch0 Z' tw' ∧ (∀ x, x < 198 ∨ 216 ≤ x → Z' x = Z x) ∧ xat w' 85 (xi 0 120 W') ∧ Off sL w w' ∧ (∀ c, a ≤ c → c < 20 → W' (20 * k + c) = nxt K ch0 (itS K ch0 (c - a) S)) ∧ (∀ x, x < 20 * k + a ∨ 20 * k + 20 ≤ x → W' x = W x) := by
  intro m
  induction m with
  | zero =>
    intro a n w Z tw S W h hz hs hW ha
    have h20 : a = 20 := by omega
    subst h20
    refine ⟨w, Z, tw, W, ?_, h, fun _ _ => rfl, hW, Off.rf, fun c h1 h2 => by omega, fun _ _ => rfl⟩
    show hX8_look_77 (loX8_look n) w 72 (nI f) what 63 its l5 (nI k) (nI 20) = _
    unfold hX8_look_77
    rw [if_pos (by decide), nI_1]
  | succ m ih =>
    intro a n w Z tw S W h hz hs hW ha
    have h20 : ¬ (20 : Int32) ≤ nI a := nI_ge (a := a) (b := 20) (by omega) (by omega)
    obtain ⟨w1, Z1, t1, s1, m1, o1, y1, x1, _⟩ := step_spec h hz (by omega) (by omega)
    have s1' : fX8_step w 72 198 = some (nxt K ch0 S, w1) := s1
    have hs1 := sk_st (kd := K) (ch := ch0) (S := S)
    have W1 := o1.xat hW (by show ¬ (85 = 72 ∨ 85 = 78); omega)
    obtain ⟨w2, e1, e2, e3, e4⟩ := y_at m1 W1 (a := 20 * k + a) (by omega) (nxt K ch0 S)
    have ex : (20 : Int32) * nI k + nI a = nI (20 * k + a) := by rw [show (20 : Int32) = nI 20 from rfl, pk_mul, nI_add]
    obtain ⟨w3, Z3, t3, W3, r1, r2, r3, r4, r5, r6, r7⟩ := ih (a + 1) n w2 Z1 t1 _ _ e2 y1 (by omega) e3 (by omega)
    refine ⟨w3, Z3, t3, W3, ?_, r2, fun x hx => by rw [r3 x hx, x1 x (by omega)], r4, ((ol_M (om_Z o1)).tr e4).tr r5, fun c h1 h2 => ?_, fun x hx => ?_⟩
    · rw [← r1]
      show hX8_look_77 (loX8_look (n + m + 1)) w 72 (nI f) what 63 its l5 (nI k) (nI a) = _
      unfold hX8_look_77
      rw [if_neg h20, h.g22, Option.bind_some, s1', Option.bind_some]
      show (sI w1 0 85 ((20 : Int32) * nI k + nI a) (nxt K ch0 S)).bind _ = _
      rw [ex, e1, Option.bind_some, nI_1]
    · by_cases e : c = a
      · subst e
        rw [r7 _ (by omega), pk_us, Nat.sub_self]
        rfl
      · rw [r6 c (by omega) h2, show c - a = (c - (a + 1)) + 1 by omega]
        rfl
    · rw [r7 x (by omega), pk_un (by omega)]
theorem lk_2 {f : Nat} (hf : f < 6) {what : Int32} : ∀ (m k n many : Nat) (w : XW) (K Z : Nat → Int32) (tw : Int32) (W : Nat → Int32), Mo w K ch0 Z tw → zS Z 0 S0 → (∀ q, q ≠ f → K q = kd0 q) → xat w 85 (xi 0 120 W) → k + m = 6 → ∃ w' Z' tw' W', (loX8_look (n + 22 * m + 1)).1 w 72 (nI f) what 63 (kd0 f) (nI many) (nI k) = (loX8_look n).2.2.1 w' 72 what 63 (nI (many + m)) (-4) 9 0 ∧ Mo w' kd0 ch0 Z' tw' ∧ xat w' 85 (xi 0 120 W') ∧ Off sL w w' ∧ (∀ k', k ≤ k' → k' < 6 → ∀ c, c < 20 → W' (20 * k' + c) = Vn f k' c) ∧ (∀ x, x < 20 * k → W' x = W x) := by
  intro m
  induction m with
  | zero =>
    intro k n many w K Z tw W h hz hK hW hk
    have h6 : k = 6 := by omega
    subst h6
    obtain ⟨w1, s1, m1, o1⟩ := h.sk (a := f) (by omega) (kd0 f)
    rw [upd_0 hK] at m1
    refine ⟨w1, Z, tw, W, ?_, m1, o1.xat hW (by show ¬ 85 = 73; omega), ol_M (om_73 o1), fun k' h1 h2 => by omega, fun _ _ => rfl⟩
    show hX8_look_40 (loX8_look n) w 72 (nI f) what 63 (kd0 f) (nI many) (nI 6) = _
    unfold hX8_look_40
    rw [if_pos (by decide), h.g1, Option.bind_some, s1, Option.bind_some]
    rfl
  | succ m ih =>
    intro k n many w K Z tw W h hz hK hW hk
    have h6 : ¬ (6 : Int32) ≤ nI k := nI_ge (a := k) (b := 6) (by omega) (by omega)
    obtain ⟨w1, s1, m1, o1⟩ := h.sk (a := f) (by omega) (nI k)
    rw [upd_k hK] at m1
    have W1 := o1.xat hW (by show ¬ 85 = 73; omega)
    obtain ⟨w2, Z2, c1, c2, c3, c4, c5⟩ := mcp m1 hz
    have W2 := c3.xat W1 (by show ¬ (85 = 72 ∨ 85 = 78); omega)
    obtain ⟨w3, Z3, t3, W3, r1, r2, r3, r4, r5, r6, r7⟩ := lk_1 (f := f) (k := k) (by omega) (what := what) (its := kd0 f) (l5 := nI (many + 1)) 20 0 (n + 22 * m + 1) w2 Z2 tw S0 W c2 c4 (by rw [sk0]; omega) W2 rfl
    obtain ⟨w4, Z4, t4, W4, q1, q2, q3, q4, q5, q6⟩ := ih (k + 1) n (many + 1) w3 _ Z3 t3 W3 r2 (zS_cg hz (fun x _ hx => by rw [r3 x (by omega), c5 x (by omega)])) (upd_b (nI k)) r4 (by omega)
    refine ⟨w4, Z4, t4, W4, ?_, q2, q3, (((ol_M (om_73 o1)).tr (ol_M (om_Z c3))).tr r5).tr q4, fun k' h1 h2 c hc => ?_, fun x hx => ?_⟩
    · rw [show many + (m + 1) = many + 1 + m by omega, ← q1, ← r1, show n + 22 * (m + 1) + 1 = (n + 22 * m + 1 + 20 + 1) + 1 by omega]
      show hX8_look_40 (loX8_look (n + 22 * m + 1 + 20 + 1)) w 72 (nI f) what 63 (kd0 f) (nI many) (nI k) = _
      unfold hX8_look_40
      rw [if_neg h6, h.g1, Option.bind_some, s1, Option.bind_some, c1, Option.bind_some, bit63 k (by omega), nI_1]
      rfl
    · by_cases e : k' = k
      · subst e
        rw [q6 _ (by omega), r6 c (by omega) hc]
        rfl
      · exact q5 k' (by omega) h2 c hc
    · rw [q6 x (by omega), r7 x (by omega)]
theorem lk_3 {f c a : Nat} (ha : a < 6) (hc : c < 20) {w : XW} {kd Z W : Nat → Int32} {tw what l6 l7 l9 : Int32} (h : Mo w kd ch0 Z tw) (hW : xat w 85 (xi 0 120 W)) (hV : ∀ k, k < 6 → ∀ c, c < 20 → W (20 * k + c) = Vn f k c) : ∀ (m b n cc : Nat), b + m = 6 → (loX8_look (n + m + 1)).2.2.2.2 w 72 what 63 (nI 6) l6 l7 (nI c) l9 (nI a) (nI cc) (nI b) = (loX8_look n).2.2.2.1 w 72 what 63 (nI 6) l6 l7 (nI c) (imx l9 (nI (cc + cn (EV f c a) m b))) (nI (a + 1)) := by
  have hr : ∀ k, k < 6 → aI w 0 85 ((20 : Int32) * nI k + nI c) = some (Vn f k c) := by
    intro k hk
    rw [show (20 : Int32) = nI 20 from rfl, pk_mul, nI_add, ← hV k hk c hc]
    exact aI_at hW (by omega) (nI_cl (by omega)) (nI_nn (by omega))
  intro m
  induction m with
  | zero =>
    intro b n cc hb
    have h6 : b = 6 := by omega
    subst h6
    show hX8_look_167 (loX8_look n) w 72 what 63 (nI 6) l6 l7 (nI c) l9 (nI a) (nI cc) (nI 6) = _
    unfold hX8_look_167
    rw [if_pos (by decide), larger_s, Option.bind_some, nI_1]
    rfl
  | succ m ih =>
    intro b n cc hb
    have h6 : ¬ (6 : Int32) ≤ nI b := nI_ge (a := b) (b := 6) (by omega) (by omega)
    show hX8_look_167 (loX8_look (n + m + 1)) w 72 what 63 (nI 6) l6 l7 (nI c) l9 (nI a) (nI cc) (nI b) = _
    unfold hX8_look_167
    rw [if_neg h6, has_spec, Option.bind_some, decide_eq_true (bit63 a ha), if_neg (show ¬ bi true = 0 by decide), has_spec, Option.bind_some, decide_eq_true (bit63 b (by omega)), if_neg (show ¬ bi true = 0 by decide), h.g22, Option.bind_some, hr a ha, Option.bind_some, Option.bind_some, hr b (by omega), Option.bind_some, cn]
    unfold bX8_look_227 bX8_look_228
    by_cases e : Vn f a c = Vn f b c
    · have : EV f c a b = true := decide_eq_true e
      rw [if_pos e, nI_1, nI_1, ih (b + 1) n (cc + 1) (by omega), if_pos this, Nat.add_assoc]
    · have : ¬ EV f c a b = true := fun z => e (of_decide_eq_true z)
      rw [if_neg e, add0, nI_1, ih (b + 1) n cc (by omega), if_neg this, Nat.zero_add]
theorem lk_4 {f c : Nat} (hc : c < 20) {w : XW} {kd Z W : Nat → Int32} {tw what l6 l7 : Int32} (h : Mo w kd ch0 Z tw) (hW : xat w 85 (xi 0 120 W)) (hV : ∀ k, k < 6 → ∀ c, c < 20 → W (20 * k + c) = Vn f k c) : ∀ (m a n t : Nat), a + m = 6 → t ≤ 6 → (loX8_look (n + 8 * m + 1)).2.2.2.1 w 72 what 63 (nI 6) l6 l7 (nI c) (nI t) (nI a) = if l7 ≤ nI (gm (EV f c) m a t) then bX8_look_268 (loX8_look n) w 72 what 63 (nI 6) l7 (nI c) (nI (gm (EV f c) m a t)) l6 else bX8_look_268 (loX8_look n) w 72 what 63 (nI 6) l7 (nI c) (nI (gm (EV f c) m a t)) (nI c + 1) := by
  intro m
  induction m with
  | zero =>
    intro a n t ha ht
    have h6 : a = 6 := by omega
    subst h6
    show hX8_look_154 (loX8_look n) w 72 what 63 (nI 6) l6 l7 (nI c) (nI t) (nI 6) = _
    unfold hX8_look_154
    rw [if_pos (by decide)]
    rfl
  | succ m ih =>
    intro a n t ha ht
    have h6 : ¬ (6 : Int32) ≤ nI a := nI_ge (a := a) (b := 6) (by omega) (by omega)
    have hc6 := cn_le (EV f c a) 6 0
    have hin := lk_3 (f := f) (c := c) (a := a) (what := what) (l6 := l6) (l7 := l7) (l9 := nI t) (by omega) hc h hW hV 6 0 (n + 8 * m + 1) 0 rfl
    rw [Nat.zero_add, imx_N (by omega) (by omega)] at hin
    rw [show n + 8 * (m + 1) + 1 = (n + 8 * m + 1 + 6 + 1) + 1 by omega, gm, ← ih (a + 1) n _ (by omega) (by omega), ← hin]
    show hX8_look_154 (loX8_look (n + 8 * m + 1 + 6 + 1)) w 72 what 63 (nI 6) l6 l7 (nI c) (nI t) (nI a) = _
    unfold hX8_look_154
    rw [if_neg h6]
    rfl
theorem lk_5 {f : Nat} {w : XW} {kd Z W : Nat → Int32} {tw what : Int32} (h : Mo w kd ch0 Z tw) (hW : xat w 85 (xi 0 120 W)) (hV : ∀ k, k < 6 → ∀ c, c < 20 → W (20 * k + c) = Vn f k c) : ∀ (m c n t : Nat), c + m = 20 → t < c → (loX8_look (n + 50 * m + 1)).2.2.1 w 72 what 63 (nI 6) (nI (t + 1)) (nI (gp f t)) (nI c) = some (lkE f what (bl f m c t), w) := by
  intro m
  induction m with
  | zero =>
    intro c n t hc ht
    have h20 : c = 20 := by omega
    subst h20
    show hX8_look_135 (loX8_look n) w 72 what 63 (nI 6) (nI (t + 1)) (nI (gp f t)) (nI 20) = some (lkE f what t, w)
    unfold hX8_look_135 lkE
    rw [if_pos (by decide)]
    unfold bX8_look_292
    rw [if_neg (nI_nn (by omega))]
    by_cases e : what = 0
    · rw [if_pos e, if_pos e]; rfl
    · rw [if_neg e, if_neg e]; rfl
  | succ m ih =>
    intro c n t hc ht
    have h20 : ¬ (20 : Int32) ≤ nI c := nI_ge (a := c) (b := 20) (by omega) (by omega)
    have g1 := gp_le f c
    have g2 := gp_le f t
    have h4 := lk_4 (f := f) (c := c) (what := what) (l6 := nI (t + 1)) (l7 := nI (gp f t)) (by omega) h hW hV 6 0 (n + 50 * m + 1) 0 rfl (by omega)
    have hg : gm (EV f c) 6 0 0 = gp f c := rfl
    rw [hg] at h4
    rw [show n + 50 * (m + 1) + 1 = (n + 50 * m + 1 + 8 * 6 + 1) + 1 by omega]
    show hX8_look_135 (loX8_look (n + 50 * m + 1 + 8 * 6 + 1)) w 72 what 63 (nI 6) (nI (t + 1)) (nI (gp f t)) (nI c) = _
    unfold hX8_look_135
    have h4' : (loX8_look (n + 50 * m + 1 + 8 * 6 + 1)).2.2.2.1 w 72 what 63 (nI 6) (nI (t + 1)) (nI (gp f t)) (nI c) 0 0 = _ := h4
    rw [if_neg h20, if_neg (by decide), h4', bl]
    unfold bX8_look_268 bX8_look_284
    rw [nI_1]
    by_cases e : gp f c < gp f t
    · rw [if_neg (nI_ge e (by omega)), if_neg (nI_ge e (by omega)), if_pos e]
      exact ih (c + 1) n c (by omega) (by omega)
    · have e2 : nI (gp f t) ≤ nI (gp f c) := nI_le (by omega) (by omega)
      rw [if_pos e2, if_pos e2, if_neg e]
      exact ih (c + 1) n t (by omega) (by omega)
theorem lk_6 {f : Nat} {w : XW} {kd Z W : Nat → Int32} {tw what : Int32} (h : Mo w kd ch0 Z tw) (hW : xat w 85 (xi 0 120 W)) (hV : ∀ k, k < 6 → ∀ c, c < 20 → W (20 * k + c) = Vn f k c) (n : Nat) : (loX8_look (n + 1001)).2.2.1 w 72 what 63 (nI 6) (-4) 9 (nI 0) = some (lkE f what (bl f 19 1 0), w) := by
  have g1 := gp_le f 0
  have h4 := lk_4 (f := f) (c := 0) (what := what) (l6 := -4) (l7 := 9) (by omega) h hW hV 6 0 (n + 50 * 19 + 1) 0 rfl (by omega)
  have hg : gm (EV f 0) 6 0 0 = gp f 0 := rfl
  rw [hg] at h4
  have h5 := lk_5 (f := f) (what := what) h hW hV 19 1 n 0 rfl (by omega)
  have hh : ∀ M, (loX8_look (M + 1)).2.2.1 = hX8_look_135 (loX8_look M) := fun _ => rfl
  rw [show n + 1001 = (n + 50 * 19 + 1 + 8 * 6 + 1) + 1 by omega, hh]
  unfold hX8_look_135
  have h4' : (loX8_look (n + 50 * 19 + 1 + 8 * 6 + 1)).2.2.2.1 w 72 what 63 (nI 6) (-4) 9 (nI 0) 0 0 = _ := h4
  have h9 : ¬ (9 : Int32) ≤ nI (gp f 0) := nI_ge (a := gp f 0) (b := 9) (by omega) (by omega)
  rw [if_neg (by decide), if_neg (by decide), h4', if_neg h9]
  unfold bX8_look_268 bX8_look_284
  rw [if_neg h9, nI_1]
  exact h5
theorem bc63 (w : XW) : fJ6_bitCount_0f7a4 w 63 = some (6, w) := by
  unfold fJ6_bitCount_0f7a4 eJ6_bitCount_0f7a4
  congr 1
theorem ag_X7_look (a b : Int32) : agr (fX7_look WN 0 a b) (fun w => fX8_look w 72 a b) := by
  by_cases ha : 0 ≤ a ∧ a ≤ 5
  · by_cases hb : 0 ≤ b ∧ b ≤ 1
    · obtain ⟨f, hf, rfl⟩ := rn (n := 5) (by decide) ha
      refine agM (v := lkE f b (bl f 19 1 0)) ?_ ?_
      · obtain ⟨w1, U1, d1, d2, d3, d4⟩ := fk_spec (f := f) (by omega)
        rw [kb63] at d1
        refine ⟨w1, ?_, d2⟩
        have hl := look_loop (f := f) (what := b) d2 d3 d4 19 1 FU 0 rfl (by omega) (by unfold FU; omega)
        unfold fX7_look eX7_look
        rw [if_pos o7, isT, Option.bind_some, if_pos ha, if_neg n10, if2i hb, d1, Option.bind_some, bc63, Option.bind_some, if_pos (show (1 : Int32) < 6 by decide)]
        exact hl
      · intro w hw
        have hm := oc_M hw
        have hW : xat w 85 (xi 0 120 (la [])) := oc_xat hw ⟨by decide, rfl⟩ (by omega)
        obtain ⟨w1, Z1, t1, d1, d2, d3, d4⟩ := ko_spec (f := f) (by omega) hm zs0
        rw [kb63] at d1
        have hW1 := d3.xat hW (by show ¬ (85 = 72 ∨ 85 = 73 ∨ 85 = 78); omega)
        obtain ⟨w2, Z2, t2, W2, q1, q2, q3, q4, q5, q6⟩ := lk_2 (f := f) (by omega) (what := b) 6 0 (2962 + 1001) 0 w1 kd0 Z1 t1 (la []) d2 d4 (fun _ _ => rfl) hW1 rfl
        have h6 := lk_6 (f := f) (what := b) q2 q3 (fun k hk c hc => q5 k (by omega) hk c hc) 2962
        refine ⟨w2, ?_, ((ol_M d3).tr q4).1, ((ol_M d3).tr q4).2.1⟩
        show fX8_look w 72 (nI f) b = _
        unfold fX8_look eX8_look
        rw [if_pos hm.o, isF2 hm, Option.bind_some, if_pos ha, if_neg n10, in8 w _ 0 1 _ _ (by decide) (by decide), Option.bind_some, if_pos hb, if_neg n10, d1, Option.bind_some, d2.g1, Option.bind_some, d2.k (by omega), Option.bind_some, ← h6]
        exact q1
    · refine agB ?_ ?_
      · unfold fX7_look eX7_look
        rw [if_pos o7, isT, Option.bind_some, if_pos ha, if_neg n10, if2 hb]; rfl
      · show fX8_look WN 72 a b = _
        unfold fX8_look eX8_look
        rw [if_pos o8, isF2 mo0, Option.bind_some, if_pos ha, if_neg n10, in8 WN _ 0 1 _ _ (by decide) (by decide), Option.bind_some, if_neg hb]; rfl
  · refine agB ?_ ?_
    · unfold fX7_look eX7_look
      rw [if_pos o7, isT, Option.bind_some, if_neg ha]; rfl
    · show fX8_look WN 72 a b = _
      unfold fX8_look eX8_look
      rw [if_pos o8, isF2 mo0, Option.bind_some, if_neg ha]; rfl
