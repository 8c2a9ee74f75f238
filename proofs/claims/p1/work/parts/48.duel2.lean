/-! by turns: the model's table, and what is made of it -/
abbrev sD : Nat → Prop := fun k => k = 72 ∨ k = 78 ∨ k = 86
theorem od_Z {w w' : XW} (h : Off sZ w w') : Off sD w w' := h.mono (fun k (z : k = 72 ∨ k = 78) => z.elim Or.inl (fun e => Or.inr (Or.inl e)))
theorem w_at {w : XW} {kd ch Z V : Nat → Int32} {tw : Int32} (h : Mo w kd ch Z tw) (hV : xat w 86 (xi 0 81 V)) {a : Nat} (ha : a < 81) (v : Int32) : ∃ w', sI w 0 86 (nI a) v = some w' ∧ Mo w' kd ch Z tw ∧ xat w' 86 (xi 0 81 (upd V a v)) ∧ Off sD w w' :=
  ⟨_, sI_at hV ha (nI_cl (by omega)) (nI_nn (by omega)), ⟨xat_ne h.1 (by omega), xat_ne h.2.1 (by omega), xat_ne h.2.2.1 (by omega), xat_ne h.2.2.2 (by omega)⟩, xat_put hV, Off.put (Or.inr (Or.inr rfl))⟩
theorem w_rd {w : XW} {V : Nat → Int32} (hV : xat w 86 (xi 0 81 V)) {a : Nat} (ha : a < 81) : aI w 0 86 (nI a) = some (V a) := aI_at hV ha (nI_cl (by omega)) (nI_nn (by omega))
theorem dl_c {N : Nat} (hN : N ≤ 4) (h81 : 3 ^ N ≤ 81) : ∀ (m code n : Nat) (w : XW) (Z : Nat → Int32) (tw : Int32) (V : Nat → Int32), Mo w kd0 ch0 Z tw → zS Z 0 S0 → xat w 86 (xi 0 81 V) → code + m = 3 ^ N → ∃ w' Z' tw' V', (loX8_duel (n + m * (N + 2) + 1)).2.1 w 72 (nI N) (nI (3 ^ N)) (nI code) = (loX8_duel n).2.2.2.1 w' 72 (nI (3 ^ N)) (nI N - 1) ∧ Mo w' kd0 ch0 Z' tw' ∧ xat w' 86 (xi 0 81 V') ∧ Off sD w w' ∧ (∀ c, code ≤ c → c < 3 ^ N → V' c = nI (gxy (dx 1 N c) (dx 2 N c))) ∧ (∀ c, c < code → V' c = V c) := by
  intro m
  induction m with
  | zero =>
    intro code n w Z tw V h hz hV hc
    refine ⟨w, Z, tw, V, ?_, h, hV, Off.rf, fun c h1 h2 => by omega, fun _ _ => rfl⟩
    rw [Nat.zero_mul, Nat.add_zero]
    show hX8_duel_35 (loX8_duel n) w 72 (nI N) (nI (3 ^ N)) (nI code) = _
    unfold hX8_duel_35
    rw [if_pos (nI_le (by omega) (by omega))]
  | succ m ih =>
    intro code n w Z tw V h hz hV hc
    obtain ⟨w1, Z1, c1, c2, c3, c4, c5⟩ := mcp2 h hz
    have hz1 : zS Z1 216 (SXY 0 0) := by
      obtain ⟨z0, z1, z2, z3, z4, z5, z6⟩ := c4
      refine ⟨okXY 0 0, fun q hq => ?_, z2, z3, z4, z5, z6⟩
      rw [z1 q hq]
      have s0q : ∀ q, q < 6 → sP S0 q = if q = 0 then nI 3 else if q = 1 then nI 2 else 0 := by
        show ∀ q, q < 6 → la [3, 2] q = if q = 0 then nI 3 else if q = 1 then nI 2 else 0
        decide +kernel
      exact s0q q hq
    have hz10 : zS Z1 0 S0 := zS_cg hz (fun q _ hq => c5 q (by omega))
    have V1 := c3.xat hV (by show ¬ (86 = 72 ∨ 86 = 78); omega)
    obtain ⟨w2, Z2, t2, d1, d2, d3, d4⟩ := dl_b (N := N) (L := 3 ^ N) (code := code) hN N 0 (n + m * (N + 2) + 1) w1 Z1 tw 0 0 code c2 hz1 hz10 (by omega) (by omega) (by omega) (by omega)
    have V2 := d3.xat V1 (by show ¬ (86 = 72 ∨ 86 = 78); omega)
    obtain ⟨w3, e1, e2, e3, e4⟩ := w_at d2 V2 (a := code) (by omega) (nI (gxy (0 + dx 1 N code) (0 + dx 2 N code)))
    obtain ⟨w4, Z4, t4, V4, f1, f2, f3, f4, f5, f6⟩ := ih (code + 1) n w3 Z2 t2 _ e2 d4 e3 (by omega)
    refine ⟨w4, Z4, t4, V4, ?_, f2, f3, ((od_Z (c3.tr d3)).tr e4).tr f4, fun c h1 h2 => ?_, fun c hc2 => ?_⟩
    · rw [show n + (m + 1) * (N + 2) + 1 = (n + m * (N + 2) + 1 + N + 1) + 1 by rw [Nat.add_mul]; omega]
      show hX8_duel_35 (loX8_duel (n + m * (N + 2) + 1 + N + 1)) w 72 (nI N) (nI (3 ^ N)) (nI code) = _
      unfold hX8_duel_35
      rw [if_neg (nI_ge (by omega) (by omega)), c1, Option.bind_some]
      have d1' : (loX8_duel (n + m * (N + 2) + 1 + N + 1)).2.2.1 w1 72 (nI N) (nI (3 ^ N)) (nI code) (nI code) 1 0 = _ := d1
      rw [d1']
      unfold bX8_duel_189
      rw [e1, Option.bind_some, nI_1, f1]
    · by_cases e : c = code
      · rw [e, f6 code (by omega), pk_us, Nat.zero_add, Nat.zero_add]
      · exact f5 c (by omega) h2
    · rw [f6 c (by omega), pk_un (by omega)]
def mm (k a b c : Nat) : Nat := if k % 2 = 0 then max a (max b c) else min a (min b c)
theorem dl_e {k : Nat} (hk : k < 4) (h81 : 3 * 3 ^ k ≤ 81) {v : Nat → Nat} (hv : ∀ q, v q ≤ 200) : ∀ (m c n : Nat) (w : XW) (Z : Nat → Int32) (tw : Int32) (V : Nat → Int32), Mo w kd0 ch0 Z tw → xat w 86 (xi 0 81 V) → (∀ q, c ≤ q → q < 3 * 3 ^ k → V q = nI (v q)) → c + m = 3 ^ k → ∃ w' V', (loX8_duel (n + m + 1)).2.2.2.2 w 72 (nI (3 ^ k)) (nI k) (nI c) = (loX8_duel n).2.2.2.1 w' 72 (nI (3 ^ k)) (nI k + (-1)) ∧ Mo w' kd0 ch0 Z tw ∧ xat w' 86 (xi 0 81 V') ∧ Off sD w w' ∧ (∀ q, c ≤ q → q < 3 ^ k → V' q = nI (mm k (v q) (v (q + 3 ^ k)) (v (q + 2 * 3 ^ k)))) ∧ (∀ q, q < c → V' q = V q) := by
  intro m
  induction m with
  | zero =>
    intro c n w Z tw V h hV hq hc
    refine ⟨w, V, ?_, h, hV, Off.rf, fun q h1 h2 => by omega, fun _ _ => rfl⟩
    show hX8_duel_211 (loX8_duel n) w 72 (nI (3 ^ k)) (nI k) (nI c) = _
    unfold hX8_duel_211
    rw [if_pos (nI_le (by omega) (by omega))]
  | succ m ih =>
    intro c n w Z tw V h hV hq hc
    have r0 := w_rd hV (a := c) (by omega)
    have r1 := w_rd hV (a := c + 3 ^ k) (by omega)
    have r2 := w_rd hV (a := c + 2 * 3 ^ k) (by omega)
    rw [hq c (by omega) (by omega)] at r0
    rw [hq (c + 3 ^ k) (by omega) (by omega)] at r1
    rw [hq (c + 2 * 3 ^ k) (by omega) (by omega)] at r2
    have e1 : nI c + nI (3 ^ k) = nI (c + 3 ^ k) := nI_add _ _
    have e2 : nI c + (2 : Int32) * nI (3 ^ k) = nI (c + 2 * 3 ^ k) := by rw [show (2 : Int32) = nI 2 from rfl, pk_mul, nI_add]
    have v0 := hv c
    have v1 := hv (c + 3 ^ k)
    have v2 := hv (c + 2 * 3 ^ k)
    have c1 := choice_s (w := w) (a := v (c + 3 ^ k)) (b := v (c + 2 * 3 ^ k)) (t := k) (by omega) (by omega) (by omega)
    have vb : (if k % 2 = 0 then max (v (c + 3 ^ k)) (v (c + 2 * 3 ^ k)) else min (v (c + 3 ^ k)) (v (c + 2 * 3 ^ k))) ≤ 200 := by split <;> omega
    have c2 := choice_s (w := w) (a := v c) (b := if k % 2 = 0 then max (v (c + 3 ^ k)) (v (c + 2 * 3 ^ k)) else min (v (c + 3 ^ k)) (v (c + 2 * 3 ^ k))) (t := k) (by omega) (by omega) (by omega)
    have hmm : (if k % 2 = 0 then max (v c) (if k % 2 = 0 then max (v (c + 3 ^ k)) (v (c + 2 * 3 ^ k)) else min (v (c + 3 ^ k)) (v (c + 2 * 3 ^ k))) else min (v c) (if k % 2 = 0 then max (v (c + 3 ^ k)) (v (c + 2 * 3 ^ k)) else min (v (c + 3 ^ k)) (v (c + 2 * 3 ^ k)))) = mm k (v c) (v (c + 3 ^ k)) (v (c + 2 * 3 ^ k)) := by
      unfold mm
      by_cases e : k % 2 = 0
      · rw [if_pos e, if_pos e, if_pos e]
      · rw [if_neg e, if_neg e, if_neg e]
    rw [hmm] at c2
    obtain ⟨w1, s1, s2, s3, s4⟩ := w_at h hV (a := c) (by omega) (nI (mm k (v c) (v (c + 3 ^ k)) (v (c + 2 * 3 ^ k))))
    obtain ⟨w2, V2, f1, f2, f3, f4, f5, f6⟩ := ih (c + 1) n w1 Z tw _ s2 s3 (fun q h1 h2 => by rw [pk_un (by omega)]; exact hq q (by omega) h2) (by omega)
    refine ⟨w2, V2, ?_, f2, f3, s4.tr f4, fun q h1 h2 => ?_, fun q hq2 => ?_⟩
    · show hX8_duel_211 (loX8_duel (n + m + 1)) w 72 (nI (3 ^ k)) (nI k) (nI c) = _
      unfold hX8_duel_211
      rw [if_neg (nI_ge (by omega) (by omega)), h.g23]
      simp only [Option.bind_some]
      rw [e1, e2, r0, Option.bind_some, r1, Option.bind_some, r2, Option.bind_some, c1, Option.bind_some, c2, Option.bind_some, s1, Option.bind_some, nI_1, f1]
    · by_cases e : q = c
      · rw [e, f6 c (by omega), pk_us]
      · exact f5 q (by omega) h2
    · rw [f6 q (by omega), pk_un (by omega)]
theorem dl_d {N : Nat} (hN : N ≤ 4) : ∀ (k n : Nat) (w : XW) (Z : Nat → Int32) (tw : Int32) (V : Nat → Int32), k ≤ N → Mo w kd0 ch0 Z tw → xat w 86 (xi 0 81 V) → (∀ c, c < 3 ^ k → V c = nI (vt (N - k) k (dx 1 k c) (dx 2 k c))) → 500 ≤ n + 90 * (4 - k) → ∃ w', (loX8_duel n).2.2.2.1 w 72 (nI (3 ^ k)) (nI k + (-1)) = some (nI (vt N 0 0 0), w') ∧ Off sD w w' := by
  intro k
  induction k with
  | zero =>
    intro n w Z tw V hk h hV hq hn
    obtain ⟨n, rfl⟩ : ∃ z, n = z + 1 := ⟨n - 1, by omega⟩
    have r0 := w_rd hV (a := 0) (by omega)
    rw [hq 0 (by decide)] at r0
    have r0' : aI w 0 86 0 = some (nI (vt N 0 0 0)) := r0
    refine ⟨w, ?_, Off.rf⟩
    show hX8_duel_200 (loX8_duel n) w 72 (nI (3 ^ 0)) (nI 0 + (-1)) = _
    unfold hX8_duel_200
    rw [if_pos (by decide), h.g23, Option.bind_some, r0', Option.bind_some]
  | succ k ih =>
    intro n w Z tw V hk h hV hq hn
    have h3 : 3 ^ (k + 1) = 3 * 3 ^ k := by rw [Nat.pow_succ, Nat.mul_comm]
    have h27 : 3 ^ k ≤ 27 := by
      have h2 : 3 ^ k ≤ 3 ^ 3 := Nat.pow_le_pow_right (by omega) (by omega)
      exact h2
    have e3 : nI (3 ^ (k + 1)) / 3 = nI (3 ^ k) := by
      rw [show nI (3 ^ (k + 1)) / 3 = nI (3 ^ (k + 1) / 3) from pk_div (a := 3 ^ (k + 1)) (d := 3) (by omega) (by omega) (by omega), h3, Nat.mul_div_cancel_left _ (by omega)]
    obtain ⟨n, rfl⟩ : ∃ z, n = z + 1 := ⟨n - 1, by omega⟩
    obtain ⟨n', rfl⟩ : ∃ z, n = z + 3 ^ k + 1 := ⟨n - 3 ^ k - 1, by omega⟩
    obtain ⟨w2, V2, f1, f2, f3, f4, f5, f6⟩ := dl_e (k := k) (by omega) (by omega) (v := fun c => vt (N - (k + 1)) (k + 1) (dx 1 (k + 1) c) (dx 2 (k + 1) c)) (fun q => vt_le _ _ _ _) (3 ^ k) 0 n' w Z tw V h hV (fun q _ h2 => hq q (by omega)) (by omega)
    obtain ⟨w3, g1, g2⟩ := ih n' w2 Z tw V2 (by omega) f2 f3 (fun c hc => by
      rw [f5 c (by omega) hc]
      have a1 : dx 1 (k + 1) c = dx 1 k c := by have z := dx_s 1 k c 0 hc (by omega); rw [Nat.zero_mul] at z; exact z
      have a2 : dx 2 (k + 1) c = dx 2 k c := by have z := dx_s 2 k c 0 hc (by omega); rw [Nat.zero_mul] at z; exact z
      have b1 : dx 1 (k + 1) (c + 3 ^ k) = dx 1 k c + 1 := by have z := dx_s 1 k c 1 hc (by omega); rw [Nat.one_mul] at z; exact z
      have b2 : dx 2 (k + 1) (c + 3 ^ k) = dx 2 k c := by have z := dx_s 2 k c 1 hc (by omega); rw [Nat.one_mul] at z; exact z
      have c1 : dx 1 (k + 1) (c + 2 * 3 ^ k) = dx 1 k c := by have z := dx_s 1 k c 2 hc (by omega); exact z
      have c2 : dx 2 (k + 1) (c + 2 * 3 ^ k) = dx 2 k c + 1 := by have z := dx_s 2 k c 2 hc (by omega); exact z
      show nI (mm k (vt (N - (k + 1)) (k + 1) (dx 1 (k + 1) c) (dx 2 (k + 1) c)) (vt (N - (k + 1)) (k + 1) (dx 1 (k + 1) (c + 3 ^ k)) (dx 2 (k + 1) (c + 3 ^ k))) (vt (N - (k + 1)) (k + 1) (dx 1 (k + 1) (c + 2 * 3 ^ k)) (dx 2 (k + 1) (c + 2 * 3 ^ k)))) = _
      rw [a1, a2, b1, b2, c1, c2, show N - k = N - (k + 1) + 1 by omega, vt]
      unfold mm
      generalize vt (N - (k + 1)) (k + 1) (dx 1 k c) (dx 2 k c) = A
      generalize vt (N - (k + 1)) (k + 1) (dx 1 k c + 1) (dx 2 k c) = B
      generalize vt (N - (k + 1)) (k + 1) (dx 1 k c) (dx 2 k c + 1) = C
      congr 1
      by_cases e : k % 2 = 0
      · rw [if_pos e, if_pos e]; omega
      · rw [if_neg e, if_neg e]; omega) (by omega)
    refine ⟨w3, ?_, f4.tr g2⟩
    have hh : ∀ M, (loX8_duel (M + 1)).2.2.2.1 = hX8_duel_200 (loX8_duel M) := fun _ => rfl
    rw [hh]
    unfold hX8_duel_200
    rw [pk_m1, if_neg (nI_nn (by omega)), e3, ← g1, ← f1, nI_0]
theorem sub1 (x : Int32) : x - 1 = x + (-1) := Int32.sub_eq_add_neg x 1
theorem ag_X7_duel (a : Int32) : agr (fX7_duel WN 0 a) (fun w => fX8_duel w 72 a) := by
  by_cases ha : 0 ≤ a ∧ a ≤ 4
  · obtain ⟨N, hN, rfl⟩ := rn (n := 4) (by decide) ha
    refine agM (v := nI (vt N 0 0 0)) ?_ ?_
    · obtain ⟨w1, c1, c2, c3⟩ := turns_spec hN N 0 0 0 6 WN Off.rf an20 (by omega) (by omega) (by omega) (by omega)
      refine ⟨w1, ?_, c2⟩
      have c1' : fX7_valueOfTurns WN 0 0 (nI N) 0 0 = some (nI (vt N 0 0 0), w1) := c1
      unfold fX7_duel eX7_duel
      rw [if_pos o7, if2i ha, c1', Option.bind_some]
      rfl
    · intro w hw
      have hm := oc_M hw
      have hV : xat w 86 (xi 0 81 (la [])) := oc_xat hw ⟨by decide, rfl⟩ (by omega)
      have h81 : 3 ^ N ≤ 81 := by
        have h2 : 3 ^ N ≤ 3 ^ 4 := Nat.pow_le_pow_right (by omega) hN
        exact h2
      have hfu : ∃ n, FU = (n + 3 ^ N * (N + 2) + 1) + N + 1 ∧ 500 ≤ n := by
        have h1 : 3 ^ N * (N + 2) ≤ 81 * 6 := Nat.mul_le_mul h81 (by omega)
        refine ⟨4096 - (3 ^ N * (N + 2) + 1 + N + 1), ?_, ?_⟩
        · unfold FU; omega
        · omega
      obtain ⟨n, hn1, hn2⟩ := hfu
      obtain ⟨w2, Z2, t2, V2, f1, f2, f3, f4, f5, f6⟩ := dl_c hN h81 (3 ^ N) 0 n w Z0 0 (la []) hm zs0 hV (by omega)
      obtain ⟨w3, g1, g2⟩ := dl_d hN N n w2 Z2 t2 V2 (Nat.le_refl _) f2 f3 (fun c hc => by rw [f5 c (by omega) hc, Nat.sub_self]; rfl) (by omega)
      refine ⟨w3, ?_, (f4.tr g2).1, (f4.tr g2).2.1⟩
      show fX8_duel w 72 (nI N) = _
      unfold fX8_duel eX8_duel
      rw [if_pos hm.o, in8 w _ 0 4 _ _ (by decide) (by decide), Option.bind_some, if_pos ha, if_neg n10, hn1]
      have a1 := dl_a hN (w := w) N 0 (n + 3 ^ N * (N + 2) + 1) (by omega)
      rw [sub1] at f1
      rw [← g1, ← f1, ← a1]
      rfl
  · refine agB ?_ ?_
    · unfold fX7_duel eX7_duel
      rw [if_pos o7, if2 ha]; rfl
    · show fX8_duel WN 72 a = _
      unfold fX8_duel eX8_duel
      rw [if_pos o8, in8 WN _ 0 4 _ _ (by decide) (by decide), Option.bind_some, if_neg ha]; rfl
