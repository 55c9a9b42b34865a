/-! ===== the reference: ways ===== -/
section
variable {h : Hea} {b : Nat} {m : Blk} {l : Nat → Int64} {r : Nat → Nat → Int64} {H : Blk}
theorem ix_133 (j : Nat) : (133 : Int32) + 3 * nI j = nI (133 + 3 * j) := by
  rw [show (133 : Int32) = nI 133 from rfl, show (3 : Int32) = nI 3 from rfl, pk_mul, nI_add]
theorem g8_may5 (hN : hR H (m.2 0)) (wE : wfE H) {t rm : Nat} : ∀ (k j n : Nat) (c : Bool), j + k = hS H → k < n → f_X8_mayBe_5 n (blk b (mdL b m l r) h) b (nI rm) (nI t) (if c = true then 1 else 0) (nI j) = some (if (c && fitL H t rm k j) = true then 1 else 0) := by
  have hm := wE.2
  intro k
  induction k with
  | zero =>
    intro j n c hj hn
    obtain ⟨n, rfl⟩ : ∃ q, n = q + 1 := ⟨n - 1, by omega⟩
    rw [f_X8_mayBe_5, md_f0 (blk_at _ _ _), b_some, ln_5 (blk_at _ _ _), b_some, hN.2.2.2.2.1, wE.1, if_pos (nI_le (by omega) (by omega)), fitL, Bool.and_true]
  | succ k ih =>
    intro j n c hj hn
    obtain ⟨n, rfl⟩ : ∃ q, n = q + 1 := ⟨n - 1, by omega⟩
    have hj6 : j < 6 := by omega
    obtain ⟨e0, e1, e2⟩ := hN.2.2.2.2.2.2.2.2.2 j (by omega)
    have key : (if (if c = true then (1 : Int32) else 0) = 0 then some (0 : Int32) else if H.2 6 j = nI t then ((if H.2 5 j = nI rm then some (1 : Int32) else some 0).bind fun v8 => (if H.2 7 j = 1 then some (1 : Int32) else some 0).bind fun v11 => if v8 = v11 then some (1 : Int32) else some 0) else some 1) = some (if (c && (if H.2 6 j = nI t then decide (decide (H.2 5 j = nI rm) = decide (H.2 7 j = 1)) else true)) = true then 1 else 0) := by
      cases c with
      | false => rfl
      | true =>
        by_cases h1 : H.2 7 j = 1 <;> by_cases h2 : H.2 6 j = nI t <;> by_cases h3 : H.2 5 j = nI rm <;> simp [h1, h2, h3]
    rw [f_X8_mayBe_5, md_f0 (blk_at _ _ _), b_some, ln_5 (blk_at _ _ _), b_some, hN.2.2.2.2.1, wE.1, if_neg (nI_ge (by omega) (by omega)), ix_133]
    simp only [md_f0 (blk_at b (mdL b m l r) h), b_some, show (1 : Int32) = nI 1 from rfl, show (2 : Int32) = nI 2 from rfl, nI_add, md_m1 (blk_at b (mdL b m l r) h) (show 133 + 3 * j + 1 < 399 by omega), md_m1 (blk_at b (mdL b m l r) h) (show 133 + 3 * j < 399 by omega), md_m1 (blk_at b (mdL b m l r) h) (show 133 + 3 * j + 2 < 399 by omega), e0, e1, e2]
    simp only [show nI 1 = (1 : Int32) from rfl]
    rw [key, b_some, ih (j + 1) n _ (by omega) (by omega), fitL]
    cases c with
    | false => rfl
    | true =>
      by_cases h2 : H.2 6 j = nI t
      · by_cases h4 : decide (H.2 5 j = nI rm) = decide (H.2 7 j = 1)
        · simp [h2, h4]
        · simp [h2, h4]
      · simp [h2]
theorem g8_may (hN : hR H (m.2 0)) (wE : wfE H) {t rm : Nat} : f_X8_mayBe (blk b (mdL b m l r) h) b (nI rm) (nI t) = some (if fitB H t rm = true then 1 else 0) := by
  have := g8_may5 (h := h) (b := b) (l := l) (r := r) (t := t) (rm := rm) hN wE (hS H) 0 lots true (by omega) (by have := wE.2; simp only [lots]; omega)
  rw [nI_0, if_pos rfl, Bool.true_and] at this
  rw [f_X8_mayBe, this, b_some]
  exact bz _
theorem g8_step (hN : hR H (m.2 0)) {q s : Nat} (hq : q < 8) (hs : s < 8) : f_X8_isStep (blk b (mdL b m l r) h) b (nI q) (nI s) = some (if stp H q s = true then 1 else 0) := by
  rw [f_X8_isStep, md_o (blk_at _ _ _), b_some, g8_creaks (blk_at _ _ _) hN hq hs, b_some]
  simp only [nI_eq (show q < 2 ^ 31 by omega) (show s < 2 ^ 31 by omega)]
  have : (if q = s then some (1 : Int32) else if H.2 1 (q * 8 + s) ≤ 0 then some 0 else some 1) = some (if stp H q s = true then 1 else 0) := by
    by_cases h1 : q = s
    · simp [stp, h1]
    · by_cases h2 : H.2 1 (q * 8 + s) ≤ 0
      · simp [stp, h1, h2, Int32.not_lt.mpr h2]
      · simp [stp, h1, h2, Int32.not_le.mp h2]
  rw [this, b_some]
  exact bz _
theorem ix_8 (t j : Nat) : (8 : Int32) * nI t + nI j = nI (8 * t + j) := by rw [show (8 : Int32) = nI 8 from rfl, pk_mul, nI_add]
theorem g8_w29 (hN : hR H (m.2 0)) {t rm : Nat} (ht : t + 1 ≤ 12) (hrm : rm < 8) (hc : ∀ q, q < 8 → r 0 (8 * t + q) = lN (cw H t q)) : ∀ (k j n : Nat), j + k = 8 → k < n → f_X8_layWays_29 n (blk b (mdL b m l r) h) b (nI (t + 1)) (nI rm) (lN (sumK (fun q => if stp H q rm = true then cw H t q else 0) j)) (nI j) = some (lN (sumK (fun q => if stp H q rm = true then cw H t q else 0) 8)) := by
  intro k
  induction k with
  | zero =>
    intro j n hj hn
    obtain ⟨n, rfl⟩ : ∃ q, n = q + 1 := ⟨n - 1, by omega⟩
    rw [f_X8_layWays_29, if_pos (show (8 : Int32) ≤ nI j from nI_le (a := 8) (by omega) (by omega)), show j = 8 by omega]
  | succ k ih =>
    intro j n hj hn
    obtain ⟨n, rfl⟩ : ∃ q, n = q + 1 := ⟨n - 1, by omega⟩
    rw [f_X8_layWays_29, if_neg (show ¬ (8 : Int32) ≤ nI j from nI_ge (b := 8) (by omega) (by omega)), if_neg (nI_nle (by omega) (by omega)), md_o (blk_at _ _ _), b_some, g8_step hN (by omega) hrm, b_some, nI_pred, ix_8, md_f17 (blk_at _ _ _), b_some, md_m14 (blk_at _ _ _) (by omega), b_some, hc j (by omega), nI_1, ← ih (j + 1) n (by omega) (by omega), sumK]
    by_cases h1 : stp H j rm = true
    · rw [if_pos h1, if_neg (show ¬ (1 : Int32) = 0 by decide), b_some, lN_add, if_pos h1]
    · rw [if_neg h1, if_pos rfl, b_some, show (0 : Int64) = lN 0 from rfl, lN_add, if_neg h1]
theorem g8_w29z {rm : Nat} : f_X8_layWays_29 lots (blk b (mdL b m l r) h) b (nI 0) (nI rm) 1 0 = some 1 := by
  rw [show lots = 999 + 1 from rfl, f_X8_layWays_29, if_neg (show ¬ (8 : Int32) ≤ 0 by decide), if_pos (show nI 0 ≤ 0 by decide)]
theorem g8_w10 (hN : hR H (m.2 0)) (wE : wfE H) {t : Nat} (ht : t ≤ 12) : ∀ (k j n : Nat) (r : Nat → Nat → Int64), j + k = 8 → k < n → (∀ t' q, t' < t → q < 8 → r 0 (8 * t' + q) = lN (cw H t' q)) → (∀ q, q < j → r 0 (8 * t + q) = lN (cw H t q)) → ∃ r', f_X8_layWays_10 n (blk b (mdL b m l r) h) b (nI t) (nI j) = some (blk b (mdL b m l r') h) ∧ (∀ t' q, t' < t + 1 → q < 8 → r' 0 (8 * t' + q) = lN (cw H t' q)) := by
  intro k
  induction k with
  | zero =>
    intro j n r hj hn hr hq
    obtain ⟨n, rfl⟩ : ∃ q, n = q + 1 := ⟨n - 1, by omega⟩
    refine ⟨r, by rw [f_X8_layWays_10, if_pos (show (8 : Int32) ≤ nI j from nI_le (a := 8) (by omega) (by omega))], fun t' q h1 h2 => ?_⟩
    by_cases e : t' = t
    · subst e; exact hq q (by omega)
    · exact hr t' q (by omega) h2
  | succ k ih =>
    intro j n r hj hn hr hq
    obtain ⟨n, rfl⟩ : ∃ q, n = q + 1 := ⟨n - 1, by omega⟩
    obtain ⟨r', e, h1⟩ := ih (j + 1) n (sJ r 0 (8 * t + j) (lN (cw H t j))) (by omega) (by omega) (fun t' q a1 a2 => by
      rw [sJ_2, if_neg (by omega)]; exact hr t' q a1 a2) (fun q a1 => by
      rw [sJ_2]
      by_cases e : q = j
      · simp [e]
      · rw [if_neg (by omega)]; exact hq q (by omega))
    refine ⟨r', ?_, h1⟩
    have key : ((if nI t = 0 then some (1 : Int64) else some 0).bind fun v1 => f_X8_layWays_29 lots (blk b (mdL b m l r) h) b (nI t) (nI j) v1 0) = some (lN (if t = 0 then 1 else sumK (fun q => if stp H q j = true then cw H (t - 1) q else 0) 8)) := by
      cases t with
      | zero => rw [if_pos (show nI 0 = 0 from rfl), b_some, g8_w29z]; rfl
      | succ t =>
        have w := g8_w29 (h := h) (b := b) (l := l) hN (t := t) ht (rm := j) (by omega) (fun q a1 => hr t q (by omega) a1) 8 0 lots (by omega) (by simp only [lots]; omega)
        rw [nI_0, sumK, show lN 0 = 0 from rfl] at w
        rw [if_neg (nI_ne0 (by omega) (by omega)), b_some, w, if_neg (by omega)]
        rfl
    have k2 : ∀ K : Int64 → Option Hea, ((if nI t = 0 then some (1 : Int64) else some 0).bind fun v1 => (f_X8_layWays_29 lots (blk b (mdL b m l r) h) b (nI t) (nI j) v1 0).bind K) = K (lN (if t = 0 then 1 else sumK (fun q => if stp H q j = true then cw H (t - 1) q else 0) 8)) := by
      intro K
      rw [← b_some (lN (if t = 0 then 1 else sumK (fun q => if stp H q j = true then cw H (t - 1) q else 0) 8)) K, ← key, Option.bind_assoc]
    rw [f_X8_layWays_10, if_neg (show ¬ (8 : Int32) ≤ nI j from nI_ge (b := 8) (by omega) (by omega)), k2, md_f17 (blk_at _ _ _), b_some, md_o (blk_at _ _ _), b_some, g8_may hN wE, b_some, ix_8, nI_1, ← e]
    have cwv : cw H t j = if fitB H t j = true then (if t = 0 then 1 else sumK (fun q => if stp H q j = true then cw H (t - 1) q else 0) 8) else 0 := by
      cases t with
      | zero => rfl
      | succ t => rw [cw, extN]; rfl
    by_cases hf : fitB H t j = true
    · rw [if_pos hf, if_neg (show ¬ (1 : Int32) = 0 by decide), b_some, md_w14 (by omega), b_some, cwv, if_pos hf]
    · rw [if_neg hf, if_pos rfl, b_some, show (0 : Int64) = lN 0 from rfl, md_w14 (by omega), b_some, cwv, if_neg hf]
theorem g8_w2 (hN : hR H (m.2 0)) (wE : wfE H) : ∀ (k t n : Nat) (r : Nat → Nat → Int64), t + k = 13 → k < n → (∀ t' q, t' < t → q < 8 → r 0 (8 * t' + q) = lN (cw H t' q)) → ∃ r', f_X8_layWays_2 n (blk b (mdL b m l r) h) b (nI t) = some (blk b (mdL b m l r') h) ∧ (∀ t' q, t' < 13 → q < 8 → r' 0 (8 * t' + q) = lN (cw H t' q)) := by
  intro k
  induction k with
  | zero =>
    intro t n r hj hn hr
    obtain ⟨n, rfl⟩ : ∃ q, n = q + 1 := ⟨n - 1, by omega⟩
    exact ⟨r, by rw [f_X8_layWays_2, if_pos (show (12 : Int32) < nI t from nI_lt (a := 12) (by omega) (by omega))], fun t' q h1 h2 => hr t' q (by omega) h2⟩
  | succ k ih =>
    intro t n r hj hn hr
    obtain ⟨n, rfl⟩ : ∃ q, n = q + 1 := ⟨n - 1, by omega⟩
    obtain ⟨r1, e1, h1⟩ := g8_w10 (h := h) (b := b) (l := l) hN wE (t := t) (by omega) 8 0 lots r (by omega) (by simp only [lots]; omega) hr (fun q hq => by omega)
    rw [nI_0] at e1
    obtain ⟨r2, e2, h2⟩ := ih (t + 1) n r1 (by omega) (by omega) h1
    exact ⟨r2, by rw [f_X8_layWays_2, if_neg (show ¬ (12 : Int32) < nI t from nI_nlt (a := 12) (by omega) (by omega)), e1, b_some, nI_1, e2], h2⟩
theorem g8_w144 (hN : hR H (m.2 0)) (wE : wfE H) {t rm : Nat} (ht : t < 12) (hrm : rm < 8) (hc : ∀ q, q < 8 → r 1 (8 * (t + 1) + q) = lN (gw H (11 - t) q)) : ∀ (k j n : Nat), j + k = 8 → k < n → f_X8_layWays_144 n (blk b (mdL b m l r) h) b (nI t) (nI rm) (lN (sumK (fun q => if stp H rm q = true ∧ fitB H (t + 1) q = true then gw H (11 - t) q else 0) j)) (nI j) = some (lN (sumK (fun q => if stp H rm q = true ∧ fitB H (t + 1) q = true then gw H (11 - t) q else 0) 8)) := by
  intro k
  induction k with
  | zero =>
    intro j n hj hn
    obtain ⟨n, rfl⟩ : ∃ q, n = q + 1 := ⟨n - 1, by omega⟩
    rw [f_X8_layWays_144, if_pos (show (8 : Int32) ≤ nI j from nI_le (a := 8) (by omega) (by omega)), show j = 8 by omega]
  | succ k ih =>
    intro j n hj hn
    obtain ⟨n, rfl⟩ : ∃ q, n = q + 1 := ⟨n - 1, by omega⟩
    rw [f_X8_layWays_144, if_neg (show ¬ (8 : Int32) ≤ nI j from nI_ge (b := 8) (by omega) (by omega)), if_neg (show ¬ (12 : Int32) ≤ nI t from nI_ge (b := 12) (by omega) (by omega)), md_o (blk_at _ _ _), b_some, g8_step hN hrm (by omega), b_some, b_some, nI_1, g8_may hN wE, b_some, ix_8, md_f18 (blk_at _ _ _), b_some, md_m15 (blk_at _ _ _) (by omega), b_some, hc j (by omega), nI_1, ← ih (j + 1) n (by omega) (by omega), sumK]
    by_cases h1 : stp H rm j = true
    · by_cases h2 : fitB H (t + 1) j = true
      · simp only [h1, h2, if_true, if_neg (show ¬ (1 : Int32) = 0 by decide), b_some, lN_add, and_self]
      · rw [if_pos h1, if_neg (show ¬ (1 : Int32) = 0 by decide), if_neg h2, if_pos rfl, b_some, show (0 : Int64) = lN 0 from rfl, lN_add, if_neg (fun e => h2 e.2)]
    · rw [if_neg h1, if_pos rfl, b_some, show (0 : Int64) = lN 0 from rfl, lN_add, if_neg (fun e => h1 e.1)]
theorem g8_w144z {rm : Nat} : f_X8_layWays_144 lots (blk b (mdL b m l r) h) b (nI 12) (nI rm) 1 0 = some 1 := by
  rw [show lots = 999 + 1 from rfl, f_X8_layWays_144, if_neg (show ¬ (8 : Int32) ≤ 0 by decide), if_pos (show (12 : Int32) ≤ nI 12 by decide)]
theorem g8_w123 (hN : hR H (m.2 0)) (wE : wfE H) {t : Nat} (ht : t ≤ 12) : ∀ (k j n : Nat) (r : Nat → Nat → Int64), j + k = 8 → k < n → (∀ t' q, t < t' → t' ≤ 12 → q < 8 → r 1 (8 * t' + q) = lN (gw H (12 - t') q)) → (∀ q, q < j → r 1 (8 * t + q) = lN (gw H (12 - t) q)) → ∃ r', f_X8_layWays_123 n (blk b (mdL b m l r) h) b (nI t) (nI j) = some (blk b (mdL b m l r') h) ∧ (∀ t' q, t ≤ t' → t' ≤ 12 → q < 8 → r' 1 (8 * t' + q) = lN (gw H (12 - t') q)) ∧ r' 0 = r 0 := by
  intro k
  induction k with
  | zero =>
    intro j n r hj hn hr hq
    obtain ⟨n, rfl⟩ : ∃ q, n = q + 1 := ⟨n - 1, by omega⟩
    refine ⟨r, by rw [f_X8_layWays_123, if_pos (show (8 : Int32) ≤ nI j from nI_le (a := 8) (by omega) (by omega))], fun t' q h1 h2 h3 => ?_, rfl⟩
    by_cases e : t' = t
    · subst e; exact hq q (by omega)
    · exact hr t' q (by omega) h2 h3
  | succ k ih =>
    intro j n r hj hn hr hq
    obtain ⟨n, rfl⟩ : ∃ q, n = q + 1 := ⟨n - 1, by omega⟩
    obtain ⟨r', e, h1, h0⟩ := ih (j + 1) n (sJ r 1 (8 * t + j) (lN (gw H (12 - t) j))) (by omega) (by omega) (fun t' q a1 a2 a3 => by
      rw [sJ_2, if_neg (by omega)]; exact hr t' q a1 a2 a3) (fun q a1 => by
      rw [sJ_2]
      by_cases e : q = j
      · simp [e]
      · rw [if_neg (by omega)]; exact hq q (by omega))
    refine ⟨r', ?_, h1, by rw [h0]; simp [sJ]⟩
    have key : ((if nI t = 12 then some (1 : Int64) else some 0).bind fun v1 => f_X8_layWays_144 lots (blk b (mdL b m l r) h) b (nI t) (nI j) v1 0) = some (lN (gw H (12 - t) j)) := by
      by_cases e12 : t = 12
      · subst e12
        rw [if_pos (show nI 12 = 12 from rfl), b_some, g8_w144z]; rfl
      · have w := g8_w144 (h := h) (b := b) (l := l) (r := r) hN wE (t := t) (by omega) (rm := j) (by omega) (fun q a1 => by rw [hr (t + 1) q (by omega) (by omega) a1, show 12 - (t + 1) = 11 - t by omega]) 8 0 lots (by omega) (by simp only [lots]; omega)
        rw [nI_0, sumK, show lN 0 = 0 from rfl] at w
        rw [if_neg (show ¬ nI t = 12 from fun e => e12 ((nI_eq (b := 12) (by omega) (by omega)).mp e)), b_some, w, show 12 - t = (11 - t) + 1 by omega, gw, show 12 - (11 - t) = t + 1 by omega]
    have k2 : ∀ K : Int64 → Option Hea, ((if nI t = 12 then some (1 : Int64) else some 0).bind fun v1 => (f_X8_layWays_144 lots (blk b (mdL b m l r) h) b (nI t) (nI j) v1 0).bind K) = K (lN (gw H (12 - t) j)) := by
      intro K
      rw [← b_some (lN (gw H (12 - t) j)) K, ← key, Option.bind_assoc]
    rw [f_X8_layWays_123, if_neg (show ¬ (8 : Int32) ≤ nI j from nI_ge (b := 8) (by omega) (by omega)), k2, md_f18 (blk_at _ _ _), b_some, ix_8, md_w15 (by omega), b_some, nI_1]
    exact e
theorem g8_w117 (hN : hR H (m.2 0)) (wE : wfE H) : ∀ (k n : Nat) (r : Nat → Nat → Int64), k ≤ 13 → k < n → (∀ t' q, k ≤ t' → t' ≤ 12 → q < 8 → r 1 (8 * t' + q) = lN (gw H (12 - t') q)) → ∃ r', f_X8_layWays_117 n (blk b (mdL b m l r) h) b (nI k + (-1)) = some (blk b (mdL b m l r') h) ∧ (∀ t' q, t' ≤ 12 → q < 8 → r' 1 (8 * t' + q) = lN (gw H (12 - t') q)) ∧ r' 0 = r 0 := by
  intro k
  induction k with
  | zero =>
    intro n r hk hn hr
    obtain ⟨n, rfl⟩ : ∃ q, n = q + 1 := ⟨n - 1, by omega⟩
    exact ⟨r, by rw [f_X8_layWays_117, if_pos (show nI 0 + (-1) < 0 by decide)], fun t' q h1 h2 => hr t' q (by omega) h1 h2, rfl⟩
  | succ k ih =>
    intro n r hk hn hr
    obtain ⟨n, rfl⟩ : ∃ q, n = q + 1 := ⟨n - 1, by omega⟩
    obtain ⟨r1, e1, h1, k1⟩ := g8_w123 (h := h) (b := b) (l := l) hN wE (t := k) (by omega) 8 0 lots r (by omega) (by simp only [lots]; omega) (fun t' q a1 a2 a3 => hr t' q (by omega) a2 a3) (fun q hq => by omega)
    rw [nI_0] at e1
    obtain ⟨r2, e2, h2, k2⟩ := ih n r1 (by omega) (by omega) h1
    exact ⟨r2, by rw [f_X8_layWays_117, pk_m1, if_neg (nI_pos (by omega)), e1, b_some, e2], h2, k2.trans k1⟩
theorem g8_lay (hN : hR H (m.2 0)) (wE : wfE H) : ∃ r', f_X8_layWays (blk b (mdL b m l r) h) b = some (blk b (mdL b m l r') h) ∧ (∀ t q, t ≤ 12 → q < 8 → r' 0 (8 * t + q) = lN (cw H t q) ∧ r' 1 (8 * t + q) = lN (gw H (12 - t) q)) := by
  obtain ⟨r1, e1, h1⟩ := g8_w2 (h := h) (b := b) (l := l) hN wE 13 0 lots r (by omega) (by simp only [lots]; omega) (fun t' q a1 => by omega)
  obtain ⟨r2, e2, h2, k2⟩ := g8_w117 (h := h) (b := b) (l := l) hN wE 13 lots r1 (by omega) (by simp only [lots]; omega) (fun t' q a1 a2 => by omega)
  rw [nI_0] at e1
  rw [show nI 13 + (-1) = 12 from rfl] at e2
  exact ⟨r2, by rw [f_X8_layWays, e1, b_some, e2, b_some], fun t q a1 a2 => ⟨by rw [k2]; exact h1 t q (by omega) a2, h2 t q a1 a2⟩⟩
theorem g8_by {t q : Nat} (ht : t ≤ 12) (hq : q < 8) (hr : ∀ t q, t ≤ 12 → q < 8 → r 0 (8 * t + q) = lN (cw H t q) ∧ r 1 (8 * t + q) = lN (gw H (12 - t) q)) : f_X8_waysBy (blk b (mdL b m l r) h) b (nI t) (nI q) = some (lN (cw H t q * gw H (12 - t) q)) := by
  rw [f_X8_waysBy, md_f17 (blk_at _ _ _), b_some, ix_8, md_m14 (blk_at _ _ _) (by omega), b_some, md_f18 (blk_at _ _ _), b_some, md_m15 (blk_at _ _ _) (by omega), b_some, (hr t q ht hq).1, (hr t q ht hq).2, lN_mul]
theorem g8_all4 (hr : ∀ t q, t ≤ 12 → q < 8 → r 0 (8 * t + q) = lN (cw H t q) ∧ r 1 (8 * t + q) = lN (gw H (12 - t) q)) : ∀ (k j n : Nat), j + k = 8 → k < n → f_X8_allWays_4 n (blk b (mdL b m l r) h) b (lN (sumK (fun q => cw H 0 q * gw H (12 - 0) q) j)) (nI j) = some (lN (totW H 0)) := by
  intro k
  induction k with
  | zero =>
    intro j n hj hn
    obtain ⟨n, rfl⟩ : ∃ q, n = q + 1 := ⟨n - 1, by omega⟩
    rw [f_X8_allWays_4, if_pos (show (8 : Int32) ≤ nI j from nI_le (a := 8) (by omega) (by omega)), show j = 8 by omega]
    rfl
  | succ k ih =>
    intro j n hj hn
    obtain ⟨n, rfl⟩ : ∃ q, n = q + 1 := ⟨n - 1, by omega⟩
    have := g8_by (h := h) (b := b) (m := m) (l := l) (t := 0) (q := j) (by omega) (by omega) hr
    rw [nI_0] at this
    rw [f_X8_allWays_4, if_neg (show ¬ (8 : Int32) ≤ nI j from nI_ge (b := 8) (by omega) (by omega)), md_o (blk_at _ _ _), b_some, this, b_some, lN_add, nI_1, ← ih (j + 1) n (by omega) (by omega), sumK]
theorem g8_all (hr : ∀ t q, t ≤ 12 → q < 8 → r 0 (8 * t + q) = lN (cw H t q) ∧ r 1 (8 * t + q) = lN (gw H (12 - t) q)) : f_X8_allWays (blk b (mdL b m l r) h) b = some (lN (totW H 0)) := by
  have := g8_all4 (h := h) (b := b) (m := m) (l := l) hr 8 0 lots (by omega) (by simp only [lots]; omega)
  rw [nI_0, sumK, show lN 0 = 0 from rfl] at this
  rw [f_X8_allWays, this, b_some]
theorem g8_may27 {t : Nat} (ht : t ≤ 12) (hr : ∀ t q, t ≤ 12 → q < 8 → r 0 (8 * t + q) = lN (cw H t q) ∧ r 1 (8 * t + q) = lN (gw H (12 - t) q)) : ∀ (k j n : Nat), j + k = 8 → k < n → f_X8_may_27 n (blk b (mdL b m l r) h) b (nI t) (bitsF (fun q => decide (0 < cw H t q * gw H (12 - t) q)) j) (nI j) = some (bitsF (fun q => decide (0 < cw H t q * gw H (12 - t) q)) 8) := by
  intro k
  induction k with
  | zero =>
    intro j n hj hn
    obtain ⟨n, rfl⟩ : ∃ q, n = q + 1 := ⟨n - 1, by omega⟩
    rw [f_X8_may_27, if_pos (show (8 : Int32) ≤ nI j from nI_le (a := 8) (by omega) (by omega)), show j = 8 by omega]
  | succ k ih =>
    intro j n hj hn
    obtain ⟨n, rfl⟩ : ∃ q, n = q + 1 := ⟨n - 1, by omega⟩
    have hle := thr_le (H := H) (r := j) ht
    have hc : (lg_cmp (lN (cw H t j * gw H (12 - t) j)) 0 ≤ 0) ↔ ¬ 0 < cw H t j * gw H (12 - t) j := by
      rw [lg_cmp_le, show (0 : Int64) = lN 0 from rfl, pk_lLE (by omega) (by omega)]; omega
    rw [f_X8_may_27, if_neg (show ¬ (8 : Int32) ≤ nI j from nI_ge (b := 8) (by omega) (by omega)), md_o (blk_at _ _ _), b_some, g8_by ht (by omega) hr, b_some, nI_1, ← ih (j + 1) n (by omega) (by omega), bitsF_s]
    simp only [hc]
    by_cases h1 : 0 < cw H t j * gw H (12 - t) j
    · simp [h1]
    · simp [h1]
theorem tell_v {f : Nat → Nat} {T q : Nat} (hT : T < 2 ^ 62) (hq : f q ≤ T) : (if lg_cmp (lN (f q)) (lN T - lN (f q)) ≤ 0 then some (lN T - lN (f q)) else some (lN (f q))) = some (lN (tellW f T q)) := by
  rw [lN_sub hq, tellW]
  simp only [lg_cmp_le, pk_lLE (show f q < 2 ^ 63 by omega) (show T - f q < 2 ^ 63 by omega)]
  by_cases h1 : T - f q < f q
  · rw [if_pos h1, if_neg (by omega)]
  · rw [if_neg h1, if_pos (by omega)]
theorem g8_peek37 {t T : Nat} (ht : t ≤ 12) (hT : T < 2 ^ 62) (h0 : 0 < T) (hf : ∀ q, q < 8 → cw H t q * gw H (12 - t) q ≤ T) (hr : ∀ t q, t ≤ 12 → q < 8 → r 0 (8 * t + q) = lN (cw H t q) ∧ r 1 (8 * t + q) = lN (gw H (12 - t) q)) : ∀ (k j n : Nat) (a : Int32) (c : Nat), j + k = 8 → k < n → c ≤ T → ¬ a = -1 → f_X8_peek_37 n (blk b (mdL b m l r) h) b (nI t) (lN T) a (lN c) (nI j) = some (tellL (fun q => cw H t q * gw H (12 - t) q) T k j a c) := by
  have hz : ¬ lg_cmp (lN T) 0 ≤ 0 := by rw [lg_cmp_le, show (0 : Int64) = lN 0 from rfl, pk_lLE (by omega) (by omega)]; omega
  intro k
  induction k with
  | zero =>
    intro j n a c hj hn hc ha
    obtain ⟨n, rfl⟩ : ∃ q, n = q + 1 := ⟨n - 1, by omega⟩
    rw [f_X8_peek_37, if_pos (show (8 : Int32) ≤ nI j from nI_le (a := 8) (by omega) (by omega)), tellL]
  | succ k ih =>
    intro j n a c hj hn hc ha
    obtain ⟨n, rfl⟩ : ∃ q, n = q + 1 := ⟨n - 1, by omega⟩
    have hw := tellW_le (f := fun q => cw H t q * gw H (12 - t) q) (hf j (by omega))
    have tv := tell_v (f := fun q => cw H t q * gw H (12 - t) q) hT (hf j (by omega))
    rw [f_X8_peek_37, if_neg (show ¬ (8 : Int32) ≤ nI j from nI_ge (b := 8) (by omega) (by omega)), if_neg hz, md_o (blk_at _ _ _), b_some, g8_by ht (by omega) hr, b_some, tv, b_some, if_neg ha, nI_1, tellL]
    simp only [lg_cmp_ge, pk_lLE (show c < 2 ^ 63 by omega) (show tellW (fun q => cw H t q * gw H (12 - t) q) T j < 2 ^ 63 by omega)]
    by_cases h1 : c ≤ tellW (fun q => cw H t q * gw H (12 - t) q) T j
    · simp only [h1, if_true, b_some]
      exact ih (j + 1) n a c (by omega) (by omega) hc ha
    · simp only [h1, if_false, b_some, if_neg (show ¬ (1 : Int32) = 0 by decide)]
      exact ih (j + 1) n (nI j) _ (by omega) (by omega) hw (nI_n1 (by omega))
theorem g8_peek {t : Nat} (ht : t ≤ 12) (hr : ∀ t q, t ≤ 12 → q < 8 → r 0 (8 * t + q) = lN (cw H t q) ∧ r 1 (8 * t + q) = lN (gw H (12 - t) q)) : f_X8_peek_37 lots (blk b (mdL b m l r) h) b (nI t) (lN (totW H 0)) (-1) (lN (totW H 0)) 0 = some (if totW H t = 0 then -1 else tellL (fun q => cw H t q * gw H (12 - t) q) (totW H t) 8 0 (-1) (totW H t + 1)) := by
  have hT := tot_le (H := H) ht
  rw [← totW_0 t ht]
  rw [show lots = 999 + 1 from rfl, f_X8_peek_37, if_neg (show ¬ (8 : Int32) ≤ 0 by decide)]
  by_cases h0 : totW H t = 0
  · rw [if_pos h0, h0, if_pos (by decide)]
  · have hz : ¬ lg_cmp (lN (totW H t)) 0 ≤ 0 := by rw [lg_cmp_le, show (0 : Int64) = lN 0 from rfl, pk_lLE (by omega) (by omega)]; omega
    have hf : ∀ q, q < 8 → cw H t q * gw H (12 - t) q ≤ totW H t := fun q hq => sumK_ge (f := fun q => cw H t q * gw H (12 - t) q) 8 q hq
    have hw := tellW_le (f := fun q => cw H t q * gw H (12 - t) q) (hf 0 (by omega))
    have tv := tell_v (f := fun q => cw H t q * gw H (12 - t) q) (show totW H t < 2 ^ 62 by omega) (hf 0 (by omega))
    have by0 := g8_by (h := h) (b := b) (m := m) (l := l) (t := t) (q := 0) ht (by omega) hr
    have nx := g8_peek37 (h := h) (b := b) (m := m) (l := l) ht (show totW H t < 2 ^ 62 by omega) (by omega) hf hr 7 1 999 (nI 0) (tellW (fun q => cw H t q * gw H (12 - t) q) (totW H t) 0) (by omega) (by omega) hw (nI_n1 (by omega))
    rw [nI_0] at by0 nx
    rw [if_neg h0, if_neg hz, md_o (blk_at _ _ _), b_some, by0, b_some, tv, b_some, if_pos rfl, b_some, if_neg (show ¬ (1 : Int32) = 0 by decide), b_some, if_neg (show ¬ (1 : Int32) = 0 by decide), b_some, tellL, if_neg (by omega), nI_0]
    exact nx
end
