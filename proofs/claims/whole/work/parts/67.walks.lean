/-! ===== Walks ===== -/
def fitL (H : Blk) (t r : Nat) : Nat → Nat → Bool
  | 0, _ => true
  | k + 1, j => if H.2 6 j = nI t then (if decide (H.2 5 j = nI r) = decide (H.2 7 j = 1) then fitL H t r k (j + 1) else false) else fitL H t r k (j + 1)
def fitB (H : Blk) (t r : Nat) : Bool := fitL H t r (hS H) 0
def stp (H : Blk) (q r : Nat) : Bool := decide (q = r) || decide (0 < H.2 1 (q * 8 + r))
def sumK (g : Nat → Nat) : Nat → Nat
  | 0 => 0
  | n + 1 => sumK g n + g n
def extN (H : Blk) (t : Nat) (f : Nat → Nat) (r : Nat) : Nat := if fitB H t r = true then sumK (fun q => if stp H q r = true then f q else 0) 8 else 0
def cw (H : Blk) : Nat → Nat → Nat
  | 0 => fun r => if fitB H 0 r = true then 1 else 0
  | t + 1 => extN H (t + 1) (cw H t)
def bw (H : Blk) : Nat → Nat → Nat
  | 0 => fun r => if fitB H 12 r = true then 1 else 0
  | k + 1 => extN H (11 - k) (bw H k)
def gw (H : Blk) : Nat → Nat → Nat
  | 0 => fun _ => 1
  | k + 1 => fun r => sumK (fun q => if stp H r q = true ∧ fitB H (12 - k) q = true then gw H k q else 0) 8
/-- doors: alike from both sides, none from a room into itself -/
def wfD (H : Blk) : Prop := (∀ q r, q < 8 → r < 8 → H.2 1 (q * 8 + r) = H.2 1 (r * 8 + q)) ∧ ∀ q, q < 8 → H.2 1 (q * 8 + q) = 0
def wfE (H : Blk) : Prop := H.1 4 = nI (hS H) ∧ hS H ≤ 6
theorem sumK_congr {f g : Nat → Nat} : ∀ n, (∀ q, q < n → f q = g q) → sumK f n = sumK g n := by
  intro n
  induction n with
  | zero => intro _; rfl
  | succ n ih => intro h; rw [sumK, sumK, ih (fun q hq => h q (by omega)), h n (by omega)]
theorem sumK_add {f g : Nat → Nat} : ∀ n, sumK (fun q => f q + g q) n = sumK f n + sumK g n := by
  intro n
  induction n with
  | zero => rfl
  | succ n ih => rw [sumK, sumK, sumK, ih]; omega
theorem sumK_0 : ∀ n, sumK (fun _ => 0) n = 0 := by
  intro n
  induction n with
  | zero => rfl
  | succ n ih => rw [sumK, ih]
theorem sumK_mul {f : Nat → Nat} {c : Nat} : ∀ n, sumK (fun q => c * f q) n = c * sumK f n := by
  intro n
  induction n with
  | zero => rfl
  | succ n ih => rw [sumK, sumK, ih, Nat.mul_add]
theorem sumK_swap {f : Nat → Nat → Nat} : ∀ n m, sumK (fun q => sumK (fun r => f q r) m) n = sumK (fun r => sumK (fun q => f q r) n) m := by
  intro n m
  induction n with
  | zero => exact (sumK_0 m).symm
  | succ n ih => rw [sumK, ih, ← sumK_add]; rfl
theorem sumK_le {f : Nat → Nat} {c : Nat} : ∀ n, (∀ q, q < n → f q ≤ c) → sumK f n ≤ n * c := by
  intro n
  induction n with
  | zero => intro _; simp [sumK]
  | succ n ih => intro h; have := ih (fun q hq => h q (by omega)); have := h n (by omega); rw [sumK, Nat.succ_mul]; omega
theorem sumK_ge {f : Nat → Nat} : ∀ n q, q < n → f q ≤ sumK f n := by
  intro n
  induction n with
  | zero => intro q h; omega
  | succ n ih =>
    intro q h
    rw [sumK]
    by_cases e : q = n
    · subst e; omega
    · have := ih q (by omega); omega
theorem cw_le {H : Blk} : ∀ t r, cw H t r ≤ 8 ^ t := by
  intro t
  induction t with
  | zero => intro r; simp only [cw]; split <;> simp
  | succ t ih =>
    intro r
    rw [cw, extN]
    split
    · have := sumK_le (f := fun q => if stp H q r = true then cw H t q else 0) (c := 8 ^ t) 8 (fun q _ => by split; exact ih q; exact Nat.zero_le _)
      rw [Nat.pow_succ]; omega
    · exact Nat.zero_le _
theorem gw_le {H : Blk} : ∀ k r, gw H k r ≤ 8 ^ k := by
  intro k
  induction k with
  | zero => intro r; simp [gw]
  | succ k ih =>
    intro r
    show sumK (fun q => if stp H r q = true ∧ fitB H (12 - k) q = true then gw H k q else 0) 8 ≤ 8 ^ (k + 1)
    have := sumK_le (f := fun q => if stp H r q = true ∧ fitB H (12 - k) q = true then gw H k q else 0) (c := 8 ^ k) 8 (fun q _ => by split; exact ih q; exact Nat.zero_le _)
    rw [Nat.pow_succ]; omega
theorem stp_sym {H : Blk} (wD : wfD H) {q r : Nat} (hq : q < 8) (hr : r < 8) : stp H q r = stp H r q := by
  rw [stp, stp, wD.1 q r hq hr]
  congr 1
  exact decide_eq_decide.mpr ⟨Eq.symm, Eq.symm⟩
theorem bw_gw {H : Blk} (wD : wfD H) : ∀ k r, k ≤ 12 → r < 8 → bw H k r = if fitB H (12 - k) r = true then gw H k r else 0 := by
  intro k
  induction k with
  | zero => intro r _ _; rfl
  | succ k ih =>
    intro r hk hr
    rw [bw, gw, extN, show 12 - (k + 1) = 11 - k by omega]
    split
    · refine sumK_congr 8 (fun q hq => ?_)
      rw [ih q (by omega) hq, stp_sym wD hq hr]
      by_cases h1 : stp H r q = true <;> by_cases h2 : fitB H (12 - k) q = true <;> simp [h1, h2]
    · rfl
theorem cw_fit {H : Blk} {t r : Nat} (h : ¬ fitB H t r = true) : cw H t r = 0 := by
  cases t with
  | zero => exact if_neg h
  | succ t => rw [cw, extN, if_neg h]
theorem thr_eq {H : Blk} (wD : wfD H) {m r : Nat} (hm : m ≤ 12) (hr : r < 8) : cw H m r * bw H (12 - m) r = cw H m r * gw H (12 - m) r := by
  rw [bw_gw wD _ _ (by omega) hr, show 12 - (12 - m) = m by omega]
  by_cases h : fitB H m r = true
  · rw [if_pos h]
  · rw [cw_fit h, Nat.zero_mul, Nat.zero_mul]
def totW (H : Blk) (m : Nat) : Nat := sumK (fun r => cw H m r * gw H (12 - m) r) 8
theorem totW_s {H : Blk} {m : Nat} (hm : m < 12) : totW H m = totW H (m + 1) := by
  have e1 : totW H m = sumK (fun r => sumK (fun q => cw H m r * (if stp H r q = true ∧ fitB H (m + 1) q = true then gw H (11 - m) q else 0)) 8) 8 := by
    refine sumK_congr 8 (fun r _ => ?_)
    rw [sumK_mul, show 12 - m = (11 - m) + 1 by omega, gw, show 12 - (11 - m) = m + 1 by omega]
  rw [e1, sumK_swap]
  refine sumK_congr 8 (fun q _ => ?_)
  rw [cw, extN, show 12 - (m + 1) = 11 - m by omega]
  by_cases h : fitB H (m + 1) q = true
  · rw [if_pos h, Nat.mul_comm (sumK _ 8), ← sumK_mul]
    refine sumK_congr 8 (fun r _ => ?_)
    by_cases h2 : stp H r q = true
    · simp [h, h2, Nat.mul_comm]
    · simp [h2]
  · rw [if_neg h, Nat.zero_mul]
    rw [sumK_congr 8 (g := fun _ => 0) (fun r _ => by simp [h]), sumK_0]
theorem totW_0 {H : Blk} : ∀ m, m ≤ 12 → totW H m = totW H 0 := by
  intro m
  induction m with
  | zero => intro _; rfl
  | succ m ih => intro h; rw [← totW_s (by omega), ih (by omega)]
theorem pw_le {m : Nat} (hm : m ≤ 12) : 8 ^ m * 8 ^ (12 - m) = 8 ^ 12 := by rw [← Nat.pow_add]; congr 1; omega
theorem thr_le {H : Blk} {m r : Nat} (hm : m ≤ 12) : cw H m r * gw H (12 - m) r ≤ 68719476736 := by
  have := Nat.mul_le_mul (cw_le (H := H) m r) (gw_le (H := H) (12 - m) r)
  rw [pw_le hm] at this
  exact this
theorem tot_le {H : Blk} {m : Nat} (hm : m ≤ 12) : totW H m ≤ 549755813888 := sumK_le 8 (fun _ _ => thr_le hm)
section
variable {h : Hea} {b bh : Nat} {H s0 : Blk} {r : Nat → Nat → Int64}
theorem g_fits2 (aH : At h bh (hhL bh H s0)) (wE : wfE H) {t rm : Nat} : ∀ (k j n : Nat), j + k = hS H → k < n → f_X5_fits_2 n h bh (nI t) (nI rm) (nI j) = some (if fitL H t rm k j = true then 1 else 0) := by
  have hm := wE.2
  intro k
  induction k with
  | zero =>
    intro j n hj hn
    obtain ⟨n, rfl⟩ : ∃ q, n = q + 1 := ⟨n - 1, by omega⟩
    rw [f_X5_fits_2, hh_f10 aH, b_some, wE.1, if_pos (nI_le (by omega) (by omega))]
    rfl
  | succ k ih =>
    intro j n hj hn
    obtain ⟨n, rfl⟩ : ∃ q, n = q + 1 := ⟨n - 1, by omega⟩
    have hj6 : j < 6 := by omega
    rw [f_X5_fits_2, hh_f10 aH, b_some, wE.1, if_neg (nI_ge (by omega) (by omega)), hh_f13 aH, b_some, hh_m14 aH hj6, b_some, fitL]
    simp only [hh_f12 aH, hh_f11 aH, b_some, hh_m13 aH hj6, hh_m12 aH hj6, nI_1, ih (j + 1) n (by omega) (by omega)]
    by_cases h1 : H.2 7 j = 1 <;> by_cases h2 : H.2 6 j = nI t <;> by_cases h3 : H.2 5 j = nI rm <;> simp [h1, h2, h3]
theorem g_fits (aH : At h bh (hhL bh H s0)) (wE : wfE H) {t rm : Nat} : f_X5_fits h bh (nI t) (nI rm) = some (if fitB H t rm = true then 1 else 0) := by
  have := g_fits2 (t := t) (rm := rm) aH wE (hS H) 0 lots (by omega) (by have := wE.2; simp only [lots]; omega)
  rw [nI_0] at this
  rw [f_X5_fits, this]
  rfl
theorem wk_H (aH : At h bh (hhL bh H s0)) (hd : bh + 15 ≤ b ∨ b + 5 ≤ bh) (r : Nat → Nat → Int64) : At (blk b (wkL b r) h) bh (hhL bh H s0) := at_far (n := 15) (n' := 5) aH (fun _ => hh_hi) (fun _ => wk_hi) hd
theorem wk_st {j i : Nat} {x : Int64} (hj : j < 4) (hi : i < 8) : stJ (blk b (wkL b r) h) (b + (j + 1)) (nI i) x = some (blk b (wkL b (sJ r j i x)) h) := by
  rcases (show j = 0 ∨ j = 1 ∨ j = 2 ∨ j = 3 by omega) with rfl | rfl | rfl | rfl
  · exact wk_w1 hi
  · exact wk_w2 hi
  · exact wk_w3 hi
  · exact wk_w4 hi
theorem wk_cp {j : Nat} (hj : j < 3) : cpJ (blk b (wkL b r) h) (b + (j + 1)) (b + 4) 8 = some (blk b (wkL b (sK r 3 (va_cpy (r j) (r 3) 0 0 8))) h) := by
  have hc : (blk b (wkL b r) h).2 (b + (j + 1)) = some (cJ 8 (r j)) := by
    rcases (show j = 0 ∨ j = 1 ∨ j = 2 by omega) with rfl | rfl | rfl
    · exact wk_k1 (blk_at _ _ _)
    · exact wk_k2 (blk_at _ _ _)
    · exact wk_k3 (blk_at _ _ _)
  rw [show (8 : Int32) = nI 8 from rfl, cpJ_at hc (wk_k4 (blk_at _ _ _)) (Nat.le_refl _) (Nat.le_refl _) (by omega), wk_b4]
theorem g_wbegin2 (aH : At h bh (hhL bh H s0)) (hd : bh + 15 ≤ b ∨ b + 5 ≤ bh) (wE : wfE H) {t a : Nat} (ha : a < 3) : ∀ (k j n : Nat) (r : Nat → Nat → Int64), j + k = 8 → k < n → (∀ q, q < j → r a q = lN (if fitB H t q = true then 1 else 0)) → ∃ r', f_X5_begin_2 n (blk b (wkL b r) h) bh (nI t) (b + (a + 1)) (nI j) = some (blk b (wkL b r') h) ∧ (∀ q, q < 8 → r' a q = lN (if fitB H t q = true then 1 else 0)) ∧ ∀ c, ¬ c = a → r' c = r c := by
  intro k
  induction k with
  | zero =>
    intro j n r hj hn hr
    obtain ⟨n, rfl⟩ : ∃ q, n = q + 1 := ⟨n - 1, by omega⟩
    exact ⟨r, by rw [f_X5_begin_2, if_pos (show (8 : Int32) ≤ nI j from nI_le (a := 8) (by omega) (by omega))], fun q hq => hr q (by omega), fun _ _ => rfl⟩
  | succ k ih =>
    intro j n r hj hn hr
    obtain ⟨n, rfl⟩ : ∃ q, n = q + 1 := ⟨n - 1, by omega⟩
    obtain ⟨r', e, h1, h2⟩ := ih (j + 1) n (sJ r a j (lN (if fitB H t j = true then 1 else 0))) (by omega) (by omega) (fun q hq => by
      rw [sJ_2]
      by_cases e : q = j
      · simp [e]
      · simpa [e] using hr q (by omega))
    refine ⟨r', ?_, h1, fun c hc => by rw [h2 c hc]; simp [sJ, hc]⟩
    rw [f_X5_begin_2, if_neg (show ¬ (8 : Int32) ≤ nI j from nI_ge (b := 8) (by omega) (by omega)), g_fits (wk_H aH hd _) wE, b_some, nI_1, ← e]
    by_cases hf : fitB H t j = true
    · simp only [hf, if_true, if_neg (show ¬ (1 : Int32) = 0 by decide), b_some]
      rw [show (1 : Int64) = lN 1 from rfl, wk_st (by omega) (by omega), b_some]
    · simp only [hf, if_false, if_true, b_some]
      rw [show (0 : Int64) = lN 0 from rfl]
      simp only [Bool.false_eq_true, if_false, if_true, b_some]
      rw [wk_st (by omega) (by omega), b_some]
theorem g_arr10 (aH : At h bh (hhL bh H s0)) (hd : bh + 15 ≤ b ∨ b + 5 ≤ bh) {f : Nat → Nat} (hf : ∀ q, q < 8 → r 3 q = lN (f q)) {rm : Nat} (hrm : rm < 8) : ∀ (k j n c : Nat), j + k = 8 → k < n → f_X5_arriving_10 n (blk b (wkL b r) h) b bh (nI rm) (lN (c + sumK (fun q => if H.2 1 (q * 8 + rm) ≤ 0 then 0 else f q) j)) (nI j) = some (lN (c + sumK (fun q => if H.2 1 (q * 8 + rm) ≤ 0 then 0 else f q) 8)) := by
  intro k
  induction k with
  | zero =>
    intro j n c hj hn
    obtain ⟨n, rfl⟩ : ∃ q, n = q + 1 := ⟨n - 1, by omega⟩
    rw [f_X5_arriving_10, if_pos (show (8 : Int32) ≤ nI j from nI_le (a := 8) (by omega) (by omega)), show j = 8 by omega]
  | succ k ih =>
    intro j n c hj hn
    obtain ⟨n, rfl⟩ : ∃ q, n = q + 1 := ⟨n - 1, by omega⟩
    rw [f_X5_arriving_10, if_neg (show ¬ (8 : Int32) ≤ nI j from nI_ge (b := 8) (by omega) (by omega)), hh_o (wk_H aH hd _), b_some, g_creaks (hh_ho (wk_H aH hd _)) (by omega) hrm, b_some, wk_f3 (blk_at _ _ _), b_some, wk_m4 (blk_at _ _ _) (by omega), b_some, hf j (by omega), lN_add, nI_1, ← ih (j + 1) n c (by omega) (by omega), sumK]
    by_cases h1 : H.2 1 (j * 8 + rm) ≤ 0
    · simp [h1]
    · simp [h1, Nat.add_assoc]
theorem arr_eq (wD : wfD H) {f : Nat → Nat} {rm : Nat} (hrm : rm < 8) : f rm + sumK (fun q => if H.2 1 (q * 8 + rm) ≤ 0 then 0 else f q) 8 = sumK (fun q => if stp H q rm = true then f q else 0) 8 := by
  have e1 : f rm = sumK (fun q => if q = rm then f q else 0) 8 := by
    rcases (show rm = 0 ∨ rm = 1 ∨ rm = 2 ∨ rm = 3 ∨ rm = 4 ∨ rm = 5 ∨ rm = 6 ∨ rm = 7 by omega) with rfl | rfl | rfl | rfl | rfl | rfl | rfl | rfl <;> simp [sumK]
  rw [e1, ← sumK_add]
  refine sumK_congr 8 (fun q hq => ?_)
  by_cases h1 : q = rm
  · subst h1
    simp [stp, wD.2 q hq]
  · by_cases h2 : H.2 1 (q * 8 + rm) ≤ 0
    · simp [stp, h1, h2, Int32.not_lt.mpr h2]
    · simp [stp, h1, h2, Int32.not_le.mp h2]
theorem g_ext15 (aH : At h bh (hhL bh H s0)) (hd : bh + 15 ≤ b ∨ b + 5 ≤ bh) (wE : wfE H) (wD : wfD H) {t a : Nat} (ha : a < 3) {f : Nat → Nat} : ∀ (k j n : Nat) (r : Nat → Nat → Int64), j + k = 8 → k < n → (∀ q, q < 8 → r 3 q = lN (f q)) → (∀ q, q < j → r a q = lN (extN H t f q)) → ∃ r', f_X5_extend_15 n (blk b (wkL b r) h) b bh (nI t) (b + (a + 1)) (nI j) = some (blk b (wkL b r') h) ∧ (∀ q, q < 8 → r' a q = lN (extN H t f q)) ∧ ∀ c, ¬ c = a → r' c = r c := by
  intro k
  induction k with
  | zero =>
    intro j n r hj hn hf hr
    obtain ⟨n, rfl⟩ : ∃ q, n = q + 1 := ⟨n - 1, by omega⟩
    exact ⟨r, by rw [f_X5_extend_15, if_pos (show (8 : Int32) ≤ nI j from nI_le (a := 8) (by omega) (by omega))], fun q hq => hr q (by omega), fun _ _ => rfl⟩
  | succ k ih =>
    intro j n r hj hn hf hr
    obtain ⟨n, rfl⟩ : ∃ q, n = q + 1 := ⟨n - 1, by omega⟩
    obtain ⟨r', e, h1, h2⟩ := ih (j + 1) n (sJ r a j (lN (extN H t f j))) (by omega) (by omega) (fun q hq => by simpa [sJ_2, show ¬ 3 = a by omega] using hf q hq) (fun q hq => by
      rw [sJ_2]
      by_cases e : q = j
      · simp [e]
      · simpa [e] using hr q (by omega))
    have ar := g_arr10 (r := r) aH hd hf (rm := j) (by omega) 8 0 lots (f j) (by omega) (by simp only [lots]; omega)
    rw [nI_0, arr_eq wD (by omega), sumK, Nat.add_zero] at ar
    refine ⟨r', ?_, h1, fun c hc => by rw [h2 c hc]; simp [sJ, hc]⟩
    rw [f_X5_extend_15, if_neg (show ¬ (8 : Int32) ≤ nI j from nI_ge (b := 8) (by omega) (by omega)), g_fits (wk_H aH hd _) wE, b_some, wk_o (blk_at _ _ _), b_some, f_X5_arriving, wk_f3 (blk_at _ _ _), b_some, wk_m4 (blk_at _ _ _) (by omega), b_some, hf j (by omega), ar, b_some, b_some, nI_1, ← e, extN]
    by_cases hfb : fitB H t j = true
    · rw [if_pos hfb, if_neg (show ¬ (1 : Int32) = 0 by decide), b_some, wk_st (by omega) (by omega), b_some, if_pos hfb]
    · rw [if_neg hfb, if_pos rfl, b_some, show (0 : Int64) = lN 0 from rfl, wk_st (by omega) (by omega), b_some, if_neg hfb]
theorem g_ext (aH : At h bh (hhL bh H s0)) (hd : bh + 15 ≤ b ∨ b + 5 ≤ bh) (wE : wfE H) (wD : wfD H) {t a : Nat} (ha : a < 3) {f : Nat → Nat} (hf : ∀ q, q < 8 → r a q = lN (f q)) : ∃ r', f_X5_extend (blk b (wkL b r) h) b bh (nI t) (b + (a + 1)) = some (blk b (wkL b r') h) ∧ (∀ q, q < 8 → r' a q = lN (extN H t f q)) ∧ ∀ c, ¬ c = a → ¬ c = 3 → r' c = r c := by
  obtain ⟨r', e, h1, h2⟩ := g_ext15 (t := t) (a := a) (f := f) aH hd wE wD ha 8 0 lots (sK r 3 (va_cpy (r a) (r 3) 0 0 8)) (by omega) (by simp only [lots]; omega) (fun q hq => by
    simp only [sK, if_true]
    rw [pk_cpy_in (Nat.zero_le _) (by omega), show 0 + (q - 0) = q by omega]
    exact hf q hq) (fun q hq => by omega)
  rw [nI_0] at e
  exact ⟨r', by rw [f_X5_extend, wk_f3 (blk_at _ _ _), b_some, wk_cp ha, b_some, e, b_some], h1, fun c h3 h4 => by rw [h2 c h3]; simp [sK, h4]⟩
theorem g_ct11 (aH : At h bh (hhL bh H s0)) (hd : bh + 15 ≤ b ∨ b + 5 ≤ bh) (wE : wfE H) (wD : wfD H) {m : Nat} (hm : m ≤ 12) : ∀ (k j n : Nat) (r : Nat → Nat → Int64), j + k = m → k < n → (∀ q, q < 8 → r 1 q = lN (cw H j q)) → ∃ r', f_X5_countThrough_11 n (blk b (wkL b r) h) b bh (nI m) (nI (j + 1)) = some (blk b (wkL b r') h) ∧ ∀ q, q < 8 → r' 1 q = lN (cw H m q) := by
  intro k
  induction k with
  | zero =>
    intro j n r hj hn hr
    obtain ⟨n, rfl⟩ : ∃ q, n = q + 1 := ⟨n - 1, by omega⟩
    exact ⟨r, by rw [f_X5_countThrough_11, if_pos (nI_lt (by omega) (by omega))], fun q hq => by rw [hr q hq, show j = m by omega]⟩
  | succ k ih =>
    intro j n r hj hn hr
    obtain ⟨n, rfl⟩ : ∃ q, n = q + 1 := ⟨n - 1, by omega⟩
    obtain ⟨r1, e1, h1, -⟩ := g_ext (t := j + 1) (a := 1) aH hd wE wD (by omega) hr
    obtain ⟨r2, e2, h2⟩ := ih (j + 1) n r1 (by omega) (by omega) h1
    exact ⟨r2, by rw [f_X5_countThrough_11, if_neg (nI_nlt (by omega) (by omega)), wk_f1 (blk_at _ _ _), b_some, wk_o (blk_at _ _ _), b_some, e1, b_some, nI_1, e2], h2⟩
theorem g_ct45 (aH : At h bh (hhL bh H s0)) (hd : bh + 15 ≤ b ∨ b + 5 ≤ bh) (wE : wfE H) (wD : wfD H) {m : Nat} : ∀ (k n : Nat) (r : Nat → Nat → Int64), m + k ≤ 12 → k < n → (∀ q, q < 8 → r 2 q = lN (bw H (12 - (m + k)) q)) → ∃ r', f_X5_countThrough_45 n (blk b (wkL b r) h) b bh (nI m) (nI (m + k) + (-1)) = some (blk b (wkL b r') h) ∧ (∀ q, q < 8 → r' 2 q = lN (bw H (12 - m) q)) ∧ r' 1 = r 1 := by
  intro k
  induction k with
  | zero =>
    intro n r hj hn hr
    obtain ⟨n, rfl⟩ : ∃ q, n = q + 1 := ⟨n - 1, by omega⟩
    refine ⟨r, ?_, hr, rfl⟩
    rw [f_X5_countThrough_45, if_pos]
    rw [show (-1 : Int32) = 0 - nI 1 from rfl, ← nI_0, Nat.add_zero]
    rcases (show m = 0 ∨ m = 1 ∨ m = 2 ∨ m = 3 ∨ m = 4 ∨ m = 5 ∨ m = 6 ∨ m = 7 ∨ m = 8 ∨ m = 9 ∨ m = 10 ∨ m = 11 ∨ m = 12 by omega) with rfl | rfl | rfl | rfl | rfl | rfl | rfl | rfl | rfl | rfl | rfl | rfl | rfl <;> decide
  | succ k ih =>
    intro n r hj hn hr
    obtain ⟨n, rfl⟩ : ∃ q, n = q + 1 := ⟨n - 1, by omega⟩
    obtain ⟨r1, e1, h1, k1⟩ := g_ext (t := m + k) (a := 2) aH hd wE wD (by omega) hr
    obtain ⟨r2, e2, h2, k2⟩ := ih n r1 (by omega) (by omega) (fun q hq => by
      rw [h1 q hq, show 12 - (m + k) = (12 - (m + (k + 1))) + 1 by omega, bw, show 11 - (12 - (m + (k + 1))) = m + k by omega])
    refine ⟨r2, ?_, h2, k2.trans (k1 1 (by omega) (by omega))⟩
    rw [f_X5_countThrough_45, show m + (k + 1) = (m + k) + 1 by omega, pk_m1, if_neg (nI_nlt (by omega) (by omega)), wk_f2 (blk_at _ _ _), b_some, wk_o (blk_at _ _ _), b_some, e1, b_some, e2]
theorem g_ct68 {f g : Nat → Nat} (h1 : ∀ q, q < 8 → r 1 q = lN (f q)) (h2 : ∀ q, q < 8 → r 2 q = lN (g q)) : ∀ (k j n : Nat) (r' : Nat → Nat → Int64), j + k = 8 → k < n → r' 1 = r 1 → r' 2 = r 2 → (∀ q, q < j → r' 0 q = lN (f q * g q)) → ∃ r'', f_X5_countThrough_68 n (blk b (wkL b r') h) b (nI j) = some (blk b (wkL b r'') h) ∧ ∀ q, q < 8 → r'' 0 q = lN (f q * g q) := by
  intro k
  induction k with
  | zero =>
    intro j n r' hj hn a1 a2 hr
    obtain ⟨n, rfl⟩ : ∃ q, n = q + 1 := ⟨n - 1, by omega⟩
    exact ⟨r', by rw [f_X5_countThrough_68, if_pos (show (8 : Int32) ≤ nI j from nI_le (a := 8) (by omega) (by omega))], fun q hq => hr q (by omega)⟩
  | succ k ih =>
    intro j n r' hj hn a1 a2 hr
    obtain ⟨n, rfl⟩ : ∃ q, n = q + 1 := ⟨n - 1, by omega⟩
    obtain ⟨r'', e, h3⟩ := ih (j + 1) n (sJ r' 0 j (lN (f j * g j))) (by omega) (by omega) (by simp [sJ, a1]) (by simp [sJ, a2]) (fun q hq => by
      rw [sJ_2]
      by_cases e : q = j
      · simp [e]
      · simpa [e] using hr q (by omega))
    refine ⟨r'', ?_, h3⟩
    rw [f_X5_countThrough_68, if_neg (show ¬ (8 : Int32) ≤ nI j from nI_ge (b := 8) (by omega) (by omega)), wk_f0 (blk_at _ _ _), b_some, wk_f1 (blk_at _ _ _), b_some, wk_m2 (blk_at _ _ _) (by omega), b_some, wk_f2 (blk_at _ _ _), b_some, wk_m3 (blk_at _ _ _) (by omega), b_some, a1, a2, h1 j (by omega), h2 j (by omega), lN_mul, wk_w1 (by omega), b_some, nI_1]
    exact e
theorem g_count (aH : At h bh (hhL bh H s0)) (hd : bh + 15 ≤ b ∨ b + 5 ≤ bh) (wE : wfE H) (wD : wfD H) {m : Nat} (hm : m ≤ 12) : ∃ r', f_X5_countThrough (blk b (wkL b r) h) b bh (nI m) = some (blk b (wkL b r') h) ∧ ∀ q, q < 8 → r' 0 q = lN (cw H m q * gw H (12 - m) q) := by
  obtain ⟨r1, e1, h1, k1⟩ := g_wbegin2 (t := 0) (a := 1) aH hd wE (by omega) 8 0 lots r (by omega) (by simp only [lots]; omega) (fun q hq => by omega)
  obtain ⟨r2, e2, h2⟩ := g_ct11 aH hd wE wD hm m 0 lots r1 (by omega) (by simp only [lots]; omega) h1
  obtain ⟨r3, e3, h3, k3⟩ := g_wbegin2 (t := 12) (a := 2) aH hd wE (by omega) 8 0 lots r2 (by omega) (by simp only [lots]; omega) (fun q hq => by omega)
  obtain ⟨r4, e4, h4, k4⟩ := g_ct45 (m := m) aH hd wE wD (12 - m) lots r3 (by omega) (by simp only [lots]; omega) (fun q hq => by rw [h3 q hq, show 12 - (m + (12 - m)) = 0 by omega, bw])
  obtain ⟨r5, e5, h5⟩ := g_ct68 (h := h) (b := b) (r := r4) (f := cw H m) (g := bw H (12 - m)) (fun q hq => by rw [k4, k3 1 (by omega)]; exact h2 q hq) h4 8 0 lots r4 (by omega) (by simp only [lots]; omega) rfl rfl (fun q hq => by omega)
  rw [show m + (12 - m) = 12 by omega, show nI 12 + (-1) = 11 from rfl] at e4
  rw [nI_0] at e1 e3 e5
  rw [show (0 + 1 : Nat) = 1 from rfl, show nI 1 = 1 from rfl] at e2
  rw [show nI 12 = 12 from rfl] at e3
  refine ⟨r5, ?_, fun q hq => by rw [h5 q hq, thr_eq wD hm hq]⟩
  rw [f_X5_countThrough, wk_f1 (blk_at _ _ _), b_some, f_X5_begin, e1, b_some, b_some, e2, b_some, wk_f2 (blk_at _ _ _), b_some, f_X5_begin, e3, b_some, b_some, e4, b_some, e5, b_some]
end
section
variable {h : Hea} {b : Nat} {r : Nat → Nat → Int64} {f : Nat → Nat}
/-- which of the rooms count more than 0 -/
theorem g_poss4 (hr : ∀ q, q < 8 → r 0 q = lN (f q)) (hf : ∀ q, f q < 2 ^ 63) : ∀ (k j n : Nat), j + k = 8 → k < n → f_X5_roomsPossible_4 n (blk b (wkL b r) h) b (bitsF (fun q => decide (0 < f q)) j) (nI j) = some (bitsF (fun q => decide (0 < f q)) 8) := by
  intro k
  induction k with
  | zero =>
    intro j n hj hn
    obtain ⟨n, rfl⟩ : ∃ q, n = q + 1 := ⟨n - 1, by omega⟩
    rw [f_X5_roomsPossible_4, if_pos (show (8 : Int32) ≤ nI j from nI_le (a := 8) (by omega) (by omega)), show j = 8 by omega]
  | succ k ih =>
    intro j n hj hn
    obtain ⟨n, rfl⟩ : ∃ q, n = q + 1 := ⟨n - 1, by omega⟩
    have hc : (lg_cmp (lN (f j)) 0 ≤ 0) ↔ ¬ 0 < f j := by
      rw [lg_cmp_le, show (0 : Int64) = lN 0 from rfl, pk_lLE (hf j) (by omega)]; omega
    rw [f_X5_roomsPossible_4, if_neg (show ¬ (8 : Int32) ≤ nI j from nI_ge (b := 8) (by omega) (by omega)), wk_f0 (blk_at _ _ _), b_some, wk_m1 (blk_at _ _ _) (by omega), b_some, hr j (by omega), nI_1, ← ih (j + 1) n (by omega) (by omega), bitsF_s]
    simp only [hc]
    by_cases h1 : 0 < f j
    · simp [h1]
    · simp [h1]
theorem g_poss (hr : ∀ q, q < 8 → r 0 q = lN (f q)) (hf : ∀ q, f q < 2 ^ 63) : f_X5_roomsPossible (blk b (wkL b r) h) b = some (bitsF (fun q => decide (0 < f q)) 8) := by
  have := g_poss4 (h := h) (b := b) hr hf 8 0 lots (by omega) (by simp only [lots]; omega)
  rw [nI_0, show bitsF (fun q => decide (0 < f q)) 0 = 0 from rfl] at this
  rw [f_X5_roomsPossible, this, b_some]
theorem g_tot4 (hr : ∀ q, q < 8 → r 0 q = lN (f q)) : ∀ (k j n : Nat), j + k = 8 → k < n → f_X5_total_4 n (blk b (wkL b r) h) b (lN (sumK f j)) (nI j) = some (lN (sumK f 8)) := by
  intro k
  induction k with
  | zero =>
    intro j n hj hn
    obtain ⟨n, rfl⟩ : ∃ q, n = q + 1 := ⟨n - 1, by omega⟩
    rw [f_X5_total_4, if_pos (show (8 : Int32) ≤ nI j from nI_le (a := 8) (by omega) (by omega)), show j = 8 by omega]
  | succ k ih =>
    intro j n hj hn
    obtain ⟨n, rfl⟩ : ∃ q, n = q + 1 := ⟨n - 1, by omega⟩
    rw [f_X5_total_4, if_neg (show ¬ (8 : Int32) ≤ nI j from nI_ge (b := 8) (by omega) (by omega)), wk_f0 (blk_at _ _ _), b_some, wk_m1 (blk_at _ _ _) (by omega), b_some, hr j (by omega), nI_1, lN_add, ← ih (j + 1) n (by omega) (by omega), sumK]
theorem g_tot (hr : ∀ q, q < 8 → r 0 q = lN (f q)) : f_X5_total (blk b (wkL b r) h) b = some (lN (sumK f 8)) := by
  have := g_tot4 (h := h) (b := b) hr 8 0 lots (by omega) (by simp only [lots]; omega)
  rw [nI_0, show lN (sumK f 0) = 0 from rfl] at this
  rw [f_X5_total, this, b_some]
/-- the room that tells most -/
def tellW (f : Nat → Nat) (T q : Nat) : Nat := if T - f q < f q then f q else T - f q
def tellL (f : Nat → Nat) (T : Nat) : Nat → Nat → Int32 → Nat → Int32
  | 0, _, a, _ => a
  | k + 1, j, a, c => if c ≤ tellW f T j then tellL f T k (j + 1) a c else tellL f T k (j + 1) (nI j) (tellW f T j)
theorem tellW_l {T q : Nat} (hT : T < 2 ^ 62) (hq : f q ≤ T) : (if lN T - lN (f q) < lN (f q) then lN (f q) else lN T - lN (f q)) = lN (tellW f T q) := by
  rw [lN_sub hq, tellW]
  by_cases h1 : T - f q < f q
  · rw [if_pos h1, if_pos ((pk_lLT (by omega) (by omega)).mpr h1)]
  · rw [if_neg h1, if_neg (fun e => h1 ((pk_lLT (by omega) (by omega)).mp e))]
theorem tellW_le {T q : Nat} (hq : f q ≤ T) : tellW f T q ≤ T := by rw [tellW]; split <;> omega
theorem g_tells23 {T : Nat} (hT : T < 2 ^ 62) (hr : ∀ q, q < 8 → r 0 q = lN (f q)) (hf : ∀ q, q < 8 → f q ≤ T) : ∀ (k j n : Nat) (a : Int32) (c : Nat), j + k = 8 → k < n → c ≤ T + 1 → f_X5_roomThatTells_23 n (blk b (wkL b r) h) b (lN T) a (lN c) (nI j) = some (tellL f T k j a c) := by
  intro k
  induction k with
  | zero =>
    intro j n a c hj hn hc
    obtain ⟨n, rfl⟩ : ∃ q, n = q + 1 := ⟨n - 1, by omega⟩
    rw [f_X5_roomThatTells_23, if_pos (show (8 : Int32) ≤ nI j from nI_le (a := 8) (by omega) (by omega)), tellL]
  | succ k ih =>
    intro j n a c hj hn hc
    obtain ⟨n, rfl⟩ : ∃ q, n = q + 1 := ⟨n - 1, by omega⟩
    have hw := tellW_le (hf j (by omega))
    rw [f_X5_roomThatTells_23, if_neg (show ¬ (8 : Int32) ≤ nI j from nI_ge (b := 8) (by omega) (by omega)), wk_f0 (blk_at _ _ _), b_some, wk_m1 (blk_at _ _ _) (by omega), b_some, b_some, wk_m1 (blk_at _ _ _) (by omega), b_some, hr j (by omega), tellW_l hT (hf j (by omega)), nI_1, tellL]
    simp only [lg_cmp_ge, pk_lLE (show c < 2 ^ 63 by omega) (show tellW f T j < 2 ^ 63 by omega)]
    by_cases h1 : c ≤ tellW f T j
    · rw [if_pos h1, if_pos h1, b2_some, ih (j + 1) n a c (by omega) (by omega) hc]
    · rw [if_neg h1, if_neg h1, b2_some, ih (j + 1) n (nI j) _ (by omega) (by omega) (by omega)]
theorem g_tells (hr : ∀ q, q < 8 → r 0 q = lN (f q)) (hT : sumK f 8 < 2 ^ 62) : f_X5_roomThatTells (blk b (wkL b r) h) b = some (if sumK f 8 = 0 then -1 else tellL f (sumK f 8) 8 0 (-1) (sumK f 8 + 1)) := by
  have := g_tells23 (h := h) (b := b) hT hr (fun q hq => sumK_ge 8 q hq) 8 0 lots (-1) (sumK f 8 + 1) (by omega) (by simp only [lots]; omega) (Nat.le_refl _)
  rw [nI_0] at this
  rw [f_X5_roomThatTells, wk_o (blk_at _ _ _), b_some, g_tot hr, b_some, lN_1, this, b_some]
  have hz : (lg_cmp (lN (sumK f 8)) 0 = 0) ↔ sumK f 8 = 0 := by
    rw [lg_cmp_eq, show (0 : Int64) = lN 0 from rfl, pk_lEQ (by omega) (by omega)]
  simp only [hz]
  by_cases h1 : sumK f 8 = 0
  · rw [if_pos h1, if_pos h1]
  · rw [if_neg h1, if_neg h1]
end
