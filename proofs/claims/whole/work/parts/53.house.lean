/-! ===== House: what it reads ===== -/
section
variable {h : Hea} {bh bs : Nat} {H s : Blk}
theorem g_hasC (aH : At h bh (hoL bh H)) (aS : At h bs (snL bs s)) (wH : wfH H) {i : Nat} (hi : i < 6) : ∀ (k j n : Nat), j + k = hM H → k < n →
    f_X1_hasCompany_2 n h bh bs (nI i) (nI j) = some (if anyF (fun j => decide (¬ j = i ∧ s.2 2 j = 0 ∧ s.2 0 j = s.2 0 i)) j k = true then 1 else 0) := by
  intro k
  induction k with
  | zero =>
    intro j n hj hn
    obtain ⟨n, rfl⟩ : ∃ q, n = q + 1 := ⟨n - 1, by omega⟩
    rw [f_X1_hasCompany_2, ho_f6 aH, b_some, wH.1, if_pos (nI_le (by omega) (by have := wH.2.1; omega))]
    rfl
  | succ k ih =>
    intro j n hj hn
    obtain ⟨n, rfl⟩ : ∃ q, n = q + 1 := ⟨n - 1, by omega⟩
    have hm := wH.2.1
    have hj6 : j < 6 := by omega
    rw [f_X1_hasCompany_2, ho_f6 aH, b_some, wH.1, if_neg (nI_ge (by omega) (by omega)), sn_f3 aS, b_some, sn_m2 aS hj6, b_some, sn_f1 aS, b_some, sn_m0 aS hj6, b_some, b_some, sn_m0 aS hi, b_some, nI_1, ih (j + 1) n (by omega) (by omega), anyF]
    simp only [nI_eq (show j < 2 ^ 31 by omega) (show i < 2 ^ 31 by omega)]
    by_cases h1 : j = i
    · simp [h1]
    · by_cases h2 : s.2 2 j = 0
      · by_cases h3 : s.2 0 j = s.2 0 i
        · simp [h1, h2, h3]
        · simp [h1, h2, h3]
      · simp [h1, h2]
theorem g_comp (aH : At h bh (hoL bh H)) (aS : At h bs (snL bs s)) (wH : wfH H) {i : Nat} (hi : i < 6) : f_X1_hasCompany h bh bs (nI i) = some (if comp H s i = true then 1 else 0) := by
  rw [f_X1_hasCompany]
  exact g_hasC aH aS wH hi (hM H) 0 lots (by omega) (by have := wH.2.1; simp only [lots]; omega)
theorem g_hidden (aH : At h bh (hoL bh H)) (aS : At h bs (snL bs s)) (wH : wfH H) {i : Nat} (hi : i < 6) (hr : inR (s.2 0 i) 8 = true) : f_X1_hidden h bh bs (nI i) = some (hid H s i) := by
  rw [f_X1_hidden, sn_f2 aS, b_some, sn_m1 aS hi, b_some, ho_f2 aH, b_some, sn_f1 aS, b_some, sn_m0 aS hi, b_some, ho_l0 aH hr, b_some, ho_f8 aH, b_some, ho_m4 aH hi, b_some, ho_f7 aH, b_some, ho_m3 aH hi, b_some, ho_o aH, b_some, g_comp aH aS wH hi, b_some, ho_f1 aH, b_some]
  unfold hid plainOf
  by_cases h1 : H.2 3 i = 1
  · simp only [h1, if_true]; rfl
  · by_cases h2 : H.2 3 i = 2
    · cases comp H s i <;> simp [h2]
    · by_cases h3 : H.2 3 i = 3
      · simp only [h3, if_true]; rfl
      · by_cases h4 : H.2 3 i = 4
        · by_cases h0 : s.2 1 i = 0
          · simp only [h4, h0, if_true]; rfl
          · simp only [h4, h0, if_true, if_false]; rfl
        · by_cases h5 : H.2 3 i = 5
          · simp only [h5, if_true]; rfl
          · simp only [h1, h2, h3, h4, h5, if_false]
theorem g_looked (aH : At h bh (hoL bh H)) (wH : wfH H) {n : Nat} (hn : n < 1000000) : f_X1_lookedInto h bh (nI n) = some (lk H n) := by
  obtain ⟨-, -, w3, w4, w5⟩ := wH
  have hmod : n % hL H < hL H := Nat.mod_lt _ (by omega)
  have e7 : nI n - nI n / 7 * 7 = nI (n % 7) := pk_rem (by omega) (by decide) (by decide)
  have eL : nI n - nI n / nI (hL H) * nI (hL H) = nI (n % hL H) := pk_rem (by omega) (by omega) (by omega)
  have e1 : nI (hL H) - 1 - nI (n % hL H) = nI (hL H - 1 - n % hL H) := by
    rw [show (1 : Int32) = nI 1 from rfl, pk_sub (by omega), pk_sub (by omega)]
  have e6 : (nI (n % 7) = 6) ↔ n % 7 = 6 := by rw [show (6 : Int32) = nI 6 from rfl, nI_eq (by omega) (by omega)]
  rw [f_X1_lookedInto, ho_f5 aH, b_some, w3, if_pos (show (1 : Int32) ≤ nI (hL H) from nI_le (a := 1) (by omega) (by omega)), b_some, nz, if_neg (nI_ne0 (by omega) (by omega)), b_some, e7, eL, ho_f4 aH, b_some, b_some, b_some, e1, ho_m2 aH (by omega), b_some, ho_m2 aH (by omega), b_some]
  simp only [e6, lk]
  by_cases h6 : n % 7 = 6
  · rw [if_pos h6, if_pos h6]; rfl
  · rw [if_neg h6, if_neg h6]; rfl
theorem g_goingL (aH : At h bh (hoL bh H)) (aS : At h bs (snL bs s)) (wH : wfH H) (wS : wfS H s) : ∀ (k j n : Nat), j + k = hM H → k < n →
    f_X1_goingOut_4 n h bh bs (bitsF (isOut H s) j) (nI j) = some (bitsF (isOut H s) (hM H)) := by
  have hm := wH.2.1
  intro k
  induction k with
  | zero =>
    intro j n hj hn
    obtain ⟨n, rfl⟩ : ∃ q, n = q + 1 := ⟨n - 1, by omega⟩
    rw [f_X1_goingOut_4, ho_f6 aH, b_some, wH.1, if_pos (nI_le (by omega) (by omega)), show j = hM H by omega]
  | succ k ih =>
    intro j n hj hn
    obtain ⟨n, rfl⟩ : ∃ q, n = q + 1 := ⟨n - 1, by omega⟩
    have hj6 : j < 6 := by omega
    rw [f_X1_goingOut_4, ho_f6 aH, b_some, wH.1, if_neg (nI_ge (by omega) (by omega)), sn_f3 aS, b_some, sn_m2 aS hj6, b_some, ho_o aH, b_some, g_hidden aH aS wH hj6 (wS.2.2 j (by omega)), b_some, ho_f1 aH, b_some, nI_1, ← ih (j + 1) n (by omega) (by omega), bitsF]
    by_cases h2 : s.2 2 j = 0
    · by_cases h3 : H.1 1 ≤ hid H s j
      · have : isOut H s j = false := by simp [isOut, Int32.not_lt.mpr h3]
        simp [h2, h3, this]
      · have : isOut H s j = true := by simp [isOut, h2, Int32.not_le.mp h3]; omega
        simp [h2, h3, this]
    · have : isOut H s j = false := by simp [isOut, h2]
      simp [h2, this]
theorem isOut_hi {i : Nat} (hi : hM H ≤ i) : isOut H s i = false := by simp [isOut, Nat.not_lt.mpr hi]
theorem isIn_hi {i : Nat} (hi : hM H ≤ i) : isIn H s i = false := by simp [isIn, Nat.not_lt.mpr hi]
theorem isFnd_hi {ey : Int32} {i : Nat} (hi : hM H ≤ i) : isFnd H s ey i = false := by simp [isFnd, isSee, isIn_hi hi]
theorem g_going (aH : At h bh (hoL bh H)) (aS : At h bs (snL bs s)) (wH : wfH H) (wS : wfS H s) : f_X1_goingOut h bh bs = some (bitsF (isOut H s) 6) := by
  have := g_goingL aH aS wH wS (hM H) 0 lots (by omega) (by have := wH.2.1; simp only [lots]; omega)
  rw [f_X1_goingOut]
  rw [show (bitsF (isOut H s) 0) = 0 from rfl, nI_0] at this
  rw [this, b_some, bits_6 _ wH.2.1 (fun i hi => isOut_hi hi)]
theorem g_inL (aH : At h bh (hoL bh H)) (aS : At h bs (snL bs s)) (wH : wfH H) (wS : wfS H s) : ∀ (k j n : Nat), j + k = hM H → k < n →
    f_X1_inSight_15 n h bh bs (lk H (sN s)) (bitsF (isIn H s) j) (nI j) = some (bitsF (isIn H s) (hM H)) := by
  have hm := wH.2.1
  intro k
  induction k with
  | zero =>
    intro j n hj hn
    obtain ⟨n, rfl⟩ : ∃ q, n = q + 1 := ⟨n - 1, by omega⟩
    rw [f_X1_inSight_15, ho_f6 aH, b_some, wH.1, if_pos (nI_le (by omega) (by omega)), show j = hM H by omega]
  | succ k ih =>
    intro j n hj hn
    obtain ⟨n, rfl⟩ : ∃ q, n = q + 1 := ⟨n - 1, by omega⟩
    have hj6 : j < 6 := by omega
    rw [f_X1_inSight_15, ho_f6 aH, b_some, wH.1, if_neg (nI_ge (by omega) (by omega)), sn_f3 aS, b_some, sn_m2 aS hj6, b_some, sn_f1 aS, b_some, sn_m0 aS hj6, b_some, nI_1, ← ih (j + 1) n (by omega) (by omega), bitsF]
    by_cases h2 : s.2 2 j = 0
    · by_cases h3 : s.2 0 j = lk H (sN s)
      · have : isIn H s j = true := by simp [isIn, h2, h3]; omega
        simp [h2, h3, this]
      · have : isIn H s j = false := by simp [isIn, h3]
        simp [h2, h3, this]
    · have : isIn H s j = false := by simp [isIn, h2]
      simp [h2, this]
theorem g_inSight (aH : At h bh (hoL bh H)) (aS : At h bs (snL bs s)) (wH : wfH H) (wS : wfS H s) : f_X1_inSight h bh bs (bitsF (isOut H s) 6) = some (bitsF (isSee H s) 6) := by
  have := g_inL aH aS wH wS (hM H) 0 lots (by omega) (by have := wH.2.1; simp only [lots]; omega)
  rw [show (bitsF (isIn H s) 0) = 0 from rfl, nI_0] at this
  rw [f_X1_inSight, sn_f0 aS, b_some, ho_o aH, b_some, wS.1, g_looked aH wH wS.2.1, b_some, this, b_some, bits_6 _ wH.2.1 (fun i hi => isIn_hi hi), bits_andn]
  rfl
theorem g_foundL (aH : At h bh (hoL bh H)) (aS : At h bs (snL bs s)) (wH : wfH H) (wS : wfS H s) (ey : Int32) : ∀ (k j n : Nat), j + k = hM H → k < n →
    f_X1_beingFound_14 n h bh bs ey (bitsF (isSee H s) 6) (bitsF (isFnd H s ey) j) (nI j) = some (bitsF (isFnd H s ey) (hM H)) := by
  have hm := wH.2.1
  intro k
  induction k with
  | zero =>
    intro j n hj hn
    obtain ⟨n, rfl⟩ : ∃ q, n = q + 1 := ⟨n - 1, by omega⟩
    rw [f_X1_beingFound_14, ho_f6 aH, b_some, wH.1, if_pos (nI_le (by omega) (by omega)), show j = hM H by omega]
  | succ k ih =>
    intro j n hj hn
    obtain ⟨n, rfl⟩ : ∃ q, n = q + 1 := ⟨n - 1, by omega⟩
    have hj6 : j < 6 := by omega
    rw [f_X1_beingFound_14, ho_f6 aH, b_some, wH.1, if_neg (nI_ge (by omega) (by omega)), ho_o aH, b_some, g_hidden aH aS wH hj6 (wS.2.2 j (by omega)), b_some, nI_1, ← ih (j + 1) n (by omega) (by omega), bitsF_s (isFnd H s ey) j]
    simp only [bits_tst (isSee H s) hj6]
    by_cases h2 : isSee H s j = true
    · by_cases h3 : ey ≤ hid H s j
      · have : isFnd H s ey j = false := by simp [isFnd, Int32.not_lt.mpr h3]
        simp [h2, h3, this]
      · have : isFnd H s ey j = true := by simp [isFnd, h2, Int32.not_le.mp h3]
        simp [h2, h3, this]
    · have : isFnd H s ey j = false := by simp [isFnd, h2]
      simp [h2, this]
theorem g_beingFound (aH : At h bh (hoL bh H)) (aS : At h bs (snL bs s)) (wH : wfH H) (wS : wfS H s) (ey : Int32) : f_X1_beingFound h bh bs (bitsF (isOut H s) 6) ey = some (fnd H s ey) := by
  have := g_foundL aH aS wH wS ey (hM H) 0 lots (by omega) (by have := wH.2.1; simp only [lots]; omega)
  rw [show (bitsF (isFnd H s ey) 0) = 0 from rfl, nI_0] at this
  rw [f_X1_beingFound, ho_o aH, b_some, g_inSight aH aS wH wS, b_some, this, b_some, bits_6 _ wH.2.1 (fun i hi => isFnd_hi hi)]
  rfl
/-! Scene: what it writes -/
theorem g_leave {i : Nat} (hi : i < 6) (x : Int32) : f_X3_leave (blk bs (snL bs s) h) bs (nI i) x = some (blk bs (snL bs (sA (sA s 2 i x) 3 i (s.1 0))) h) := by
  rw [f_X3_leave, sn_f3 (blk_at _ _ _), b_some, sn_w2 hi, b_some, sn_f4 (blk_at _ _ _), b_some, sn_f0 (blk_at _ _ _), b_some, sn_w3 hi, b_some, sA_1]
theorem g_go {i : Nat} (hi : i < 6) (x : Int32) : f_X3_go (blk bs (snL bs s) h) bs (nI i) x = some (blk bs (snL bs (sA (sA (sA s 0 i x) 1 i 0) 4 i 1)) h) := by
  rw [f_X3_go, sn_f1 (blk_at _ _ _), b_some, sn_w0 hi, b_some, sn_f2 (blk_at _ _ _), b_some, sn_w1 hi, b_some, sn_f5 (blk_at _ _ _), b_some, sn_w4 hi, b_some]
theorem g_place {i : Nat} (hi : i < 6) (x : Int32) : f_X3_place (blk bs (snL bs s) h) bs (nI i) x = some (blk bs (snL bs (sA (sA (sA (sA (sA s 0 i x) 1 i 0) 2 i 0) 3 i (-1)) 4 i 0)) h) := by
  rw [f_X3_place, sn_f1 (blk_at _ _ _), b_some, sn_w0 hi, b_some, sn_f2 (blk_at _ _ _), b_some, sn_w1 hi, b_some, sn_f3 (blk_at _ _ _), b_some, sn_w2 hi, b_some, sn_f4 (blk_at _ _ _), b_some, sn_w3 hi, b_some, sn_f5 (blk_at _ _ _), b_some, sn_w4 hi, b_some]
end
/-- the scene when the night's end has been told for the heirs below k -/
def nightK (H : Blk) (ey : Int32) (s : Blk) (k : Nat) : Blk :=
  (s.1, fun j q => if q < k then (nightS H ey s).2 j q else s.2 j q)
theorem nightK_0 (H : Blk) (ey : Int32) (s : Blk) : nightK H ey s 0 = s := by simp [nightK]
theorem nightK_m (H : Blk) (ey : Int32) (s : Blk) : sS (nightK H ey s (hM H)) 0 (s.1 0 + 1) = nightS H ey s := by
  refine Prod.ext rfl (funext fun j => funext fun q => ?_)
  show (if q < hM H then (nightS H ey s).2 j q else s.2 j q) = (nightS H ey s).2 j q
  by_cases hq : q < hM H
  · rw [if_pos hq]
  · rw [if_neg hq]; simp [nightS, hq]
section
variable {h : Hea} {bs : Nat} {H s : Blk}
theorem g_closeL {ey : Int32} (wH : wfH H) : ∀ (k j n : Nat), j + k = hM H → k < n →
    f_X3_close_3 n (blk bs (snL bs (nightK H ey s j)) h) bs (nI (hM H)) (bitsF (isOut H s) 6) (bitsF (isFnd H s ey) 6) (nI j) = some (blk bs (snL bs (nightK H ey s (hM H))) h) := by
  have hm := wH.2.1
  intro k
  induction k with
  | zero =>
    intro j n hj hn
    obtain ⟨n, rfl⟩ : ∃ q, n = q + 1 := ⟨n - 1, by omega⟩
    rw [f_X3_close_3, if_pos (nI_le (by omega) (by omega)), show j = hM H by omega]
  | succ k ih =>
    intro j n hj hn
    obtain ⟨n, rfl⟩ : ∃ q, n = q + 1 := ⟨n - 1, by omega⟩
    have hj6 : j < 6 := by omega
    have hjm : j < hM H := by omega
    have hk2 : ∀ q, j ≤ q → (nightK H ey s j).2 2 q = s.2 2 q := fun q hq => by simp [nightK, Nat.not_lt.mpr hq]
    have hk1 : ∀ q, j ≤ q → (nightK H ey s j).2 1 q = s.2 1 q := fun q hq => by simp [nightK, Nat.not_lt.mpr hq]
    have step : ∀ t : Blk, t.1 = s.1 → (∀ a q, t.2 a q = if q = j then (if a = 4 then (nightK H ey s j).2 4 q else (nightS H ey s).2 a q) else (nightK H ey s j).2 a q) → sA t 4 j 0 = nightK H ey s (j + 1) := by
      intro t h1 h2
      refine Prod.ext h1 (funext fun a => funext fun q => ?_)
      rw [sA_2, h2]
      by_cases hq : q = j
      · subst hq
        by_cases ha : a = 4
        · subst ha
          simp [nightK, nightS, hjm]
        · simp [ha, nightK]
      · by_cases hq2 : q < j
        · simp [hq, nightK, hq2, show q < j + 1 by omega]
        · simp [hq, nightK, hq2, show ¬ q < j + 1 by omega]
    rw [f_X3_close_3, if_neg (nI_ge (by omega) (by omega)), sn_o (blk_at _ _ _), b_some, g_leave hj6, b_some, b_some, g_leave hj6, b_some, sn_f3 (blk_at _ _ _), b_some, sn_m2 (blk_at _ _ _) hj6, b_some, sn_f2 (blk_at _ _ _), b_some, sn_m1 (blk_at _ _ _) hj6, b_some, sn_w1 hj6, b_some, hk2 j (Nat.le_refl _), hk1 j (Nat.le_refl _), nI_1, ← ih (j + 1) n (by omega) (by omega)]
    simp only [bits_tst (isOut H s) hj6, bits_tst (isFnd H s ey) hj6]
    by_cases h1 : isOut H s j = true
    · rw [if_pos h1, b_some, sn_f5 (blk_at _ _ _), b_some, sn_w4 hj6, b_some]
      refine congrArg (fun t => f_X3_close_3 n (blk bs (snL bs t) h) bs (nI (hM H)) (bitsF (isOut H s) 6) (bitsF (isFnd H s ey) 6) (nI (j + 1))) (step _ rfl ?_)
      intro a q
      rw [sA_2, sA_2]
      by_cases hq : q = j
      · subst hq
        by_cases h3 : a = 3
        · subst h3; simp [nightS, hjm, h1, nightK]
        · by_cases h2 : a = 2
          · subst h2; simp [nightS, hjm, h1]
          · by_cases h0 : a = 1
            · subst h0; simp [nightS, hjm, h1, nightK]
            · by_cases h4 : a = 4
              · simp [h4]
              · simp [h0, h2, h3, h4, nightS, nightK]
      · simp [hq]
    · rw [if_neg h1]
      by_cases h2 : isFnd H s ey j = true
      · rw [if_pos h2, b_some, sn_f5 (blk_at _ _ _), b_some, sn_w4 hj6, b_some]
        refine congrArg (fun t => f_X3_close_3 n (blk bs (snL bs t) h) bs (nI (hM H)) (bitsF (isOut H s) 6) (bitsF (isFnd H s ey) 6) (nI (j + 1))) (step _ rfl ?_)
        intro a q
        rw [sA_2, sA_2]
        by_cases hq : q = j
        · subst hq
          by_cases h3 : a = 3
          · subst h3; simp [nightS, hjm, h2, nightK]
          · by_cases h2' : a = 2
            · subst h2'; simp [nightS, hjm, h1, h2]
            · by_cases h0 : a = 1
              · subst h0; simp [nightS, hjm, h2, nightK]
              · by_cases h4 : a = 4
                · simp [h4]
                · simp [h0, h2', h3, h4, nightS, nightK]
        · simp [hq]
      · rw [if_neg h2]
        by_cases h3 : s.2 2 j = 0
        · rw [if_pos h3, b_some, sn_f5 (blk_at _ _ _), b_some, sn_w4 hj6, b_some]
          refine congrArg (fun t => f_X3_close_3 n (blk bs (snL bs t) h) bs (nI (hM H)) (bitsF (isOut H s) 6) (bitsF (isFnd H s ey) 6) (nI (j + 1))) (step _ rfl ?_)
          intro a q
          rw [sA_2]
          by_cases hq : q = j
          · subst hq
            by_cases h0 : a = 1
            · subst h0; simp [nightS, hjm, h1, h2, h3]
            · by_cases h4 : a = 4
              · simp [h4]
              · by_cases h5 : a = 2
                · subst h5; simp [nightS, nightK, hjm, h1, h2]
                · by_cases h6 : a = 3
                  · subst h6; simp [nightS, nightK, hjm, h1, h2]
                  · simp [h0, h4, h5, h6, nightS, nightK]
          · simp [hq]
        · rw [if_neg h3, b_some, sn_f5 (blk_at _ _ _), b_some, sn_w4 hj6, b_some]
          refine congrArg (fun t => f_X3_close_3 n (blk bs (snL bs t) h) bs (nI (hM H)) (bitsF (isOut H s) 6) (bitsF (isFnd H s ey) 6) (nI (j + 1))) (step _ rfl ?_)
          intro a q
          by_cases hq : q = j
          · subst hq
            by_cases h4 : a = 4
            · simp [h4]
            · by_cases h0 : a = 1
              · subst h0; simp [nightS, nightK, hjm, h3]
              · by_cases h5 : a = 2
                · subst h5; simp [nightS, nightK, hjm, h1, h2]
                · by_cases h6 : a = 3
                  · subst h6; simp [nightS, nightK, hjm, h1, h2]
                  · simp [h0, h4, h5, h6, nightS, nightK]
          · simp [hq]
theorem g_close {ey : Int32} (wH : wfH H) : f_X3_close (blk bs (snL bs s) h) bs (nI (hM H)) (bitsF (isOut H s) 6) (bitsF (isFnd H s ey) 6) = some (blk bs (snL bs (nightS H ey s)) h) := by
  have := g_closeL (h := h) (bs := bs) (s := s) (ey := ey) wH (hM H) 0 lots (by omega) (by have := wH.2.1; simp only [lots]; omega)
  rw [nightK_0, nI_0] at this
  rw [f_X3_close, this, b_some, sn_f0 (blk_at _ _ _), b_some, pI, sn_p0, b_some]
  exact congrArg (fun t => some (blk bs (snL bs t) h)) (nightK_m H ey s)
theorem g_runNight {bh : Nat} {ey : Int32} (aH : At h bh (hoL bh H)) (aS : At h bs (snL bs s)) (wH : wfH H) (wS : wfS H s) : f_X1_runNight h bh bs ey = some (fnd H s ey, blk bs (snL bs (nightS H ey s)) h) := by
  have hc := g_close (h := h) (bs := bs) (s := s) (ey := ey) wH
  rw [aS.eq] at hc
  rw [f_X1_runNight, ho_o aH, b_some, g_going aH aS wH wS, b_some, b_some, g_beingFound aH aS wH wS, b_some, ho_f6 aH, b_some, sn_o aS, b_some, wH.1, show fnd H s ey = bitsF (isFnd H s ey) 6 from rfl, hc, b_some]
end
