/-! ===== the reference: the hand, the night ===== -/
def Sin (H s : Blk) : Prop := ∀ i, i < hM H → s.2 2 i = 0 → s.2 3 i = -1
section
variable {h : Hea} {b : Nat} {l : Nat → Int64} {r : Nat → Nat → Int64} {H s : Blk}
theorem Sin.nx {ey : Int32} (w : Sin H s) : Sin H (nightS H ey s) := by
  intro i hi h0
  simp only [nightS, if_pos hi] at h0 ⊢
  by_cases h1 : isOut H s i = true
  · simp [h1] at h0
  · by_cases h2 : isFnd H s ey i = true
    · simp [h1, h2] at h0
    · simp [h1, h2] at h0 ⊢
      exact w i hi h0
theorem Sin.eq {t : Blk} (w : Sin H s) (e : EqS H s t) : Sin H t := fun i hi h0 => by
  rw [← e.2 3 i (by omega) hi]
  exact w i hi (by rw [e.2 2 i (by omega) hi]; exact h0)
theorem hdR.eq {t m : Blk} (d : hdR H s m) (e : EqS H s t) : hdR H t m := ⟨d.1.trans e.1, fun i hi => by
  obtain ⟨d0, d1, d2, d3⟩ := d.2 i hi
  exact ⟨d0.trans (e.2 0 i (by omega) hi), d1.trans (e.2 1 i (by omega) hi), d2.trans (e.2 2 i (by omega) hi), d3.trans (e.2 3 i (by omega) hi)⟩⟩
theorem g8_hand22 (wH : wfH H) {m : Blk} (hN : hR H (m.2 0)) (hs : sR H s (m.2 0)) : ∀ (k j n : Nat) (m1 : Blk), j + k = hM H → k < n → SmH m m1 → m1.1 0 = s.1 0 → (∀ i, i < j → m1.2 4 i = s.2 0 i ∧ m1.2 5 i = s.2 1 i ∧ m1.2 6 i = s.2 2 i ∧ m1.2 7 i = s.2 3 i) → ∃ m', f_X8_layHand_22 n (blk b (mdL b m1 l r) h) b (nI j) = some (blk b (mdL b m' l r) h) ∧ hdR H s m' ∧ SmH m m' ∧ m'.1 1 = m1.1 1 := by
  have hm := wH.2.1
  intro k
  induction k with
  | zero =>
    intro j n m1 hj hn sm h0 hd
    obtain ⟨n, rfl⟩ : ∃ q, n = q + 1 := ⟨n - 1, by omega⟩
    exact ⟨m1, by rw [f_X8_layHand_22, md_o (blk_at _ _ _), b_some, g8_heirs (blk_at _ _ _), b_some, sm.now, hN.1, wH.1, if_pos (nI_le (by omega) (by omega))], ⟨h0, fun i hi => hd i (by omega)⟩, sm, rfl⟩
  | succ k ih =>
    intro j n m1 hj hn sm h0 hd
    obtain ⟨n, rfl⟩ : ∃ q, n = q + 1 := ⟨n - 1, by omega⟩
    have hj6 : j < 6 := by omega
    obtain ⟨s1, s3, s4, s5, s6⟩ := hs.2 j (by omega)
    have sm' : SmH m (sA (sA (sA (sA m1 4 j (s.2 0 j)) 5 j (s.2 1 j)) 6 j (s.2 2 j)) 7 j (s.2 3 j)) := ((((sm.sA (by omega)).sA (by omega)).sA (by omega)).sA (by omega))
    obtain ⟨m', e, h1, h2, h3⟩ := ih (j + 1) n _ (by omega) (by omega) sm' h0 (fun i hi => by
      simp only [sA_2]
      by_cases hij : i = j
      · subst hij; simp
      · simpa [hij] using hd i (by omega))
    refine ⟨m', ?_, h1, h2, h3⟩
    rw [f_X8_layHand_22, md_o (blk_at _ _ _), b_some, g8_heirs (blk_at _ _ _), b_some, sm.now, hN.1, wH.1, if_neg (nI_ge (by omega) (by omega)), md_f8 (blk_at _ _ _), b_some, b_some, g8_get1 (blk_at _ _ _) hj6, b_some, sm.now, s1, md_w5 hj6, b_some, md_f9 (blk_at _ _ _), b_some, md_o (blk_at _ _ _), b_some, g8_get3 (blk_at _ _ _) hj6, b_some, sA_row (by omega), sm.now, s3, md_w6 hj6, b_some, md_f10 (blk_at _ _ _), b_some, md_o (blk_at _ _ _), b_some, g8_get4 (blk_at _ _ _) hj6, b_some, sA_row (by omega), sA_row (by omega), sm.now, s4, md_w7 hj6, b_some, md_f11 (blk_at _ _ _), b_some, md_o (blk_at _ _ _), b_some, g8_get5 (blk_at _ _ _) hj6, b_some, sA_row (by omega), sA_row (by omega), sA_row (by omega), sm.now, s5, md_w8 hj6, b_some, nI_1]
    exact e
theorem g8_hand (wH : wfH H) {m : Blk} (hN : hR H (m.2 0)) (hs : sR H s (m.2 0)) : ∃ m', f_X8_layHand (blk b (mdL b m l r) h) b = some (blk b (mdL b m' l r) h) ∧ hdR H s m' ∧ SmH m m' ∧ m'.1 1 = H.1 0 := by
  have hm := wH.2.1
  obtain ⟨m', e, h1, h2, h3⟩ := g8_hand22 (h := h) (b := b) (l := l) (r := r) wH hN hs (hM H) 0 lots (sS (sS m 0 (s.1 0)) 1 (H.1 0)) (by omega) (by simp only [lots]; omega) (((SmH.refl m).sS (by omega)).sS (by omega)) rfl (fun i hi => by omega)
  refine ⟨m', ?_, h1, h2, h3⟩
  rw [nI_0] at e
  rw [f_X8_layHand, md_f0 (blk_at _ _ _), b_some, ln_3 (blk_at _ _ _), b_some, hs.1, pI, md_p6, b_some, md_f0 (blk_at _ _ _), b_some, ln_1 (blk_at _ _ _), b_some, sS_2, hN.2.1, pI, md_p7, b_some, e, b_some]
theorem g8_night13 (wH : wfH H) (wS : wfS H s) {m : Blk} (hN : hR H (m.2 0)) : ∀ (k j n : Nat) (m1 : Blk), j + k = hM H → k < n → SmH m m1 → hdR H s m1 → (∀ i, i < j → m1.2 8 i = hid H s i) → ∃ m', f_X8_goNight_13 n (blk b (mdL b m1 l r) h) b (nI j) = some (blk b (mdL b m' l r) h) ∧ hdR H s m' ∧ SmH m m' ∧ m'.1 1 = m1.1 1 ∧ ∀ i, i < hM H → m'.2 8 i = hid H s i := by
  have hm := wH.2.1
  intro k
  induction k with
  | zero =>
    intro j n m1 hj hn sm hd hh
    obtain ⟨n, rfl⟩ : ∃ q, n = q + 1 := ⟨n - 1, by omega⟩
    exact ⟨m1, by rw [f_X8_goNight_13, md_o (blk_at _ _ _), b_some, g8_heirs (blk_at _ _ _), b_some, sm.now, hN.1, wH.1, if_pos (nI_le (by omega) (by omega))], hd, sm, rfl, fun i hi => hh i (by omega)⟩
  | succ k ih =>
    intro j n m1 hj hn sm hd hh
    obtain ⟨n, rfl⟩ : ∃ q, n = q + 1 := ⟨n - 1, by omega⟩
    have hj6 : j < 6 := by omega
    obtain ⟨m', e, h1, h2, h3, h4⟩ := ih (j + 1) n (sA m1 8 j (hid H s j)) (by omega) (by omega) (sm.sA (by omega)) ⟨hd.1, fun i hi => by
      rw [sA_row (by omega), sA_row (by omega), sA_row (by omega), sA_row (by omega)]; exact hd.2 i hi⟩ (fun i hi => by
      rw [sA_2]
      by_cases hij : i = j
      · simp [hij]
      · simpa [hij] using hh i (by omega))
    refine ⟨m', ?_, h1, h2, h3, h4⟩
    rw [f_X8_goNight_13, md_o (blk_at _ _ _), b_some, g8_heirs (blk_at _ _ _), b_some, sm.now, hN.1, wH.1, if_neg (nI_ge (by omega) (by omega)), md_f12 (blk_at _ _ _), b_some, b_some, g8_hidden (sm.now ▸ hN) hd wH (by omega) (wS.2.2 j (by omega)), b_some, md_w9 hj6, b_some, nI_1]
    exact e
theorem g8_night40 (wH : wfH H) (wS : wfS H s) (si : Sin H s) {m : Blk} {ey : Int32} (hN : hR H (m.2 0)) : ∀ (k j n : Nat) (m1 : Blk), j + k = hM H → k < n → SmH m m1 → m1.1 0 = s.1 0 → m1.1 1 = ey → (∀ i, i < hM H → m1.2 8 i = hid H s i ∧ m1.2 4 i = s.2 0 i) → (∀ i, i < j → m1.2 5 i = (nightS H ey s).2 1 i ∧ m1.2 6 i = (nightS H ey s).2 2 i ∧ m1.2 7 i = (nightS H ey s).2 3 i) → (∀ i, j ≤ i → i < hM H → m1.2 5 i = s.2 1 i ∧ m1.2 6 i = s.2 2 i ∧ m1.2 7 i = s.2 3 i) → ∃ m', f_X8_goNight_40 n (blk b (mdL b m1 l r) h) b (bitsF (isFnd H s ey) j) (lk H (sN s)) (nI j) = some (bitsF (isFnd H s ey) (hM H), blk b (mdL b m' l r) h) ∧ SmH m m' ∧ m'.1 0 = s.1 0 ∧ m'.1 1 = ey ∧ ∀ i, i < hM H → m'.2 4 i = s.2 0 i ∧ m'.2 5 i = (nightS H ey s).2 1 i ∧ m'.2 6 i = (nightS H ey s).2 2 i ∧ m'.2 7 i = (nightS H ey s).2 3 i := by
  have hm := wH.2.1
  intro k
  induction k with
  | zero =>
    intro j n m1 hj hn sm h0 he hh hlo hhi
    obtain ⟨n, rfl⟩ : ∃ q, n = q + 1 := ⟨n - 1, by omega⟩
    refine ⟨m1, by rw [f_X8_goNight_40, md_o (blk_at _ _ _), b_some, g8_heirs (blk_at _ _ _), b_some, sm.now, hN.1, wH.1, if_pos (nI_le (by omega) (by omega)), show j = hM H by omega], sm, h0, he, fun i hi => ⟨(hh i hi).2, hlo i (by omega)⟩⟩
  | succ k ih =>
    intro j n m1 hj hn sm h0 he hh hlo hhi
    obtain ⟨n, rfl⟩ : ∃ q, n = q + 1 := ⟨n - 1, by omega⟩
    have hj6 : j < 6 := by omega
    have hjm : j < hM H := by omega
    obtain ⟨a5, a6, a7⟩ := hhi j (Nat.le_refl _) hjm
    obtain ⟨a8, a4⟩ := hh j hjm
    -- one heir's step, told by what becomes of him
    have step : ∀ m2 : Blk, SmH m m2 → m2.1 0 = s.1 0 → m2.1 1 = ey → (∀ i, i < hM H → m2.2 8 i = hid H s i ∧ m2.2 4 i = s.2 0 i) → (∀ i, ¬ i = j → m2.2 5 i = m1.2 5 i ∧ m2.2 6 i = m1.2 6 i ∧ m2.2 7 i = m1.2 7 i) → (m2.2 5 j = (nightS H ey s).2 1 j ∧ m2.2 6 j = (nightS H ey s).2 2 j ∧ m2.2 7 j = (nightS H ey s).2 3 j) → ∃ m', f_X8_goNight_40 n (blk b (mdL b m2 l r) h) b (bitsF (isFnd H s ey) (j + 1)) (lk H (sN s)) (nI (j + 1)) = some (bitsF (isFnd H s ey) (hM H), blk b (mdL b m' l r) h) ∧ SmH m m' ∧ m'.1 0 = s.1 0 ∧ m'.1 1 = ey ∧ ∀ i, i < hM H → m'.2 4 i = s.2 0 i ∧ m'.2 5 i = (nightS H ey s).2 1 i ∧ m'.2 6 i = (nightS H ey s).2 2 i ∧ m'.2 7 i = (nightS H ey s).2 3 i := by
      intro m2 sm2 h02 he2 hh2 hne hj2
      refine ih (j + 1) n m2 (by omega) (by omega) sm2 h02 he2 hh2 (fun i hi => ?_) (fun i h1 h2 => ?_)
      · by_cases hij : i = j
        · rw [hij]; exact hj2
        · obtain ⟨q5, q6, q7⟩ := hne i hij
          rw [q5, q6, q7]; exact hlo i (by omega)
      · obtain ⟨q5, q6, q7⟩ := hne i (by omega)
        rw [q5, q6, q7]; exact hhi i (by omega) h2
    rw [f_X8_goNight_40, md_o (blk_at _ _ _), b_some, g8_heirs (blk_at _ _ _), b_some, sm.now, hN.1, wH.1, if_neg (nI_ge (by omega) (by omega)), md_f10 (blk_at _ _ _), b_some, md_m7 (blk_at _ _ _) hj6, b_some, a6, nI_1]
    by_cases h2 : s.2 2 j = 0
    · rw [if_pos h2, md_f12 (blk_at _ _ _), b_some, md_m9 (blk_at _ _ _) hj6, b_some, a8, md_f0 (blk_at _ _ _), b_some, ln_2 (blk_at _ _ _), b_some, sm.now, hN.2.2.1, md_f8 (blk_at _ _ _), b_some, md_m5 (blk_at _ _ _) hj6, b_some, a4, b_some, md_m9 (blk_at _ _ _) hj6, b_some, a8, md_f7 (blk_at _ _ _), b_some, he]
      have key : (if H.1 1 ≤ hid H s j then (if s.2 0 j = lk H (sN s) then (if ey ≤ hid H s j then some (0 : Int32) else some 2) else some 0) else some 1) = some (if isOut H s j = true then 1 else if isFnd H s ey j = true then 2 else 0) := by
        by_cases q1 : H.1 1 ≤ hid H s j
        · have o1 : isOut H s j = false := by simp [isOut, Int32.not_lt.mpr q1]
          by_cases q2 : s.2 0 j = lk H (sN s)
          · by_cases q3 : ey ≤ hid H s j
            · have : isFnd H s ey j = false := by simp [isFnd, Int32.not_lt.mpr q3]
              simp [q1, q2, q3, o1, this]
            · have : isFnd H s ey j = true := by simp [isFnd, isSee, isIn, o1, h2, q2, Int32.not_le.mp q3, hjm]
              simp [q1, q2, q3, o1, this]
          · have : isFnd H s ey j = false := by simp [isFnd, isSee, isIn, q2]
            simp [q1, q2, o1, this]
        · have o1 : isOut H s j = true := by simp [isOut, h2, hjm, Int32.not_le.mp q1]
          simp [q1, o1]
      rw [key, b_some, b_some, md_w7 hj6, b_some, md_f11 (blk_at _ _ _), b_some, md_f6 (blk_at _ _ _), b_some, sA_1, h0]
      by_cases o1 : isOut H s j = true
      · have f1 : isFnd H s ey j = false := by simp [isFnd, isSee, o1]
        rw [if_pos o1, if_neg (show ¬ (1 : Int32) = 0 by decide), b_some, md_w8 hj6, b_some, md_f9 (blk_at _ _ _), b_some, md_m6 (blk_at _ _ _) hj6, b_some, if_neg (show ¬ (1 : Int32) = 0 by decide), b_some, md_w6 hj6, b_some, if_neg (show ¬ (1 : Int32) = 2 by decide), b_some, b2_some, Int32.or_zero]
        have := step (sA (sA (sA m1 6 j 1) 7 j (s.1 0)) 5 j ((sA (sA m1 6 j 1) 7 j (s.1 0)).2 5 j + 0)) (((sm.sA (by omega)).sA (by omega)).sA (by omega)) h0 he (fun i hi => by simpa [sA_2] using hh i hi) (fun i hij => by simp [sA_2, hij]) (by simp [sA_2, nightS, hjm, o1, a5])
        rw [bitsF_s, f1] at this
        exact this
      · have o1' : isOut H s j = false := by simpa using o1
        by_cases f1 : isFnd H s ey j = true
        · rw [if_neg o1, if_pos f1, if_neg (show ¬ (2 : Int32) = 0 by decide), b_some, md_w8 hj6, b_some, md_f9 (blk_at _ _ _), b_some, md_m6 (blk_at _ _ _) hj6, b_some, if_neg (show ¬ (2 : Int32) = 0 by decide), b_some, md_w6 hj6, b_some, if_pos rfl, b_some, b2_some]
          have := step (sA (sA (sA m1 6 j 2) 7 j (s.1 0)) 5 j ((sA (sA m1 6 j 2) 7 j (s.1 0)).2 5 j + 0)) (((sm.sA (by omega)).sA (by omega)).sA (by omega)) h0 he (fun i hi => by simpa [sA_2] using hh i hi) (fun i hij => by simp [sA_2, hij]) (by simp [sA_2, nightS, hjm, o1', f1, a5])
          rw [bitsF_s, f1] at this
          exact this
        · have f1' : isFnd H s ey j = false := by simpa using f1
          rw [if_neg o1, if_neg f1, if_pos rfl, b_some, md_w8 hj6, b_some, md_f9 (blk_at _ _ _), b_some, md_m6 (blk_at _ _ _) hj6, b_some, if_pos rfl, b_some, md_w6 hj6, b_some, if_neg (show ¬ (0 : Int32) = 2 by decide), b_some, b2_some, Int32.or_zero]
          have := step (sA (sA (sA m1 6 j 0) 7 j (-1)) 5 j ((sA (sA m1 6 j 0) 7 j (-1)).2 5 j + 1)) (((sm.sA (by omega)).sA (by omega)).sA (by omega)) h0 he (fun i hi => by simpa [sA_2] using hh i hi) (fun i hij => by simp [sA_2, hij]) (by simp [sA_2, nightS, hjm, o1', f1', a5, h2, si j hjm h2])
          rw [bitsF_s, f1'] at this
          exact this
    · have o1 : isOut H s j = false := by simp [isOut, h2]
      have f1 : isFnd H s ey j = false := by simp [isFnd, isSee, isIn, h2]
      rw [if_neg h2, b2_some]
      have := step m1 sm h0 he hh (fun i hij => ⟨rfl, rfl, rfl⟩) (by simp [nightS, hjm, o1, f1, a5, a6, a7, h2])
      rw [bitsF_s, f1] at this
      exact this
theorem g8_night (wH : wfH H) (wS : wfS H s) (si : Sin H s) {m : Blk} (hN : hR H (m.2 0)) (hd : hdR H s m) : ∃ m', f_X8_goNight (blk b (mdL b m l r) h) b = some (fnd H s (m.1 1), blk b (mdL b m' l r) h) ∧ hdR H (nightS H (m.1 1) s) m' ∧ SmH m m' ∧ m'.1 1 = m.1 1 := by
  have hm := wH.2.1
  obtain ⟨m1, e1, d1, s1, y1, hh⟩ := g8_night13 (h := h) (b := b) (l := l) (r := r) wH wS hN (hM H) 0 lots m (by omega) (by simp only [lots]; omega) (SmH.refl m) hd (fun i hi => by omega)
  obtain ⟨m2, e2, s2, n2, y2, d2⟩ := g8_night40 (h := h) (b := b) (l := l) (r := r) (ey := m.1 1) wH wS si hN (hM H) 0 lots m1 (by omega) (by simp only [lots]; omega) s1 d1.1 y1 (fun i hi => ⟨hh i hi, (d1.2 i hi).1⟩) (fun i hi => by omega) (fun i _ hi => (d1.2 i hi).2)
  refine ⟨sS m2 0 (s.1 0 + 1), ?_, ⟨by rw [night_0]; rfl, fun i hi => by rw [sS_2, night_r]; exact d2 i hi⟩, s2.sS (by omega), y2⟩
  rw [nI_0] at e1 e2
  rw [show bitsF (isFnd H s (m.1 1)) 0 = 0 from rfl] at e2
  rw [f_X8_goNight, md_f6 (blk_at _ _ _), b_some, md_o (blk_at _ _ _), b_some, hd.1, wS.1, g8_looks (blk_at _ _ _) hN wH wS.2.1, b_some, e1, b_some, e2, b2_some, md_f6 (blk_at _ _ _), b_some, pI, md_p6, b_some, n2, bits_6 _ hm (fun i hi => isFnd_hi hi), ← wS.1]
  rfl
end
