/-! ===== Forecast: the eyes, the seed ===== -/
section
variable {h : Hea} {b bh : Nat} {H s0 s g : Blk}
theorem g_least6 (aH : At h bh (hhL bh H s0)) (hd : bh + 15 ≤ b ∨ b + 8 ≤ bh) (wH : wfH H) (wS : wfS H s) : ∀ (k j n : Nat), j + k = hM H → k < n → f_X0_leastHidden_6 n (blk b (fcL b s g) h) b bh (bitsF (isSee H s) 6) (lstH H s j) (nI j) = some (lstH H s (hM H)) := by
  have hm := wH.2.1
  intro k
  induction k with
  | zero =>
    intro j n hj hn
    obtain ⟨n, rfl⟩ : ∃ q, n = q + 1 := ⟨n - 1, by omega⟩
    rw [f_X0_leastHidden_6, hh_f6 (fc_H aH hd _ _), b_some, wH.1, if_pos (nI_le (by omega) (by omega)), show j = hM H by omega]
  | succ k ih =>
    intro j n hj hn
    obtain ⟨n, rfl⟩ : ∃ q, n = q + 1 := ⟨n - 1, by omega⟩
    have hj6 : j < 6 := by omega
    rw [f_X0_leastHidden_6, hh_f6 (fc_H aH hd _ _), b_some, wH.1, if_neg (nI_ge (by omega) (by omega)), fc_f0 (blk_at _ _ _), b_some, hh_o (fc_H aH hd _ _), b_some, g_hidden (hh_ho (fc_H aH hd _ _)) (fc_sn (blk_at _ _ _)) wH hj6 (wS.2.2 j (by omega)), b_some, nI_1, ← ih (j + 1) n (by omega) (by omega)]
    simp only [bits_tst (isSee H s) hj6, lstH]
    by_cases h1 : isSee H s j = true
    · rw [if_pos h1, if_pos h1, b_some]
    · rw [if_neg h1, if_neg h1, b_some]
theorem g_least (aH : At h bh (hhL bh H s0)) (hd : bh + 15 ≤ b ∨ b + 8 ≤ bh) (wH : wfH H) (wS : wfS H s) : f_X0_leastHidden (blk b (fcL b s g) h) b bh (bitsF (isSee H s) 6) = some (lstH H s (hM H)) := by
  have := g_least6 (g := g) aH hd wH wS (hM H) 0 lots (by omega) (by have := wH.2.1; simp only [lots]; omega)
  rw [nI_0] at this
  rw [f_X0_leastHidden, show (2147483647 : Int32) = lstH H s 0 from rfl, this, b_some]
theorem g_lucky20 (aH : At h bh (hhL bh H s0)) (hd : bh + 15 ≤ b ∨ b + 8 ≤ bh) (wH : wfH H) {i : Nat} (hi : i < hM H) : ∀ (k j n : Nat) (y c : Int32) (s : Blk), j + k = 60 → k < n → wfN H s k → ∃ s', f_X0_luckyEyes_20 n (blk b (fcL b s g) h) b bh (nI i) y c (nI j) = some (luck H i k y c s, blk b (fcL b s' g) h) := by
  have hm := wH.2.1
  have hi6 : i < 6 := by omega
  intro k
  induction k with
  | zero =>
    intro j n y c s hj hn wS
    obtain ⟨n, rfl⟩ : ∃ q, n = q + 1 := ⟨n - 1, by omega⟩
    exact ⟨s, by rw [f_X0_luckyEyes_20, if_pos (show (60 : Int32) ≤ nI j from nI_le (a := 60) (by omega) (by omega)), luck]⟩
  | succ k ih =>
    intro j n y c s hj hn wS
    obtain ⟨n, rfl⟩ : ∃ q, n = q + 1 := ⟨n - 1, by omega⟩
    rw [f_X0_luckyEyes_20, if_neg (show ¬ (60 : Int32) ≤ nI j from nI_ge (b := 60) (by omega) (by omega)), luck]
    by_cases hy : y ≤ 0
    · exact ⟨s, by rw [if_pos hy, if_pos hy]⟩
    · obtain ⟨s', e⟩ := ih (j + 1) n (if lstH H s (hM H) < y then lstH H s (hM H) else y) (if isSee H s i = true then c + pos0 (y - hid H s i) else c) (nightS H 0 s) (by omega) (by omega) wS.nx
      refine ⟨s', ?_⟩
      rw [if_neg hy, if_neg hy, fc_f0 (blk_at _ _ _), b_some, b_some, hh_o (fc_H aH hd _ _), b_some, g_going (hh_ho (fc_H aH hd _ _)) (fc_sn (blk_at _ _ _)) wH wS.S, b_some, b_some, g_inSight (hh_ho (fc_H aH hd _ _)) (fc_sn (blk_at _ _ _)) wH wS.S, b_some, b_some, b_some, g_hidden (hh_ho (fc_H aH hd _ _)) (fc_sn (blk_at _ _ _)) wH hi6 (wS.2.2 i hi), b_some, nI_1, ← e]
      simp only [bits_tst (isSee H s) hi6]
      by_cases h1 : isSee H s i = true
      · rw [if_pos h1, if_pos h1, b_some, fc_o (blk_at _ _ _), b_some, g_least aH hd wH wS.S, b_some, b_some, b_some, g_fnight aH hd wH wS.S, b2_some]; rfl
      · rw [if_neg h1, if_neg h1, b_some, fc_o (blk_at _ _ _), b_some, g_least aH hd wH wS.S, b_some, b_some, b_some, g_fnight aH hd wH wS.S, b2_some]
theorem g_lucky (aH : At h bh (hhL bh H s0)) (hd : bh + 15 ≤ b ∨ b + 8 ≤ bh) (wH : wfH H) (wS : wfN H s0 60) {i : Nat} (hi : i < hM H) : ∃ s', f_X0_luckyEyes (blk b (fcL b s g) h) b bh (nI i) = some (luck H i 60 25 0 (takeS s0 s), blk b (fcL b s' g) h) := by
  obtain ⟨s', e⟩ := g_lucky20 (g := g) aH hd wH hi 60 0 lots 25 0 (takeS s0 s) (by omega) (by simp only [lots]; omega) (wS.eq (takeS_eq wH.2.1).symm)
  rw [nI_0] at e
  exact ⟨s', by rw [f_X0_luckyEyes, fc_f0 (blk_at _ _ _), b_some, hh_f9 (fc_H aH hd _ _), b_some, fc_o1 (blk_at _ _ _), b_some, g_ftake aH hd, b_some, e, b2_some]⟩
theorem g_seed6 (aH : At h bh (hhL bh H s0)) (hd : bh + 15 ≤ b ∨ b + 8 ≤ bh) (wH : wfH H) {c : Nat} : ∀ (k j n : Nat) (z : Nat) (s : Blk), j + k = hM H → k < n → wfN H s c → z < 2147483648 → f_X0_moveBySeed_6 n (blk b (fcL b s g) h) b bh (lN z) (nI j) = some (lN (seedM H k j z s).1, blk b (fcL b (seedM H k j z s).2 g) h) ∧ wfN H (seedM H k j z s).2 c ∧ (seedM H k j z s).1 < 2147483648 := by
  have hm := wH.2.1
  intro k
  induction k with
  | zero =>
    intro j n z s hj hn wS hz
    obtain ⟨n, rfl⟩ : ∃ q, n = q + 1 := ⟨n - 1, by omega⟩
    exact ⟨by rw [f_X0_moveBySeed_6, hh_f6 (fc_H aH hd _ _), b_some, wH.1, if_pos (nI_le (by omega) (by omega)), seedM], wS, hz⟩
  | succ k ih =>
    intro j n z s hj hn wS hz
    obtain ⟨n, rfl⟩ : ∃ q, n = q + 1 := ⟨n - 1, by omega⟩
    have hj6 : j < 6 := by omega
    obtain ⟨er, hr⟩ := inR_cl (wS.2.2 j (by omega)) (by omega)
    have gg := g_go (h := blk b (fcL b s g) h) (bs := b + 1) (s := s) hj6 (nI (lcrN z))
    rw [fc_put, fc_put] at gg
    have cr := g_creaks (hh_ho (fc_H aH hd s g)) hr (lcrN_lt z)
    rw [← er] at cr
    have w1 : wfN H (if s.2 2 j = 0 then (if H.2 1 ((s.2 0 j).toNatClampNeg * 8 + lcrN z) ≤ 0 then s else goS s j (nI (lcrN z))) else s) c := by
      split
      · split
        · exact wS
        · exact wS.gS (inR_nI (lcrN_lt z) (by omega))
      · exact wS
    obtain ⟨i1, i2, i3⟩ := ih (j + 1) n (lcgN z) _ (by omega) (by omega) w1 (lcgN_lt z)
    refine ⟨?_, i2, i3⟩
    rw [f_X0_moveBySeed_6, hh_f6 (fc_H aH hd _ _), b_some, wH.1, if_neg (nI_ge (by omega) (by omega)), lcg_l z hz, lcr_l, fc_f0 (blk_at _ _ _), b_some, fc_f1_3 (blk_at _ _ _), b_some, fc_m4 (blk_at _ _ _) hj6, b_some, b_some, fc_f1_1 (blk_at _ _ _), b_some, fc_m2 (blk_at _ _ _) hj6, b_some, hh_o (fc_H aH hd _ _), b_some, cr, b_some, b_some, fc_o1 (blk_at _ _ _), b_some, gg, b_some, nI_1, seedM, ← i1]
    by_cases h1 : s.2 2 j = 0
    · by_cases h2 : H.2 1 ((s.2 0 j).toNatClampNeg * 8 + lcrN z) ≤ 0
      · rw [if_pos h1, if_pos h2, if_pos h1, if_pos h2, b_some]
      · rw [if_pos h1, if_neg h2, if_pos h1, if_neg h2, b_some]; rfl
    · rw [if_neg h1, if_neg h1, b_some]
theorem g_seed18 (aH : At h bh (hhL bh H s0)) (hd : bh + 15 ≤ b ∨ b + 8 ≤ bh) (wH : wfH H) {t : Nat} (ht : t ≤ 30) : ∀ (k j n : Nat) (z : Nat) (s : Blk), j + k = t → k < n → wfN H s k → z < 2147483648 → f_X0_foundBySeed_18 n (blk b (fcL b s g) h) b bh (nI t) (lN z) (nI j) = some (blk b (fcL b (seedN H (H.1 0) k z s) g) h) := by
  have hm := wH.2.1
  intro k
  induction k with
  | zero =>
    intro j n z s hj hn wS hz
    obtain ⟨n, rfl⟩ : ∃ q, n = q + 1 := ⟨n - 1, by omega⟩
    rw [f_X0_foundBySeed_18, if_pos (nI_le (by omega) (by omega)), seedN]
  | succ k ih =>
    intro j n z s hj hn wS hz
    obtain ⟨n, rfl⟩ : ∃ q, n = q + 1 := ⟨n - 1, by omega⟩
    obtain ⟨i1, i2, i3⟩ := g_seed6 (g := g) aH hd wH (hM H) 0 lots z s (by omega) (by simp only [lots]; omega) wS hz
    rw [nI_0] at i1
    rw [f_X0_foundBySeed_18, if_neg (nI_ge (by omega) (by omega)), fc_o (blk_at _ _ _), b_some, f_X0_moveBySeed, i1, b2_some, b2_some, fc_f0 (blk_at _ _ _), b_some, hh_f0 (fc_H aH hd _ _), b_some, hh_o (fc_H aH hd _ _), b_some, g_fnight aH hd wH i2.S, b2_some, nI_1, ih (j + 1) n _ _ (by omega) (by omega) i2.nx i3, seedN]
theorem g_seed (aH : At h bh (hhL bh H s0)) (hd : bh + 15 ≤ b ∨ b + 8 ≤ bh) (wH : wfH H) (wS : wfN H s0 60) {z t : Nat} (hz : z < 2147483648) (ht : t ≤ 30) : ∃ s', f_X0_foundBySeed (blk b (fcL b s g) h) b bh (nI z) (nI t) = some (nI (cntF (fun q => decide ((seedN H (H.1 0) t z (takeS s0 s)).2 2 q = 2)) (hM H)), blk b (fcL b s' g) h) := by
  have e := g_seed18 (g := g) aH hd wH ht t 0 lots z (takeS s0 s) (by omega) (by simp only [lots]; omega) ((wS.eq (takeS_eq wH.2.1).symm).le (by omega)) hz
  rw [nI_0] at e
  refine ⟨seedN H (H.1 0) t z (takeS s0 s), ?_⟩
  rw [f_X0_foundBySeed, fc_f0 (blk_at _ _ _), b_some, hh_f9 (fc_H aH hd _ _), b_some, fc_o1 (blk_at _ _ _), b_some, g_ftake aH hd, b_some, nI_l hz, e, b_some, fc_f0 (blk_at _ _ _), b_some, hh_o (fc_H aH hd _ _), b_some, g_heirsThat (hh_ho (fc_H aH hd _ _)) (fc_sn (blk_at _ _ _)) wH, b_some]
end
