/-! ===== the reference: runs of nights ===== -/
def fiN (H : Blk) (ey : Int32) (i : Nat) : Nat → Nat → Blk → Option Nat
  | 0, _, _ => none
  | k + 1, j, s => if isFnd H s ey i = true then some j else fiN H ey i k (j + 1) (nightS H ey s)
def encO (M : Int32) (c : Nat) : Option Nat → Int32
  | none => M
  | some n => nI (c + n)
def oddL (H : Blk) (i : Nat) (s : Blk) : Nat → Nat → Int32 → Int32
  | 0, _, a => a
  | k + 1, e, a => oddL H i s k (e + 1) (a + (((tillF H (nI e) 60 0 s).1 >>> (nI i &&& 31)) &&& 1))
theorem fiN_lt {H : Blk} {ey : Int32} {i : Nat} : ∀ (k j q : Nat) (s : Blk), fiN H ey i k j s = some q → q < j + k := by
  intro k
  induction k with
  | zero => intro j q s e; cases e
  | succ k ih =>
    intro j q s e
    rw [fiN] at e
    split at e
    · cases e; omega
    · have := ih _ _ _ e; omega
theorem night_how {H s : Blk} {ey : Int32} {i : Nat} (h : ¬ s.2 2 i = 0) : (nightS H ey s).2 2 i = s.2 2 i ∧ (nightS H ey s).2 3 i = s.2 3 i := by
  have o1 : isOut H s i = false := by simp [isOut, h]
  have f1 : isFnd H s ey i = false := by simp [isFnd, isSee, isIn, h]
  simp [nightS, o1, f1]
theorem fiN_out {H : Blk} {ey : Int32} {i : Nat} : ∀ (k j : Nat) (s : Blk), ¬ s.2 2 i = 0 → fiN H ey i k j s = none := by
  intro k
  induction k with
  | zero => intro j s _; rfl
  | succ k ih =>
    intro j s h
    have f1 : isFnd H s ey i = false := by simp [isFnd, isSee, isIn, h]
    rw [fiN, f1, if_neg (by decide)]
    exact ih _ _ (by rw [(night_how h).1]; exact h)
theorem fnN_until {H : Blk} {ey : Int32} {i q x : Nat} {N0 : Nat} (hx : x < hM H) (hor : x = i ∨ x = q) : ∀ (k j : Nat) (s : Blk), wfN H s k → sN s = N0 + j → fnN (untilN H ey i q k s) x = if s.2 2 x = 0 then encO 2147483647 N0 (fiN H ey x k j s) else fnN s x := by
  intro k
  induction k with
  | zero =>
    intro j s w hj
    rw [untilN]
    by_cases h0 : s.2 2 x = 0
    · rw [if_pos h0, fnN, h0, if_neg (by decide)]; rfl
    · rw [if_neg h0]
  | succ k ih =>
    intro j s w hj
    rw [untilN]
    by_cases hc : s.2 2 i = 0 ∨ s.2 2 q = 0
    · rw [if_pos hc, ih (j + 1) _ w.nx (by rw [sN_nx w]; omega)]
      by_cases h0 : s.2 2 x = 0
      · rw [if_pos h0, fiN]
        by_cases f1 : isFnd H s ey x = true
        · have o1 : isOut H s x = false := by
            simp only [isFnd, isSee, Bool.and_eq_true] at f1
            simpa using f1.1.2
          have e2 : (nightS H ey s).2 2 x = 2 := by simp [nightS, hx, o1, f1]
          have e3 : (nightS H ey s).2 3 x = s.1 0 := by simp [nightS, hx, o1, f1]
          rw [if_pos f1, e2, if_neg (by decide), fnN, e2, if_pos rfl, e3, w.1, hj]
          rfl
        · rw [if_neg f1]
          by_cases o1 : isOut H s x = true
          · have e2 : (nightS H ey s).2 2 x = 1 := by simp [nightS, hx, o1]
            rw [e2, if_neg (by decide), fnN, e2, if_neg (by decide), fiN_out _ _ _ (by rw [e2]; decide)]
            rfl
          · have e2 : (nightS H ey s).2 2 x = 0 := by simp [nightS, hx, o1, f1, h0]
            rw [e2, if_pos rfl]
      · rw [if_neg h0, (night_how h0).1, if_neg h0, fnN, fnN, (night_how h0).1, (night_how h0).2]
    · rw [if_neg hc]
      have h0 : ¬ s.2 2 x = 0 := by rcases hor with e | e <;> subst e <;> exact fun e => hc (by simp [e])
      rw [if_neg h0]
section
variable {h : Hea} {b : Nat} {l : Nat → Int64} {r : Nat → Nat → Int64} {H : Blk} {ey : Int32}
theorem g8_then44 (wH : wfH H) {t : Nat} (ht : t ≤ 60) : ∀ (k j n : Nat) (m s : Blk), j + k = t → k < n → wfN H s k → Sin H s → hR H (m.2 0) → hdR H s m → m.1 1 = ey → ∃ m', f_X8_byThen_44 n (blk b (mdL b m l r) h) b (nI t) (nI j) = some (blk b (mdL b m' l r) h) ∧ hdR H (nts H ey k s) m' ∧ SmH m m' := by
  intro k
  induction k with
  | zero =>
    intro j n m s hj hn w si hN hd he
    obtain ⟨n, rfl⟩ : ∃ q, n = q + 1 := ⟨n - 1, by omega⟩
    exact ⟨m, by rw [f_X8_byThen_44, if_pos (nI_le (by omega) (by omega))], hd, SmH.refl m⟩
  | succ k ih =>
    intro j n m s hj hn w si hN hd he
    obtain ⟨n, rfl⟩ : ∃ q, n = q + 1 := ⟨n - 1, by omega⟩
    obtain ⟨m1, e1, d1, s1, y1⟩ := g8_night (h := h) (b := b) (l := l) (r := r) wH w.S si hN hd
    rw [he] at e1 d1 y1
    obtain ⟨m2, e2, d2, s2⟩ := ih (j + 1) n m1 (nightS H ey s) (by omega) (by omega) w.nx si.nx (by rw [s1.now]; exact hN) d1 y1
    exact ⟨m2, by rw [f_X8_byThen_44, if_neg (nI_ge (by omega) (by omega)), md_o (blk_at _ _ _), b_some, e1, b2_some, nI_1, e2], d2, s1.trans s2⟩
theorem g8_till4 (wH : wfH H) : ∀ (k j n : Nat) (y : Int32) (m s : Blk), j + k = 60 → k < n → wfN H s k → Sin H s → hR H (m.2 0) → hdR H s m → m.1 1 = ey → ∃ m', f_X8_goTill_4 n (blk b (mdL b m l r) h) b y (nI j) = some ((tillF H ey k y s).1, blk b (mdL b m' l r) h) ∧ hdR H (tillF H ey k y s).2 m' ∧ SmH m m' := by
  intro k
  induction k with
  | zero =>
    intro j n y m s hj hn w si hN hd he
    obtain ⟨n, rfl⟩ : ∃ q, n = q + 1 := ⟨n - 1, by omega⟩
    exact ⟨m, by rw [f_X8_goTill_4, if_pos (show (60 : Int32) ≤ nI j from nI_le (a := 60) (by omega) (by omega)), tillF], hd, SmH.refl m⟩
  | succ k ih =>
    intro j n y m s hj hn w si hN hd he
    obtain ⟨n, rfl⟩ : ∃ q, n = q + 1 := ⟨n - 1, by omega⟩
    rw [f_X8_goTill_4, if_neg (show ¬ (60 : Int32) ≤ nI j from nI_ge (b := 60) (by omega) (by omega)), tillF]
    by_cases hy : y = 0
    · obtain ⟨m1, e1, d1, s1, y1⟩ := g8_night (h := h) (b := b) (l := l) (r := r) wH w.S si hN hd
      rw [he] at e1 d1 y1
      obtain ⟨m2, e2, d2, s2⟩ := ih (j + 1) n (fnd H s ey) m1 (nightS H ey s) (by omega) (by omega) w.nx si.nx (by rw [s1.now]; exact hN) d1 y1
      rw [if_pos hy, if_pos hy, md_o (blk_at _ _ _), b_some, e1, b2_some, nI_1, e2]
      exact ⟨m2, rfl, d2, s1.trans s2⟩
    · rw [if_neg hy, if_neg hy]
      exact ⟨m, rfl, hd, SmH.refl m⟩
theorem g8_till (wH : wfH H) {m s : Blk} (w : wfN H s 60) (si : Sin H s) (hN : hR H (m.2 0)) (hd : hdR H s m) (he : m.1 1 = ey) : ∃ m', f_X8_goTill (blk b (mdL b m l r) h) b = some ((tillF H ey 60 0 s).1, blk b (mdL b m' l r) h) ∧ hdR H (tillF H ey 60 0 s).2 m' ∧ SmH m m' := by
  obtain ⟨m', e, d, sm⟩ := g8_till4 (h := h) (b := b) (l := l) (r := r) wH 60 0 lots 0 m s (by omega) (by simp only [lots]; omega) w si hN hd he
  rw [nI_0] at e
  exact ⟨m', by rw [f_X8_goTill, e, b2_some], d, sm⟩
theorem g8_foundIn2 (wH : wfH H) {i : Nat} (hi : i < hM H) : ∀ (k j n : Nat) (m s : Blk), j + k = 60 → k < n → wfN H s k → Sin H s → hR H (m.2 0) → hdR H s m → m.1 1 = ey → ∃ m', f_X8_foundIn_2 n (blk b (mdL b m l r) h) b (nI i) (nI j) = some (encO 1000000 0 (fiN H ey i k j s), blk b (mdL b m' l r) h) ∧ SmH m m' := by
  have hm := wH.2.1
  have hi6 : i < 6 := by omega
  intro k
  induction k with
  | zero =>
    intro j n m s hj hn w si hN hd he
    obtain ⟨n, rfl⟩ : ∃ q, n = q + 1 := ⟨n - 1, by omega⟩
    exact ⟨m, by rw [f_X8_foundIn_2, if_pos (show (60 : Int32) ≤ nI j from nI_le (a := 60) (by omega) (by omega)), fiN, encO], SmH.refl m⟩
  | succ k ih =>
    intro j n m s hj hn w si hN hd he
    obtain ⟨n, rfl⟩ : ∃ q, n = q + 1 := ⟨n - 1, by omega⟩
    obtain ⟨m1, e1, d1, s1, y1⟩ := g8_night (h := h) (b := b) (l := l) (r := r) wH w.S si hN hd
    rw [he] at e1 d1 y1
    rw [f_X8_foundIn_2, if_neg (show ¬ (60 : Int32) ≤ nI j from nI_ge (b := 60) (by omega) (by omega)), md_o (blk_at _ _ _), b_some, e1, b2_some, nI_1, fiN]
    simp only [fnd, bits_tst (isFnd H s ey) hi6]
    by_cases f1 : isFnd H s ey i = true
    · rw [if_pos f1, if_pos f1]
      exact ⟨m1, by rw [encO, Nat.zero_add], s1⟩
    · obtain ⟨m2, e2, s2⟩ := ih (j + 1) n m1 (nightS H ey s) (by omega) (by omega) w.nx si.nx (by rw [s1.now]; exact hN) d1 y1
      rw [if_neg f1, if_neg f1, e2]
      exact ⟨m2, rfl, s1.trans s2⟩
theorem hdR.mv {s m : Blk} (d : hdR H s m) {i : Nat} {x : Int32} : hdR H (sA s 0 i x) (sA m 4 i x) := ⟨d.1, fun q hq => by
  obtain ⟨d0, d1, d2, d3⟩ := d.2 q hq
  simp only [sA_2]
  by_cases e : q = i
  · subst e; simp [d1, d2, d3]
  · simp [e, d0, d1, d2, d3]⟩
theorem Sin.mv {s : Blk} (si : Sin H s) {j i : Nat} {x : Int32} (hj : ¬ j = 2 ∧ ¬ j = 3) : Sin H (sA s j i x) := fun q hq h0 => by
  rw [sA_row (by omega)] at h0 ⊢
  exact si q hq h0
theorem g8_hide37 (wH : wfH H) {s m0 : Blk} (w : wfN H s 60) (si : Sin H s) (hN : hR H (m0.2 0)) (hs : sR H s (m0.2 0)) {i : Nat} (hi : i < hM H) : ∀ (k j n : Nat) (m : Blk) (a c : Int32), j + k = 8 → k < n → SmH m0 m → ∃ m', f_X8_hide_37 n (blk b (mdL b m l r) h) b (nI i) a c (nI j) = some (bestL (fun r => encO 1000000 0 (fiN H (H.1 0) i 60 0 (sA s 0 i (nI r)))) k j a c, blk b (mdL b m' l r) h) ∧ SmH m0 m' := by
  have hm := wH.2.1
  have hi6 : i < 6 := by omega
  intro k
  induction k with
  | zero =>
    intro j n m a c hj hn sm
    obtain ⟨n, rfl⟩ : ∃ q, n = q + 1 := ⟨n - 1, by omega⟩
    exact ⟨m, by rw [f_X8_hide_37, if_pos (show (8 : Int32) ≤ nI j from nI_le (a := 8) (by omega) (by omega)), bestL], sm⟩
  | succ k ih =>
    intro j n m a c hj hn sm
    obtain ⟨n, rfl⟩ : ∃ q, n = q + 1 := ⟨n - 1, by omega⟩
    obtain ⟨m1, e1, d1, s1, y1⟩ := g8_hand (h := h) (b := b) (l := l) (r := r) (m := m) wH (by rw [sm.now]; exact hN) (by rw [sm.now]; exact hs)
    have sm1 : SmH m0 (sA m1 4 i (nI j)) := (sm.trans s1).sA (by omega)
    obtain ⟨m2, e2, s2⟩ := g8_foundIn2 (h := h) (b := b) (l := l) (r := r) (ey := H.1 0) wH hi 60 0 lots (sA m1 4 i (nI j)) (sA s 0 i (nI j)) (by omega) (by simp only [lots]; omega) (w.mv (inR_nI (by omega) (by omega))) (si.mv (by omega)) (by rw [sm1.now]; exact hN) d1.mv y1
    rw [nI_0] at e2
    rw [f_X8_hide_37, if_neg (show ¬ (8 : Int32) ≤ nI j from nI_ge (b := 8) (by omega) (by omega)), md_o (blk_at _ _ _), b_some, e1, b_some, md_f8 (blk_at _ _ _), b_some, md_w5 hi6, b_some, md_o (blk_at _ _ _), b_some, f_X8_foundIn, e2, b2_some, g8_least, nI_1, bestL]
    by_cases hc : c ≤ encO 1000000 0 (fiN H (H.1 0) i 60 0 (sA s 0 i (nI j)))
    · obtain ⟨m3, e3, s3⟩ := ih (j + 1) n m2 a c (by omega) (by omega) (sm1.trans s2)
      rw [if_pos hc, if_pos hc, b_some, b_some]
      by_cases hc2 : encO 1000000 0 (fiN H (H.1 0) i 60 0 (sA s 0 i (nI j))) ≤ c
      · rw [if_pos hc2, Int32.le_antisymm hc2 hc, e3]; exact ⟨m3, rfl, s3⟩
      · rw [if_neg hc2, e3]; exact ⟨m3, rfl, s3⟩
    · obtain ⟨m3, e3, s3⟩ := ih (j + 1) n m2 (nI j) (encO 1000000 0 (fiN H (H.1 0) i 60 0 (sA s 0 i (nI j)))) (by omega) (by omega) (sm1.trans s2)
      rw [if_neg hc, if_neg hc, b_some, b_some, if_pos (Int32.le_of_lt (Int32.not_le.mp hc)), e3]
      exact ⟨m3, rfl, s3⟩
end
