/-! ===== scenes that agree ===== -/
def EqS (H s t : Blk) : Prop := s.1 0 = t.1 0 ∧ ∀ j i, j < 5 → i < hM H → s.2 j i = t.2 j i
theorem EqS.refl (H s : Blk) : EqS H s s := ⟨rfl, fun _ _ _ _ => rfl⟩
theorem EqS.symm {H s t : Blk} (e : EqS H s t) : EqS H t s := ⟨e.1.symm, fun j i hj hi => (e.2 j i hj hi).symm⟩
theorem EqS.trans {H s t u : Blk} (e : EqS H s t) (e' : EqS H t u) : EqS H s u := ⟨e.1.trans e'.1, fun j i hj hi => (e.2 j i hj hi).trans (e'.2 j i hj hi)⟩
theorem anyF_congr {P Q : Nat → Bool} : ∀ (k j : Nat), (∀ i, j ≤ i → i < j + k → P i = Q i) → anyF P j k = anyF Q j k := by
  intro k
  induction k with
  | zero => intro j _; rfl
  | succ k ih =>
    intro j h
    rw [anyF, anyF, h j (Nat.le_refl _) (by omega), ih (j + 1) (fun i h1 h2 => h i (by omega) (by omega))]
section
variable {H s t : Blk} {ey : Int32} {i : Nat}
theorem comp_eq (e : EqS H s t) (hi : i < hM H) : comp H s i = comp H t i := by
  refine anyF_congr _ _ (fun j _ hj => ?_)
  rw [e.2 2 j (by omega) (by omega), e.2 0 j (by omega) (by omega), e.2 0 i (by omega) hi]
theorem hid_eq (e : EqS H s t) (hi : i < hM H) : hid H s i = hid H t i := by
  unfold hid plainOf
  rw [comp_eq e hi, e.2 0 i (by omega) hi, e.2 1 i (by omega) hi]
theorem isOut_eq (e : EqS H s t) : isOut H s = isOut H t := by
  funext i
  by_cases hi : i < hM H
  · simp only [isOut, hid_eq e hi, e.2 2 i (by omega) hi]
  · simp [isOut, hi]
theorem isIn_eq (e : EqS H s t) : isIn H s = isIn H t := by
  funext i
  by_cases hi : i < hM H
  · exact decide_eq_decide.mpr (by simp only [sN, e.1, e.2 2 i (by omega) hi, e.2 0 i (by omega) hi])
  · simp [isIn, hi]
theorem isSee_eq (e : EqS H s t) : isSee H s = isSee H t := by
  funext i
  simp only [isSee, isIn_eq e, isOut_eq e]
theorem isFnd_eq (e : EqS H s t) : isFnd H s ey = isFnd H t ey := by
  funext i
  by_cases hi : i < hM H
  · simp only [isFnd, isSee_eq e, hid_eq e hi]
  · rw [isFnd_hi (by omega), isFnd_hi (by omega)]
theorem fnd_eq (e : EqS H s t) : fnd H s ey = fnd H t ey := by simp only [fnd, isFnd_eq e]
theorem nightS_eq (e : EqS H s t) : EqS H (nightS H ey s) (nightS H ey t) := by
  refine ⟨?_, fun j i hj hi => ?_⟩
  · simp only [nightS, upd, if_true, e.1]
  · simp only [nightS, if_pos hi, isOut_eq e, isFnd_eq e, e.1, e.2 1 i (by omega) hi, e.2 2 i (by omega) hi, e.2 3 i (by omega) hi, e.2 j i hj hi]
theorem takeS_eq (hm : hM H ≤ 6) : EqS H (takeS s t) s := by
  refine ⟨by simp [takeS], fun j i hj hi => ?_⟩
  simp only [takeS, if_pos hj]
  exact cpy_lt (by omega)
theorem sA_eq (e : EqS H s t) {j q : Nat} {x : Int32} : EqS H (sA s j q x) (sA t j q x) := by
  refine ⟨e.1, fun a i ha hi => ?_⟩
  rw [sA_2, sA_2, e.2 a i ha hi]
/-- a scene, with room for c nights more -/
def wfN (H s : Blk) (c : Nat) : Prop := s.1 0 = nI (sN s) ∧ sN s + c < 1000000 ∧ ∀ i, i < hM H → inR (s.2 0 i) 8 = true
theorem wfN.S {c : Nat} (w : wfN H s c) : wfS H s := ⟨w.1, by have := w.2.1; omega, w.2.2⟩
theorem night_0 : (nightS H ey s).1 0 = s.1 0 + 1 := by simp [nightS, upd]
theorem night_r (q : Nat) : (nightS H ey s).2 0 q = s.2 0 q := by simp [nightS]
theorem sN_nx {c : Nat} (w : wfN H s c) : sN (nightS H ey s) = sN s + 1 := by
  have := w.2.1
  rw [sN, night_0, w.1, nI_1, nI_clamp (by omega)]
theorem wfN.nx {c : Nat} (w : wfN H s (c + 1)) : wfN H (nightS H ey s) c := by
  have := w.2.1
  refine ⟨by rw [sN_nx w, night_0, w.1, nI_1], by rw [sN_nx w]; omega, fun i hi => by rw [night_r]; exact w.2.2 i hi⟩
theorem wfN.le {c c' : Nat} (w : wfN H s c) (h : c' ≤ c) : wfN H s c' := ⟨w.1, by have := w.2.1; omega, w.2.2⟩
theorem wfN.eq {c : Nat} (w : wfN H s c) (e : EqS H s t) : wfN H t c := by
  have : sN t = sN s := by simp only [sN, e.1]
  exact ⟨by rw [this, ← e.1]; exact w.1, by rw [this]; exact w.2.1, fun i hi => by rw [← e.2 0 i (by omega) hi]; exact w.2.2 i hi⟩
theorem wfN.mv {c q : Nat} {x : Int32} (w : wfN H s c) (hx : inR x 8 = true) : wfN H (sA s 0 q x) c := by
  refine ⟨w.1, w.2.1, fun i hi => ?_⟩
  rw [sA_2]
  split
  · exact hx
  · exact w.2.2 i hi
theorem wfN.st {c q j : Nat} {x : Int32} (w : wfN H s c) (hj : ¬ j = 0) : wfN H (sA s j q x) c := by
  refine ⟨w.1, w.2.1, fun i hi => ?_⟩
  rw [sA_2, if_neg (fun e => hj e.1.symm)]
  exact w.2.2 i hi
/-! what a run of nights is -/
def nts (H : Blk) (ey : Int32) : Nat → Blk → Blk
  | 0, s => s
  | n + 1, s => nts H ey n (nightS H ey s)
def tillF (H : Blk) (ey : Int32) : Nat → Int32 → Blk → Int32 × Blk
  | 0, y, s => (y, s)
  | n + 1, y, s => if y = 0 then tillF H ey n (fnd H s ey) (nightS H ey s) else (y, s)
def untilN (H : Blk) (ey : Int32) (i k : Nat) : Nat → Blk → Blk
  | 0, s => s
  | n + 1, s => if s.2 2 i = 0 ∨ s.2 2 k = 0 then untilN H ey i k n (nightS H ey s) else s
def fnN (s : Blk) (i : Nat) : Int32 := if s.2 2 i = 2 then s.2 3 i else 2147483647
end
theorem nts_eq {H s t : Blk} {ey : Int32} (n : Nat) (e : EqS H s t) : EqS H (nts H ey n s) (nts H ey n t) := by
  induction n generalizing s t with
  | zero => exact e
  | succ n ih => exact ih (nightS_eq e)
theorem tillF_eq {H s t : Blk} {ey : Int32} (n : Nat) (y : Int32) (e : EqS H s t) : (tillF H ey n y s).1 = (tillF H ey n y t).1 ∧ EqS H (tillF H ey n y s).2 (tillF H ey n y t).2 := by
  induction n generalizing s t y with
  | zero => exact ⟨rfl, e⟩
  | succ n ih =>
    rw [tillF, tillF, fnd_eq e]
    by_cases h : y = 0
    · rw [if_pos h, if_pos h]; exact ih _ (nightS_eq e)
    · rw [if_neg h, if_neg h]; exact ⟨rfl, e⟩
theorem untilN_eq {H s t : Blk} {ey : Int32} {i k : Nat} (hi : i < hM H) (hk : k < hM H) (n : Nat) (e : EqS H s t) : EqS H (untilN H ey i k n s) (untilN H ey i k n t) := by
  induction n generalizing s t with
  | zero => exact e
  | succ n ih =>
    rw [untilN, untilN, e.2 2 i (by omega) hi, e.2 2 k (by omega) hk]
    split
    · exact ih (nightS_eq e)
    · exact e
theorem fnN_eq {H s t : Blk} {i : Nat} (hi : i < hM H) (e : EqS H s t) : fnN s i = fnN t i := by
  rw [fnN, fnN, e.2 2 i (by omega) hi, e.2 3 i (by omega) hi]
/-! ===== Forecast ===== -/
section
variable {h : Hea} {b bh : Nat} {H s0 s g : Blk}
theorem fc_H (aH : At h bh (hhL bh H s0)) (hd : bh + 15 ≤ b ∨ b + 8 ≤ bh) (s g : Blk) : At (blk b (fcL b s g) h) bh (hhL bh H s0) := at_far (n := 15) (n' := 8) aH (fun _ => hh_hi) (fun _ => fc_hi) hd
theorem g_fnight {ey : Int32} (aH : At h bh (hhL bh H s0)) (hd : bh + 15 ≤ b ∨ b + 8 ≤ bh) (wH : wfH H) (wS : wfS H s) : f_X1_runNight (blk b (fcL b s g) h) bh (b + 1) ey = some (fnd H s ey, blk b (fcL b (nightS H ey s) g) h) := by
  have := g_runNight (ey := ey) (hh_ho (fc_H aH hd s g)) (fc_sn (blk_at b (fcL b s g) h)) wH wS
  rw [fc_put] at this
  exact this
theorem g_ftake (aH : At h bh (hhL bh H s0)) (hd : bh + 15 ≤ b ∨ b + 8 ≤ bh) : f_X3_take (blk b (fcL b s g) h) (b + 1) (bh + 6) = some (blk b (fcL b (takeS s0 s) g) h) := by
  have := g_takeS (h := blk b (fcL b s g) h) (bs := b + 1) (bt := bh + 6) (s := s) (t := s0) (hh_sn (fc_H aH hd s g)) (by omega)
  rw [fc_put, fc_put] at this
  exact this
theorem g_after13 (aH : At h bh (hhL bh H s0)) (hd : bh + 15 ≤ b ∨ b + 8 ≤ bh) (wH : wfH H) {t : Nat} (ht : t ≤ 60) : ∀ (k j n : Nat) (s : Blk), j + k = t → k < n → wfN H s k → f_X0_after_13 n (blk b (fcL b s g) h) b bh (nI t) (nI j) = some (blk b (fcL b (nts H (H.1 0) k s) g) h) := by
  intro k
  induction k with
  | zero =>
    intro j n s hj hn wS
    obtain ⟨n, rfl⟩ : ∃ q, n = q + 1 := ⟨n - 1, by omega⟩
    rw [f_X0_after_13, if_pos (nI_le (by omega) (by omega)), nts]
  | succ k ih =>
    intro j n s hj hn wS
    obtain ⟨n, rfl⟩ : ∃ q, n = q + 1 := ⟨n - 1, by omega⟩
    rw [f_X0_after_13, if_neg (nI_ge (by omega) (by omega)), fc_f0 (blk_at _ _ _), b_some, hh_f0 (fc_H aH hd _ _), b_some, hh_o (fc_H aH hd _ _), b_some, g_fnight aH hd wH wS.S, b2_some, nI_1, ih (j + 1) n _ (by omega) (by omega) wS.nx, nts]
theorem g_after (aH : At h bh (hhL bh H s0)) (hd : bh + 15 ≤ b ∨ b + 8 ≤ bh) (wH : wfH H) (wS : wfN H s0 60) {t : Nat} (ht : t ≤ 60) : f_X0_after (blk b (fcL b s g) h) b bh (nI t) = some (b + 1, blk b (fcL b (nts H (H.1 0) t (takeS s0 s)) g) h) := by
  have a13 := g_after13 (g := g) aH hd wH ht t 0 lots (takeS s0 s) (by omega) (by simp only [lots]; omega) ((wS.eq (takeS_eq wH.2.1).symm).le ht)
  rw [nI_0] at a13
  rw [f_X0_after, fc_f0 (blk_at _ _ _), b_some, hh_f9 (fc_H aH hd _ _), b_some, sn_o (fc_sn (blk_at _ _ _)), b_some, g_ftake aH hd, b_some, a13, b_some, fc_f0 (blk_at _ _ _), b_some]
theorem g_first15 (aH : At h bh (hhL bh H s0)) (hd : bh + 15 ≤ b ∨ b + 8 ≤ bh) (wH : wfH H) : ∀ (k j n : Nat) (y : Int32) (s : Blk), j + k = 60 → k < n → wfN H s k → f_X0_firstFound_15 n (blk b (fcL b s g) h) b bh y (nI j) = some ((tillF H (H.1 0) k y s).1, blk b (fcL b (tillF H (H.1 0) k y s).2 g) h) := by
  intro k
  induction k with
  | zero =>
    intro j n y s hj hn wS
    obtain ⟨n, rfl⟩ : ∃ q, n = q + 1 := ⟨n - 1, by omega⟩
    rw [f_X0_firstFound_15, if_pos (show (60 : Int32) ≤ nI j from nI_le (a := 60) (by omega) (by omega)), tillF]
  | succ k ih =>
    intro j n y s hj hn wS
    obtain ⟨n, rfl⟩ : ∃ q, n = q + 1 := ⟨n - 1, by omega⟩
    rw [f_X0_firstFound_15, if_neg (show ¬ (60 : Int32) ≤ nI j from nI_ge (b := 60) (by omega) (by omega)), fc_f0 (blk_at _ _ _), b_some, hh_f0 (fc_H aH hd _ _), b_some, hh_o (fc_H aH hd _ _), b_some, g_fnight aH hd wH wS.S, b2_some, nI_1, ih (j + 1) n _ _ (by omega) (by omega) wS.nx, tillF]
    by_cases hy : y = 0
    · rw [if_pos hy, if_pos hy]
    · rw [if_neg hy, if_neg hy]
theorem g_first (aH : At h bh (hhL bh H s0)) (hd : bh + 15 ≤ b ∨ b + 8 ≤ bh) (wH : wfH H) (wS : wfN H s0 60) : f_X0_firstFound (blk b (fcL b s g) h) b bh = some ((tillF H (H.1 0) 60 0 (takeS s0 s)).1, blk b (fcL b (tillF H (H.1 0) 60 0 (takeS s0 s)).2 g) h) := by
  have a15 := g_first15 (g := g) aH hd wH 60 0 lots 0 (takeS s0 s) (by omega) (by simp only [lots]; omega) (wS.eq (takeS_eq wH.2.1).symm)
  rw [nI_0] at a15
  rw [f_X0_firstFound, fc_f0 (blk_at _ _ _), b_some, hh_f9 (fc_H aH hd _ _), b_some, sn_o (fc_sn (blk_at _ _ _)), b_some, g_ftake aH hd, b_some, a15, b2_some]
theorem g_until3 (aH : At h bh (hhL bh H s0)) (hd : bh + 15 ≤ b ∨ b + 8 ≤ bh) (wH : wfH H) {i q : Nat} (hi : i < 6) (hq : q < 6) : ∀ (k j n : Nat) (s : Blk), j + k = 60 → k < n → wfN H s k → f_X0_runUntilNoMoreIn_3 n (blk b (fcL b s g) h) b bh (nI i) (nI q) (nI j) = some (blk b (fcL b (untilN H (H.1 0) i q k s) g) h) := by
  intro k
  induction k with
  | zero =>
    intro j n s hj hn wS
    obtain ⟨n, rfl⟩ : ∃ q, n = q + 1 := ⟨n - 1, by omega⟩
    rw [f_X0_runUntilNoMoreIn_3, if_pos (show (60 : Int32) ≤ nI j from nI_le (a := 60) (by omega) (by omega)), untilN]
  | succ k ih =>
    intro j n s hj hn wS
    obtain ⟨n, rfl⟩ : ∃ q, n = q + 1 := ⟨n - 1, by omega⟩
    rw [f_X0_runUntilNoMoreIn_3, if_neg (show ¬ (60 : Int32) ≤ nI j from nI_ge (b := 60) (by omega) (by omega)), fc_f0 (blk_at _ _ _), b_some, sn_f3 (fc_sn (blk_at _ _ _)), b_some, sn_m2 (fc_sn (blk_at _ _ _)) hi, b_some, b_some, hh_f0 (fc_H aH hd _ _), b_some, hh_o (fc_H aH hd _ _), b_some, g_fnight aH hd wH wS.S, b2_some, nI_1, ih (j + 1) n _ (by omega) (by omega) wS.nx, b_some, sn_f3 (fc_sn (blk_at _ _ _)), b_some, sn_m2 (fc_sn (blk_at _ _ _)) hq, b_some, untilN]
    by_cases h1 : s.2 2 i = 0
    · rw [if_pos h1, if_pos (Or.inl h1)]
    · by_cases h2 : s.2 2 q = 0
      · rw [if_neg h1, if_pos h2, if_pos (Or.inr h2)]
      · rw [if_neg h1, if_neg h2, if_neg (fun e => e.elim h1 h2)]
theorem g_until (aH : At h bh (hhL bh H s0)) (hd : bh + 15 ≤ b ∨ b + 8 ≤ bh) (wH : wfH H) {i q : Nat} (hi : i < 6) (hq : q < 6) (wS : wfN H s 60) : f_X0_runUntilNoMoreIn (blk b (fcL b s g) h) b bh (nI i) (nI q) = some (blk b (fcL b (untilN H (H.1 0) i q 60 s) g) h) := by
  have a3 := g_until3 (g := g) aH hd wH hi hq 60 0 lots s (by omega) (by simp only [lots]; omega) wS
  rw [nI_0] at a3
  rw [f_X0_runUntilNoMoreIn, a3, b_some]
theorem g_foundNight {i : Nat} (hi : i < 6) : f_X0_foundNight (blk b (fcL b s g) h) b (nI i) = some (fnN s i) := by
  rw [f_X0_foundNight, fc_f0 (blk_at _ _ _), b_some, sn_f3 (fc_sn (blk_at _ _ _)), b_some, sn_m2 (fc_sn (blk_at _ _ _)) hi, b_some, b_some, sn_f4 (fc_sn (blk_at _ _ _)), b_some, sn_m3 (fc_sn (blk_at _ _ _)) hi, b_some, fnN]
  split <;> rfl
end
