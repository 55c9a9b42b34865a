/-! ===== Past ===== -/
/-- the cells of a past from p on: z scenes are kept; f says where the scenes lie in order; S what they hold by their places -/
def pastL (p z : Nat) (f : Nat → Option Nat) (S : Nat → Blk) : Nat → Option Cel := fun k =>
  if k = 0 then some (cO 2 [.ref (p + 1), .int (nI z)]) else
  if k = 1 then some (cR 6 8 f) else
  if k < 50 then snL (p + 2 + 6 * ((k - 2) / 6)) (S ((k - 2) / 6)) ((k - 2) % 6) else none
/-- the order: the i-th scene is the one at place q i -/
def okP (p : Nat) (f : Nat → Option Nat) (q : Nat → Nat) : Prop := (∀ i, i < 8 → f i = some (p + 2 + 6 * q i) ∧ q i < 8) ∧ ∀ i j, i < 8 → j < 8 → q i = q j → i = j
section
variable {h : Hea} {p z : Nat} {f : Nat → Option Nat} {q : Nat → Nat} {S : Nat → Blk} {s t : Blk}
theorem past_hi {k : Nat} (e : 50 ≤ k) : pastL p z f S k = none := by
  simp [pastL, show ¬ k = 0 by omega, show ¬ k = 1 by omega, show ¬ k < 50 by omega]
theorem past_0 (a : At h p (pastL p z f S)) : h.2 p = some (cO 2 [.ref (p + 1), .int (nI z)]) := a 0 _ rfl
theorem past_1 (a : At h p (pastL p z f S)) : h.2 (p + 1) = some (cR 6 8 f) := a 1 _ rfl
theorem past_k {j r : Nat} (hj : j < 8) (hr : r < 6) : pastL p z f S (2 + 6 * j + r) = snL (p + 2 + 6 * j) (S j) r := by
  simp only [pastL, if_neg (show ¬ 2 + 6 * j + r = 0 by omega), if_neg (show ¬ 2 + 6 * j + r = 1 by omega), if_pos (show 2 + 6 * j + r < 50 by omega)]
  rw [show (2 + 6 * j + r - 2) / 6 = j by omega, show (2 + 6 * j + r - 2) % 6 = r by omega]
theorem sn_hi6 {b k : Nat} (e : 6 ≤ k) : snL b s k = none := by
  obtain ⟨q, rfl⟩ : ∃ q, k = q + 6 := ⟨k - 6, by omega⟩
  rfl
theorem past_sn (a : At h p (pastL p z f S)) {j : Nat} (hj : j < 8) : At h (p + 2 + 6 * j) (snL (p + 2 + 6 * j) (S j)) := by
  intro k c e
  by_cases hk : k < 6
  · rw [show p + 2 + 6 * j + k = p + (2 + 6 * j + k) by omega]
    exact a _ _ (by rw [past_k hj hk]; exact e)
  · rw [sn_hi6 (by omega)] at e; cases e
theorem past_put {j : Nat} (hj : j < 8) : blk (p + 2 + 6 * j) (snL (p + 2 + 6 * j) s) (blk p (pastL p z f S) h) = blk p (pastL p z f (va_up S j s)) h := by
  rw [show p + 2 + 6 * j = p + (2 + 6 * j) by omega]
  refine blk_sub (fun k => ?_)
  by_cases h1 : 2 + 6 * j ≤ k
  · rw [if_pos h1]
    by_cases h2 : k < 2 + 6 * j + 6
    · obtain ⟨r, hr, rfl⟩ : ∃ r, r < 6 ∧ k = 2 + 6 * j + r := ⟨k - (2 + 6 * j), by omega, by omega⟩
      rw [past_k hj hr, past_k hj hr, show 2 + 6 * j + r - (2 + 6 * j) = r by omega, show p + (2 + 6 * j) = p + 2 + 6 * j by omega]
      simp only [va_up, if_true]
      rcases (show r = 0 ∨ r = 1 ∨ r = 2 ∨ r = 3 ∨ r = 4 ∨ r = 5 by omega) with rfl | rfl | rfl | rfl | rfl | rfl <;> rfl
    · rw [sn_hi6 (by omega)]
      by_cases h3 : k < 50
      · obtain ⟨j', r, hj', hr, rfl⟩ : ∃ j' r, j' < 8 ∧ r < 6 ∧ k = 2 + 6 * j' + r := ⟨(k - 2) / 6, (k - 2) % 6, by omega, by omega, by omega⟩
        rw [past_k hj' hr, past_k hj' hr]
        simp only [va_up, if_neg (show ¬ j' = j by omega)]
      · rw [past_hi (by omega), past_hi (by omega)]
  · rw [if_neg h1]
    by_cases h0 : k = 0
    · simp [pastL, h0]
    · by_cases h1' : k = 1
      · simp [pastL, h1']
      · obtain ⟨j', r, hj', hr, rfl⟩ : ∃ j' r, j' < 8 ∧ r < 6 ∧ k = 2 + 6 * j' + r := ⟨(k - 2) / 6, (k - 2) % 6, by omega, by omega, by omega⟩
        rw [past_k hj' hr, past_k hj' hr]
        simp only [va_up, if_neg (show ¬ j' = j by omega)]
theorem past_size {z' : Nat} : pV (blk p (pastL p z f S) h) p 2 1 (.int (nI z')) = some (blk p (pastL p z' f S) h) := by
  rw [pV_at (past_0 (blk_at _ _ _)) (Nat.le_of_ble_eq_true rfl)]
  refine congrArg some (blk_hup (k := 0) (fun j => ?_))
  by_cases h0 : j = 0
  · subst h0; rfl
  · simp [pastL, h0]
theorem past_ref {i x : Nat} (hi : i < 8) (hx : ∃ fs, (blk p (pastL p z f S) h).2 x = some (cO 3 fs)) : stR (blk p (pastL p z f S) h) 6 3 (p + 1) (nI i) x = some (blk p (pastL p z (va_up f i (some x)) S) h) := by
  obtain ⟨fs, hx⟩ := hx
  simp only [stR, past_1 (blk_at p (pastL p z f S) h), hx, true_and, if_pos (inR_nI hi (by decide)), nI_clamp (show i < 2 ^ 31 by omega)]
  refine congrArg some (blk_hup (k := 1) (fun j => ?_))
  by_cases h1 : j = 1
  · subst h1; rfl
  · by_cases h0 : j = 0
    · subst h0; rfl
    · simp [pastL, h0, h1]
theorem past_get {i : Nat} (a : At h p (pastL p z f S)) (hi : i < 8) : ldR h 6 (p + 1) (nI i) = f i := ldRN_at (past_1 a) hi (by decide)
theorem past_f0 (a : At h p (pastL p z f S)) : gR h p 2 0 = some (p + 1) := gR_at (past_0 a) rfl
theorem past_f1 (a : At h p (pastL p z f S)) : gI h p 2 1 = some (nI z) := gI_at (past_0 a) rfl
theorem past_o (a : At h p (pastL p z f S)) : isO h p 2 = some () := isO_at (past_0 a)
theorem past_isS (a : At h p (pastL p z f S)) {j : Nat} (hj : j < 8) : ∃ fs, h.2 (p + 2 + 6 * j) = some (cO 3 fs) := ⟨_, (past_sn a hj) 0 _ rfl⟩
/-- the order moved down by one, up to k -/
def rotK (f : Nat → Option Nat) (k : Nat) : Nat → Option Nat := fun i => if i + 1 < k then f (i + 1) else f i
theorem rotK_1 (f : Nat → Option Nat) : rotK f 1 = f := by funext i; simp [rotK]
theorem rotK_s (f : Nat → Option Nat) {k : Nat} (hk : 1 ≤ k) : va_up (rotK f k) (k - 1) (f k) = rotK f (k + 1) := by
  funext i
  simp only [va_up, rotK]
  by_cases h1 : i = k - 1
  · rw [if_pos h1, if_pos (show i + 1 < k + 1 by omega), show i + 1 = k by omega]
  · by_cases h2 : i + 1 < k
    · rw [if_neg h1, if_pos h2, if_pos (by omega)]
    · rw [if_neg h1, if_neg h2, if_neg (by omega)]
theorem g_drop9 (hq : okP p f q) : ∀ (k j n : Nat), j + k = 8 → 1 ≤ j → k < n → f_X2_dropOldest_9 n (blk p (pastL p z (rotK f j) S) h) p (nI j) = some (blk p (pastL p z (rotK f 8) S) h) := by
  intro k
  induction k with
  | zero =>
    intro j n hj h1 hn
    obtain ⟨n, rfl⟩ : ∃ q, n = q + 1 := ⟨n - 1, by omega⟩
    rw [f_X2_dropOldest_9, if_pos (show (8 : Int32) ≤ nI j from nI_le (a := 8) (by omega) (by omega)), show j = 8 by omega]
  | succ k ih =>
    intro j n hj h1 hn
    obtain ⟨n, rfl⟩ : ∃ q, n = q + 1 := ⟨n - 1, by omega⟩
    have hfj : rotK f j j = some (p + 2 + 6 * q j) := by simp only [rotK, if_neg (show ¬ j + 1 < j by omega)]; exact (hq.1 j (by omega)).1
    rw [f_X2_dropOldest_9, if_neg (show ¬ (8 : Int32) ≤ nI j from nI_ge (b := 8) (by omega) (by omega)), past_f0 (blk_at _ _ _), b_some, b_some, past_get (blk_at _ _ _) (by omega), hfj, b_some, show (1 : Int32) = nI 1 from rfl, pk_sub h1, past_ref (by omega) (past_isS (blk_at _ _ _) (hq.1 j (by omega)).2), b_some, nI_add, ← (hq.1 j (by omega)).1, rotK_s f h1, ih (j + 1) n (by omega) (by omega) (by omega)]
/-- the oldest becomes the last -/
def rotF (f : Nat → Option Nat) : Nat → Option Nat := fun i => if i < 7 then f (i + 1) else if i = 7 then f 0 else f i
def rotQ (q : Nat → Nat) : Nat → Nat := fun i => if i < 7 then q (i + 1) else q 0
theorem okP_rot (hq : okP p f q) : okP p (rotF f) (rotQ q) := by
  refine ⟨fun i hi => ?_, fun i j hi hj e => ?_⟩
  · by_cases h7 : i < 7
    · simp only [rotF, rotQ, if_pos h7]; exact hq.1 (i + 1) (by omega)
    · simp only [rotF, rotQ, if_neg h7, if_pos (show i = 7 by omega)]; exact hq.1 0 (by omega)
  · by_cases h7 : i < 7 <;> by_cases h8 : j < 7
    · simp only [rotQ, if_pos h7, if_pos h8] at e
      have := hq.2 _ _ (by omega) (by omega) e
      omega
    · simp only [rotQ, if_pos h7, if_neg h8] at e
      have := hq.2 _ _ (by omega) (by omega) e
      omega
    · simp only [rotQ, if_neg h7, if_pos h8] at e
      have := hq.2 _ _ (by omega) (by omega) e
      omega
    · omega
theorem g_drop (hq : okP p f q) : f_X2_dropOldest (blk p (pastL p z f S) h) p = some (blk p (pastL p 7 (rotF f) S) h) := by
  have d9 := g_drop9 (h := h) (z := z) (S := S) hq 7 1 lots (by omega) (by omega) (by simp only [lots]; omega)
  rw [rotK_1] at d9
  have hg := past_get (i := 0) (blk_at p (pastL p z f S) h) (by omega)
  rw [nI_0] at hg
  rw [f_X2_dropOldest, past_f0 (blk_at _ _ _), b_some, hg, (hq.1 0 (by omega)).1, b_some, show (1 : Int32) = nI 1 from rfl, d9, b_some, past_f0 (blk_at _ _ _), b_some, show (7 : Int32) = nI 7 from rfl, past_ref (by omega) (past_isS (blk_at _ _ _) (hq.1 0 (by omega)).2), b_some, pI, past_size, b_some, ← (hq.1 0 (by omega)).1]
  refine congrArg (fun z => some (blk p (pastL p 7 z S) h)) (funext fun i => ?_)
  simp only [va_up, rotK, rotF]
  by_cases h7 : i = 7
  · simp [h7]
  · by_cases h8 : i + 1 < 8
    · rw [if_neg h7, if_pos h8, if_pos (by omega)]
    · rw [if_neg h7, if_neg h8, if_neg (by omega), if_neg h7]
theorem past_far {bt : Nat} (aT : At h bt (snL bt t)) (hd : bt + 6 ≤ p ∨ p + 50 ≤ bt) : At (blk p (pastL p z f S) h) bt (snL bt t) := aT.blk (fun k k' e => by
  by_cases h1 : 6 ≤ k
  · exact Or.inl (sn_hi6 h1)
  · exact Or.inr (past_hi (by omega)))
theorem g_pastTake {bt j : Nat} (aT : At h bt (snL bt t)) (hd : bt + 6 ≤ p ∨ p + 50 ≤ bt) (hj : j < 8) : f_X3_take (blk p (pastL p z f S) h) (p + 2 + 6 * j) bt = some (blk p (pastL p z f (va_up S j (takeS t (S j)))) h) := by
  have := g_takeS (h := blk p (pastL p z f S) h) (bs := p + 2 + 6 * j) (s := S j) (past_far aT hd) (by omega)
  rw [past_put hj, past_put hj] at this
  rw [← this]
  congr 2
  have e : va_up S j (S j) = S := by funext i; simp only [va_up]; by_cases hi : i = j <;> simp [hi]
  rw [e]
/-- a scene is kept -/
theorem g_keep {bt : Nat} (hq : okP p f q) (hz : z ≤ 8) (aT : At h bt (snL bt t)) (hd : bt + 6 ≤ p ∨ p + 50 ≤ bt) : ∃ z' f' q' S', f_X2_keep (blk p (pastL p z f S) h) p bt = some (blk p (pastL p z' f' S') h) ∧ okP p f' q' ∧ z' = (if z < 8 then z + 1 else 8) ∧ (∀ i, i + 1 < z' → S' (q' i) = S (q (if z < 8 then i else i + 1))) ∧ ∃ u, S' (q' (z' - 1)) = takeS t u := by
  by_cases h8 : z < 8
  · refine ⟨z + 1, f, q, va_up S (q z) (takeS t (S (q z))), ?_, hq, by simp [h8], fun i hi => ?_, S (q z), ?_⟩
    · rw [f_X2_keep, past_f1 (blk_at _ _ _), b_some, if_pos (show nI z < (8 : Int32) from nI_lt (b := 8) h8 (by decide)), b_some, past_f0 (blk_at _ _ _), b_some, past_f1 (blk_at _ _ _), b_some, past_get (blk_at _ _ _) h8, (hq.1 z h8).1, b_some, sn_o (past_sn (blk_at _ _ _) (hq.1 z h8).2), b_some, g_pastTake aT hd (hq.1 z h8).2, b_some, past_f1 (blk_at _ _ _), b_some, pI, nI_1, past_size, b_some]
    · simp only [va_up, if_pos h8]
      rw [if_neg (fun e => by have := hq.2 _ _ (by omega) h8 e; omega)]
    · simp [va_up]
  · have hz8 : z = 8 := by omega
    subst hz8
    have hr := okP_rot hq
    refine ⟨8, rotF f, rotQ q, va_up S (rotQ q 7) (takeS t (S (rotQ q 7))), ?_, hr, by simp, fun i hi => ?_, S (rotQ q 7), ?_⟩
    · rw [f_X2_keep, past_f1 (blk_at _ _ _), b_some, if_neg (show ¬ nI 8 < (8 : Int32) by decide), past_o (blk_at _ _ _), b_some, g_drop hq, b_some, b_some, past_f0 (blk_at _ _ _), b_some, past_f1 (blk_at _ _ _), b_some, past_get (blk_at _ _ _) (by omega), (hr.1 7 (by omega)).1, b_some, sn_o (past_sn (blk_at _ _ _) (hr.1 7 (by omega)).2), b_some, g_pastTake aT hd (hr.1 7 (by omega)).2, b_some, past_f1 (blk_at _ _ _), b_some, pI, nI_1, past_size, b_some]
    · simp only [va_up]
      rw [if_neg (fun e => by have := hr.2 _ _ (by omega) (by omega) e; omega)]
      simp [rotQ, show i < 7 by omega]
    · simp [va_up]
theorem g_bringBack {bt : Nat} (hq : okP p f q) (hz : z ≤ 8) (h0 : 0 < z) (aP : At h p (pastL p z f S)) (aS : At h bt (snL bt s)) (hd : bt + 6 ≤ p ∨ p + 50 ≤ bt) : f_X2_bringBack h p bt = some (blk bt (snL bt (takeS (S (q (z - 1))) s)) (blk p (pastL p (z - 1) f S) h)) := by
  have sz := past_size (h := h) (p := p) (z := z) (f := f) (S := S) (z' := z - 1)
  rw [aP.eq] at sz
  have aS' : At (blk p (pastL p (z - 1) f S) h) bt (snL bt s) := past_far aS hd
  have tk := g_takeS (h := blk p (pastL p (z - 1) f S) h) (bs := bt) (s := s) (past_sn (blk_at p (pastL p (z - 1) f S) h) (hq.1 (z - 1) (by omega)).2) (by have := (hq.1 (z - 1) (by omega)).2; omega)
  rw [aS'.eq] at tk
  rw [f_X2_bringBack, past_f1 aP, b_some, if_neg (nI_nle h0 (by omega)), b_some, show (1 : Int32) = nI 1 from rfl, pk_sub h0, pI, sz, b_some, past_f0 (blk_at _ _ _), b_some, past_f1 (blk_at _ _ _), b_some, past_get (blk_at _ _ _) (by omega), (hq.1 (z - 1) (by omega)).1, b_some, sn_o aS', b_some, tk, b_some, b_some]
theorem past_past {p' z' : Nat} {f' : Nat → Option Nat} {S' : Nat → Blk} (a : At h p' (pastL p' z' f' S')) (hd : p' + 50 ≤ p ∨ p + 50 ≤ p') : At (blk p (pastL p z f S) h) p' (pastL p' z' f' S') := a.blk (fun k k' e => by
  by_cases h1 : 50 ≤ k
  · exact Or.inl (past_hi h1)
  · exact Or.inr (past_hi (by omega)))
theorem past_over {z' : Nat} {f' : Nat → Option Nat} {S' : Nat → Blk} : blk p (pastL p z' f' S') (blk p (pastL p z f S) h) = blk p (pastL p z' f' S') h := blk_blk (fun k e => by
  by_cases h1 : 50 ≤ k
  · exact past_hi h1
  · exfalso
    by_cases h0 : k = 0
    · subst h0; cases e
    · by_cases h2 : k = 1
      · subst h2; cases e
      · obtain ⟨j', r, hj', hr, rfl⟩ : ∃ j' r, j' < 8 ∧ r < 6 ∧ k = 2 + 6 * j' + r := ⟨(k - 2) / 6, (k - 2) % 6, by omega, by omega, by omega⟩
        rw [past_k hj' hr] at e
        rcases (show r = 0 ∨ r = 1 ∨ r = 2 ∨ r = 3 ∨ r = 4 ∨ r = 5 by omega) with rfl | rfl | rfl | rfl | rfl | rfl <;> cases e)
theorem g_ptakeL {p' z' : Nat} {f' : Nat → Option Nat} {q' : Nat → Nat} {S' : Nat → Blk} (hq : okP p f q) (hq' : okP p' f' q') (hz : z ≤ 8) (a : At h p' (pastL p' z' f' S')) (hd : p' + 50 ≤ p ∨ p + 50 ≤ p') (T : Nat → Blk) : ∀ (k j n : Nat) (S1 : Nat → Blk), j + k = z → k < n → (∀ i, i < j → ∃ u, S1 (q i) = takeS (S' (q' i)) u) →
    ∃ S2, f_X2_take_10 n (blk p (pastL p z f S1) h) p p' (nI j) = some (blk p (pastL p z f S2) h) ∧ ∀ i, i < z → ∃ u, S2 (q i) = takeS (S' (q' i)) u := by
  intro k
  induction k with
  | zero =>
    intro j n S1 hj hn hS
    obtain ⟨n, rfl⟩ : ∃ q, n = q + 1 := ⟨n - 1, by omega⟩
    refine ⟨S1, ?_, fun i hi => hS i (by omega)⟩
    rw [f_X2_take_10, past_f1 (blk_at _ _ _), b_some, if_pos (nI_le (by omega) (by omega))]
  | succ k ih =>
    intro j n S1 hj hn hS
    obtain ⟨n, rfl⟩ : ∃ q, n = q + 1 := ⟨n - 1, by omega⟩
    have hj8 : j < 8 := by omega
    have a1 : ∀ S1 : Nat → Blk, At (blk p (pastL p z f S1) h) p' (pastL p' z' f' S') := fun S1 => past_past a hd
    obtain ⟨S2, e2, h2⟩ := ih (j + 1) n (va_up S1 (q j) (takeS (S' (q' j)) (S1 (q j)))) (by omega) (by omega) (fun i hi => by
      by_cases hij : i = j
      · subst hij
        exact ⟨S1 (q i), by simp [va_up]⟩
      · simp only [va_up]
        rw [if_neg (fun e => hij (hq.2 _ _ (by omega) hj8 e))]
        exact hS i (by omega))
    refine ⟨S2, ?_, h2⟩
    rw [f_X2_take_10, past_f1 (blk_at _ _ _), b_some, if_neg (nI_ge (by omega) (by omega)), past_f0 (blk_at _ _ _), b_some, past_get (blk_at _ _ _) hj8, (hq.1 j hj8).1, b_some, past_f0 (a1 _), b_some, past_get (a1 _) hj8, (hq'.1 j hj8).1, b_some, sn_o (past_sn (blk_at _ _ _) (hq.1 j hj8).2), b_some, g_pastTake (past_sn a (hq'.1 j hj8).2) (by have := (hq'.1 j hj8).2; omega) (hq.1 j hj8).2, b_some, nI_1]
    exact e2
theorem g_ptake {p' z' : Nat} {f' : Nat → Option Nat} {q' : Nat → Nat} {S' : Nat → Blk} (hq : okP p f q) (hq' : okP p' f' q') (hz : z' ≤ 8) (a : At h p' (pastL p' z' f' S')) (hd : p' + 50 ≤ p ∨ p + 50 ≤ p') : ∃ S2, f_X2_take (blk p (pastL p z f S) h) p p' = some (blk p (pastL p z' f S2) h) ∧ ∀ i, i < z' → ∃ u, S2 (q i) = takeS (S' (q' i)) u := by
  obtain ⟨S2, e2, h2⟩ := g_ptakeL (z := z') hq hq' hz a hd S z' 0 lots S (by omega) (by simp only [lots]; omega) (fun i hi => by omega)
  refine ⟨S2, ?_, h2⟩
  rw [nI_0] at e2
  rw [f_X2_take, past_f1 (past_past a hd), b_some, pI, past_size, b_some, e2, b_some]
end
