/-! ===== House and Scene: what they write ===== -/
section
variable {h : Hea} {b bs bt : Nat} {H s t : Blk}
/-- a whole row from another: 6 places -/
theorem cpy_ne {f g : Nat → Int32} {n j : Nat} (h : ¬ j < n) : va_cpy f g 0 0 n j = g j := pk_cpy_out (Or.inr (by omega))
theorem cpy_lt {f g : Nat → Int32} {n j : Nat} (h : j < n) : va_cpy f g 0 0 n j = f j := by rw [pk_cpy_in (Nat.zero_le _) (by omega)]; congr 1; omega
/-- t over s -/
def takeS (t s : Blk) : Blk := (fun k => if k = 0 then t.1 0 else s.1 k, fun j => if j < 5 then va_cpy (t.2 j) (s.2 j) 0 0 6 else s.2 j)
theorem g_takeS (aT : At h bt (snL bt t)) (hd : bt + 6 ≤ bs ∨ bs + 6 ≤ bt) : f_X3_take (blk bs (snL bs s) h) bs bt = some (blk bs (snL bs (takeS t s)) h) := by
  have far : ∀ s : Blk, At (blk bs (snL bs s) h) bt (snL bt t) := fun s => aT.blk (fun k k' e => by
    by_cases h1 : 6 ≤ k
    · left
      obtain ⟨q, rfl⟩ : ∃ q, k = q + 6 := ⟨k - 6, by omega⟩
      rfl
    · right
      obtain ⟨q, rfl⟩ : ∃ q, k' = q + 6 := ⟨k' - 6, by omega⟩
      rfl)
  have cp : ∀ (s : Blk) (j : Nat) (f g : Nat → Int32) (o : Nat), (h6 : (blk bs (snL bs s) h).2 (bt + o) = some (cI 0 6 f)) → ((blk bs (snL bs s) h).2 (bs + o) = some (cI 0 6 g)) → cpI (blk bs (snL bs s) h) (bt + o) (bs + o) 6 = some (hup (blk bs (snL bs s) h) (bs + o) (cI 0 6 (va_cpy f g 0 0 6))) := fun s j f g o h1 h2 => cpI_at (n := 6) h1 h2 (by decide) (by decide) (by decide)
  rw [f_X3_take, sn_f0 (far _), b_some, pI, sn_p0, b_some,
    sn_f1 (far _), b_some, sn_f1 (blk_at _ _ _), b_some, cp _ 0 _ _ _ (sn_c0 (far _)) (sn_c0 (blk_at _ _ _)), b_some, sn_b0,
    sn_f2 (far _), b_some, sn_f2 (blk_at _ _ _), b_some, cp _ 1 _ _ _ (sn_c1 (far _)) (sn_c1 (blk_at _ _ _)), b_some, sn_b1,
    sn_f3 (far _), b_some, sn_f3 (blk_at _ _ _), b_some, cp _ 2 _ _ _ (sn_c2 (far _)) (sn_c2 (blk_at _ _ _)), b_some, sn_b2,
    sn_f4 (far _), b_some, sn_f4 (blk_at _ _ _), b_some, cp _ 3 _ _ _ (sn_c3 (far _)) (sn_c3 (blk_at _ _ _)), b_some, sn_b3,
    sn_f5 (far _), b_some, sn_f5 (blk_at _ _ _), b_some, cp _ 4 _ _ _ (sn_c4 (far _)) (sn_c4 (blk_at _ _ _)), b_some, sn_b4]
  refine congrArg (fun z => some (blk bs (snL bs z) h)) (Prod.ext (funext fun k => ?_) (funext fun j => ?_))
  · simp [takeS, sB_1, sS, upd]
  · simp only [takeS, sB_2, sS_2]
    by_cases h4 : j = 4
    · subst h4; simp
    · by_cases h3 : j = 3
      · subst h3; simp
      · by_cases h2 : j = 2
        · subst h2; simp
        · by_cases h1 : j = 1
          · subst h1; simp
          · by_cases h0 : j = 0
            · subst h0; simp
            · simp [h0, h1, h2, h3, h4, show ¬ j < 5 by omega]
theorem g_creaks (aH : At h b (hoL b H)) {i j : Nat} (hi : i < 8) (hj : j < 8) : f_X1_creaksBetween h b (nI i) (nI j) = some (H.2 1 (i * 8 + j)) := by
  rw [f_X1_creaksBetween, ho_f3 aH, b_some, show (8 : Int32) = nI 8 from rfl, pk_mul, nI_add, ho_m1 aH (by omega), b_some]
theorem g_hang {i j : Nat} (hi : i < 8) (hj : j < 8) {x : Int32} : f_X1_hang (blk b (hhL b H s) h) b (nI i) (nI j) x = some (blk b (hhL b (sA (sA H 1 (i * 8 + j) x) 1 (j * 8 + i) x) s) h) := by
  rw [f_X1_hang, hh_f3 (blk_at _ _ _), b_some, show (8 : Int32) = nI 8 from rfl, pk_mul, nI_add, hh_w2 (by omega), b_some, hh_f3 (blk_at _ _ _), b_some, pk_mul, nI_add, hh_w2 (by omega), b_some]
/-- the first k places of a row -/
def fillK (f : Nat → Int32) (x : Int32) (k : Nat) : Nat → Int32 := fun q => if q < k then x else f q
theorem fillK_s (f : Nat → Int32) (x : Int32) (k : Nat) : upd (fillK f x k) k x = fillK f x (k + 1) := by
  funext q
  simp only [upd, fillK]
  by_cases h1 : q = k
  · simp [h1]
  · by_cases h2 : q < k
    · simp [h1, h2, show q < k + 1 by omega]
    · simp [h1, h2, show ¬ q < k + 1 by omega]
theorem fillK_0 (f : Nat → Int32) (x : Int32) : fillK f x 0 = f := by funext q; simp [fillK]
theorem sA_sB (H : Blk) (k i : Nat) (f : Nat → Int32) (x : Int32) : sA (sB H k f) k i x = sB H k (upd f i x) := by
  refine Prod.ext rfl (funext fun j => ?_)
  simp only [sA, sB]
  by_cases h : j = k <;> simp [h]
theorem sB_self (H : Blk) (k : Nat) : sB H k (H.2 k) = H := by
  refine Prod.ext rfl (funext fun j => ?_)
  simp only [sB]
  by_cases h : j = k <;> simp [h]
theorem g_restart12 : ∀ (k j n : Nat), j + k = 8 → k < n → f_X1_restart_12 n (blk b (hhL b (sB H 0 (fillK (H.2 0) 5 j)) s) h) b (nI j) = some (blk b (hhL b (sB H 0 (fillK (H.2 0) 5 8)) s) h) := by
  intro k
  induction k with
  | zero =>
    intro j n hj hn
    obtain ⟨n, rfl⟩ : ∃ q, n = q + 1 := ⟨n - 1, by omega⟩
    rw [f_X1_restart_12, if_pos (show (8 : Int32) ≤ nI j from nI_le (a := 8) (by omega) (by omega)), show j = 8 by omega]
  | succ k ih =>
    intro j n hj hn
    obtain ⟨n, rfl⟩ : ∃ q, n = q + 1 := ⟨n - 1, by omega⟩
    rw [f_X1_restart_12, if_neg (show ¬ (8 : Int32) ≤ nI j from nI_ge (b := 8) (by omega) (by omega)), hh_f2 (blk_at _ _ _), b_some, hh_w1 (by omega), b_some, nI_1, sA_sB, fillK_s, ih (j + 1) n (by omega) (by omega)]
theorem g_restart33 : ∀ (k j n : Nat), j + k = 64 → k < n → f_X1_restart_33 n (blk b (hhL b (sB H 1 (fillK (H.2 1) 0 j)) s) h) b (nI j) = some (blk b (hhL b (sB H 1 (fillK (H.2 1) 0 64)) s) h) := by
  intro k
  induction k with
  | zero =>
    intro j n hj hn
    obtain ⟨n, rfl⟩ : ∃ q, n = q + 1 := ⟨n - 1, by omega⟩
    rw [f_X1_restart_33, if_pos (show (64 : Int32) ≤ nI j from nI_le (a := 64) (by omega) (by omega)), show j = 64 by omega]
  | succ k ih =>
    intro j n hj hn
    obtain ⟨n, rfl⟩ : ∃ q, n = q + 1 := ⟨n - 1, by omega⟩
    rw [f_X1_restart_33, if_neg (show ¬ (64 : Int32) ≤ nI j from nI_ge (b := 64) (by omega) (by omega)), hh_f3 (blk_at _ _ _), b_some, hh_w2 (by omega), b_some, nI_1, sA_sB, fillK_s, ih (j + 1) n (by omega) (by omega)]
/-- a house begun anew -/
def beginH (H : Blk) (e r : Int32) : Blk := sS (sS (sS (sA (sB (sB (sS (sS H 0 e) 1 r) 0 (fillK (H.2 0) 5 8)) 1 (fillK (H.2 1) 0 64)) 2 0 0) 2 1) 3 0) 4 0
theorem g_restart {e r : Int32} : f_X1_restart (blk b (hhL b H s) h) b e r = some (blk b (hhL b (beginH H e r) (sS s 0 0)) h) := by
  have r12 := g_restart12 (h := h) (b := b) (H := sS (sS H 0 e) 1 r) (s := s) 8 0 lots (by omega) (by simp only [lots]; omega)
  have r33 := g_restart33 (h := h) (b := b) (H := sB (sS (sS H 0 e) 1 r) 0 (fillK (H.2 0) 5 8)) (s := s) 64 0 lots (by omega) (by simp only [lots]; omega)
  rw [fillK_0, sB_self, nI_0] at r12
  rw [fillK_0, sB_self, nI_0] at r33
  have w3 := hh_w3 (h := h) (b := b) (H := sB (sB (sS (sS H 0 e) 1 r) 0 (fillK (H.2 0) 5 8)) 1 (fillK (H.2 1) 0 64)) (s := s) (i := 0) (x := 0) (by decide)
  rw [nI_0] at w3
  rw [f_X1_restart, pI, hh_p0, b_some, pI, hh_p1, b_some, r12, b_some, show (sS (sS H 0 e) 1 r).2 0 = H.2 0 from rfl, r33, b_some, hh_f4 (blk_at _ _ _), b_some, show (sB (sS (sS H 0 e) 1 r) 0 (fillK (H.2 0) 5 8)).2 1 = H.2 1 from rfl, w3, b_some, pI, hh_p5, b_some, pI, hh_p6, b_some, hh_f9 (blk_at _ _ _), b_some, pI, hh_p6_0, b_some, pI, hh_p10, b_some]
  rfl
end
theorem blk_sub {b o : Nat} {f g f' : Nat → Option Cel} {h : Hea} (hf : ∀ k, f' k = if o ≤ k then (match g (k - o) with | some c => some c | none => f k) else f k) : blk (b + o) g (blk b f h) = blk b f' h := by
  refine Prod.ext rfl (funext fun q => ?_)
  by_cases hb : b ≤ q
  · by_cases ho : b + o ≤ q
    · simp only [blk, if_pos hb, if_pos ho, hf (q - b), if_pos (show o ≤ q - b by omega)]
      rw [show q - (b + o) = q - b - o by omega]
      cases g (q - b - o) <;> rfl
    · simp only [blk, if_pos hb, if_neg ho, hf (q - b), if_neg (show ¬ o ≤ q - b by omega)]
  · simp only [blk, if_neg hb, if_neg (show ¬ b + o ≤ q by omega)]
section
variable {h : Hea} {b b' : Nat} {H H' s s' : Blk}
theorem hh_ho (a : At h b (hhL b H s)) : At h b (hoL b H) := fun k c e => a k c (by
  revert e
  match k with
  | 0 => exact id
  | 1 => exact id
  | 2 => exact id
  | 3 => exact id
  | 4 => exact id
  | 5 => exact id
  | 6 => exact fun e => by cases e
  | 7 => exact fun e => by cases e
  | 8 => exact fun e => by cases e
  | 9 => exact fun e => by cases e
  | 10 => exact fun e => by cases e
  | 11 => exact fun e => by cases e
  | 12 => exact id
  | 13 => exact id
  | 14 => exact id
  | k + 15 => exact fun e => by cases e)
theorem hh_sn (a : At h b (hhL b H s)) : At h (b + 6) (snL (b + 6) s) := fun k c e => by
  rw [Nat.add_assoc]
  refine a (6 + k) c ?_
  revert e
  match k with
  | 0 => exact id
  | 1 => exact id
  | 2 => exact id
  | 3 => exact id
  | 4 => exact id
  | 5 => exact id
  | k + 6 => exact fun e => by cases e
theorem hh_put : blk (b + 6) (snL (b + 6) s') (blk b (hhL b H s) h) = blk b (hhL b H s') h := blk_sub (fun k => by
  match k with
  | 0 => rfl
  | 1 => rfl
  | 2 => rfl
  | 3 => rfl
  | 4 => rfl
  | 5 => rfl
  | 6 => rfl
  | 7 => rfl
  | 8 => rfl
  | 9 => rfl
  | 10 => rfl
  | 11 => rfl
  | 12 => rfl
  | 13 => rfl
  | 14 => rfl
  | k + 15 => rfl)
theorem hh_far (a : At h b' (hhL b' H' s')) (hd : b' + 15 ≤ b ∨ b + 15 ≤ b') : At (blk b (hhL b H s) h) b' (hhL b' H' s') := a.blk (fun k k' e => by
  by_cases h1 : 15 ≤ k
  · exact Or.inl (hh_hi h1)
  · exact Or.inr (hh_hi (by omega)))
theorem g_bring {m : Nat} (hm : H.1 3 = nI m) (h6 : m < 6) {k r p : Int32} : f_X1_bring (blk b (hhL b H s) h) b k r p = some (nI m, blk b (hhL b (sS (sA (sA H 3 m k) 4 m p) 3 (nI (m + 1))) (sA (sA (sA (sA (sA s 0 m r) 1 m 0) 2 m 0) 3 m (-1)) 4 m 0)) h) := by
  have pl := g_place (h := blk b (hhL b (sA (sA H 3 m k) 4 m p) s) h) (bs := b + 6) (s := s) (i := m) h6 r
  rw [hh_put, hh_put] at pl
  rw [f_X1_bring, hh_f6 (blk_at _ _ _), b_some, hm, hh_f7 (blk_at _ _ _), b_some, hh_w4 h6, b_some, hh_f8 (blk_at _ _ _), b_some, hh_w5 h6, b_some, hh_f9 (blk_at _ _ _), b_some, hh_o6 (blk_at _ _ _), b_some, pl, b_some, hh_f6 (blk_at _ _ _), b_some, pI, hh_p6, b_some, sA_1, sA_1, hm, nI_1]
theorem g_witness {m : Nat} (hm : H.1 4 = nI m) (h6 : m < 6) {k r p : Int32} : f_X1_witness (blk b (hhL b H s) h) b k r p = some (nI (m + 1), blk b (hhL b (sS (sA (sA (sA H 5 m k) 6 m r) 7 m p) 4 (nI (m + 1))) s) h) := by
  rw [f_X1_witness, hh_f11 (blk_at _ _ _), b_some, hh_f10 (blk_at _ _ _), b_some, hm, hh_w12 h6, b_some, hh_f12 (blk_at _ _ _), b_some, hh_f10 (blk_at _ _ _), b_some, sA_1, hm, hh_w13 h6, b_some, hh_f13 (blk_at _ _ _), b_some, hh_f10 (blk_at _ _ _), b_some, sA_1, sA_1, hm, hh_w14 h6, b_some, hh_f10 (blk_at _ _ _), b_some, pI, hh_p10, b_some, hh_f10 (blk_at _ _ _), b_some, sA_1, sA_1, sA_1, hm, nI_1]
  rfl
/-- the house T over H -/
def takeH (T H : Blk) : Blk := (fun k => if k < 5 then T.1 k else H.1 k, fun j => if j = 0 then va_cpy (T.2 0) (H.2 0) 0 0 8 else if j = 1 then va_cpy (T.2 1) (H.2 1) 0 0 64 else if j = 2 then va_cpy (T.2 2) (H.2 2) 0 0 12 else if j < 8 then va_cpy (T.2 j) (H.2 j) 0 0 6 else H.2 j)
theorem g_takeH {T t : Blk} (aT : At h b' (hhL b' T t)) (hd : b' + 15 ≤ b ∨ b + 15 ≤ b') : f_X1_take (blk b (hhL b H s) h) b b' = some (blk b (hhL b (takeH T H) (takeS t s)) h) := by
  have far : ∀ H s : Blk, At (blk b (hhL b H s) h) b' (hhL b' T t) := fun H s => hh_far aT hd
  have cp : ∀ (H s : Blk) (f g : Nat → Int32) (o n : Nat), n < 2147483648 → (blk b (hhL b H s) h).2 (b' + o) = some (cI 0 n f) → (blk b (hhL b H s) h).2 (b + o) = some (cI 0 n g) → cpI (blk b (hhL b H s) h) (b' + o) (b + o) (nI n) = some (hup (blk b (hhL b H s) h) (b + o) (cI 0 n (va_cpy f g 0 0 n))) := fun H s f g o n hn h1 h2 => cpI_at h1 h2 (Nat.le_refl _) (Nat.le_refl _) hn
  have tk : ∀ H : Blk, f_X3_take (blk b (hhL b H s) h) (b + 6) (b' + 6) = some (blk b (hhL b H (takeS t s)) h) := fun H => by
    have := g_takeS (h := blk b (hhL b H s) h) (bs := b + 6) (bt := b' + 6) (s := s) (t := t) (hh_sn (far H s)) (by omega)
    rw [hh_put, hh_put] at this
    exact this
  rw [f_X1_take, hh_f0 (far _ _), b_some, pI, hh_p0, b_some, hh_f1 (far _ _), b_some, pI, hh_p1, b_some,
    hh_f2 (far _ _), b_some, hh_f2 (blk_at _ _ _), b_some, show (8 : Int32) = nI 8 from rfl, cp _ _ _ _ _ 8 (by decide) (hh_k1 (far _ _)) (hh_k1 (blk_at _ _ _)), b_some, hh_b1,
    hh_f3 (far _ _), b_some, hh_f3 (blk_at _ _ _), b_some, show (64 : Int32) = nI 64 from rfl, cp _ _ _ _ _ 64 (by decide) (hh_k2 (far _ _)) (hh_k2 (blk_at _ _ _)), b_some, hh_b2,
    hh_f4 (far _ _), b_some, hh_f4 (blk_at _ _ _), b_some, show (12 : Int32) = nI 12 from rfl, cp _ _ _ _ _ 12 (by decide) (hh_k3 (far _ _)) (hh_k3 (blk_at _ _ _)), b_some, hh_b3,
    hh_f5 (far _ _), b_some, pI, hh_p5, b_some, hh_f6 (far _ _), b_some, pI, hh_p6, b_some,
    hh_f7 (far _ _), b_some, hh_f7 (blk_at _ _ _), b_some, show (6 : Int32) = nI 6 from rfl, cp _ _ _ _ _ 6 (by decide) (hh_k4 (far _ _)) (hh_k4 (blk_at _ _ _)), b_some, hh_b4,
    hh_f8 (far _ _), b_some, hh_f8 (blk_at _ _ _), b_some, cp _ _ _ _ _ 6 (by decide) (hh_k5 (far _ _)) (hh_k5 (blk_at _ _ _)), b_some, hh_b5,
    hh_f9 (blk_at _ _ _), b_some, hh_f9 (far _ _), b_some, hh_o6 (blk_at _ _ _), b_some, tk, b_some,
    hh_f10 (far _ _), b_some, pI, hh_p10, b_some,
    hh_f11 (far _ _), b_some, hh_f11 (blk_at _ _ _), b_some, cp _ _ _ _ _ 6 (by decide) (hh_k12 (far _ _)) (hh_k12 (blk_at _ _ _)), b_some, hh_b12,
    hh_f12 (far _ _), b_some, hh_f12 (blk_at _ _ _), b_some, cp _ _ _ _ _ 6 (by decide) (hh_k13 (far _ _)) (hh_k13 (blk_at _ _ _)), b_some, hh_b13,
    hh_f13 (far _ _), b_some, hh_f13 (blk_at _ _ _), b_some, cp _ _ _ _ _ 6 (by decide) (hh_k14 (far _ _)) (hh_k14 (blk_at _ _ _)), b_some, hh_b14]
  refine congrArg (fun z => some (blk b (hhL b z (takeS t s)) h)) (Prod.ext (funext fun k => ?_) (funext fun j => ?_))
  · simp only [takeH, sB_1, sS, upd]
    by_cases h4 : k = 4
    · subst h4; simp
    · by_cases h3 : k = 3
      · subst h3; simp
      · by_cases h2 : k = 2
        · subst h2; simp
        · by_cases h1 : k = 1
          · subst h1; simp
          · by_cases h0 : k = 0
            · subst h0; simp
            · simp [h0, h1, h2, h3, h4, show ¬ k < 5 by omega]
  · simp only [takeH, sB_2, sS_2]
    rcases (show j = 0 ∨ j = 1 ∨ j = 2 ∨ j = 3 ∨ j = 4 ∨ j = 5 ∨ j = 6 ∨ j = 7 ∨ 8 ≤ j by omega) with e | e | e | e | e | e | e | e | e
    · subst e; simp
    · subst e; simp
    · subst e; simp
    · subst e; simp
    · subst e; simp
    · subst e; simp
    · subst e; simp
    · subst e; simp
    · simp [show ¬ j = 0 by omega, show ¬ j = 1 by omega, show ¬ j = 2 by omega, show ¬ j = 3 by omega, show ¬ j = 4 by omega, show ¬ j = 5 by omega, show ¬ j = 6 by omega, show ¬ j = 7 by omega, show ¬ j < 8 by omega]
/-- how many of the first k are so -/
def cntF (P : Nat → Bool) : Nat → Nat
  | 0 => 0
  | n + 1 => if P n then cntF P n + 1 else cntF P n
theorem cntF_le (P : Nat → Bool) : ∀ n, cntF P n ≤ n
  | 0 => Nat.le_refl 0
  | n + 1 => by
    have := cntF_le P n
    simp only [cntF]
    split <;> omega
theorem g_heirsThatL {bh bs : Nat} {x : Int32} (aH : At h bh (hoL bh H)) (aS : At h bs (snL bs s)) (wH : wfH H) : ∀ (k j n : Nat), j + k = hM H → k < n →
    f_X1_heirsThat_5 n h bh bs x (nI (cntF (fun q => decide (s.2 2 q = x)) j)) (nI j) = some (nI (cntF (fun q => decide (s.2 2 q = x)) (hM H))) := by
  have hm := wH.2.1
  intro k
  induction k with
  | zero =>
    intro j n hj hn
    obtain ⟨n, rfl⟩ : ∃ q, n = q + 1 := ⟨n - 1, by omega⟩
    rw [f_X1_heirsThat_5, ho_f6 aH, b_some, wH.1, if_pos (nI_le (by omega) (by omega)), show j = hM H by omega]
  | succ k ih =>
    intro j n hj hn
    obtain ⟨n, rfl⟩ : ∃ q, n = q + 1 := ⟨n - 1, by omega⟩
    have hj6 : j < 6 := by omega
    rw [f_X1_heirsThat_5, ho_f6 aH, b_some, wH.1, if_neg (nI_ge (by omega) (by omega)), sn_f3 aS, b_some, sn_m2 aS hj6, b_some, nI_1, nI_1, ← ih (j + 1) n (by omega) (by omega), cntF]
    by_cases h2 : s.2 2 j = x
    · rw [if_pos h2, b_some, if_pos (by simp [h2])]
    · rw [if_neg h2, b_some, if_neg (by simp [h2])]
theorem g_heirsThat {bh bs : Nat} {x : Int32} (aH : At h bh (hoL bh H)) (aS : At h bs (snL bs s)) (wH : wfH H) : f_X1_heirsThat h bh bs x = some (nI (cntF (fun q => decide (s.2 2 q = x)) (hM H))) := by
  have := g_heirsThatL (x := x) aH aS wH (hM H) 0 lots (by omega) (by have := wH.2.1; simp only [lots]; omega)
  rw [show cntF (fun q => decide (s.2 2 q = x)) 0 = 0 from rfl, nI_0] at this
  rw [f_X1_heirsThat, this, b_some]
end
