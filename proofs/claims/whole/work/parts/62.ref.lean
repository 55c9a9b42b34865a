/-! ===== the reference: what it reads ===== -/
def hS (H : Blk) : Nat := (H.1 4).toNatClampNeg
def hR (H : Blk) (N : Nat → Int32) : Prop :=
  N 0 = H.1 3 ∧ N 1 = H.1 0 ∧ N 2 = H.1 1 ∧ N 4 = H.1 2 ∧ N 5 = H.1 4 ∧ (∀ q, q < 8 → N (7 + q) = H.2 0 q) ∧ (∀ q, q < 64 → N (15 + q) = H.2 1 q) ∧ (∀ q, q < hL H → N (79 + q) = H.2 2 q) ∧
  (∀ i, i < hM H → N (91 + 7 * i) = H.2 3 i ∧ N (91 + 7 * i + 2) = H.2 4 i) ∧ (∀ q, q < hS H → N (133 + 3 * q) = H.2 5 q ∧ N (133 + 3 * q + 1) = H.2 6 q ∧ N (133 + 3 * q + 2) = H.2 7 q)
def sR (H s : Blk) (N : Nat → Int32) : Prop := N 3 = s.1 0 ∧ ∀ i, i < hM H → N (91 + 7 * i + 1) = s.2 0 i ∧ N (91 + 7 * i + 3) = s.2 1 i ∧ N (91 + 7 * i + 4) = s.2 2 i ∧ N (91 + 7 * i + 5) = s.2 3 i ∧ N (91 + 7 * i + 6) = s.2 4 i
def hdR (H s m : Blk) : Prop := m.1 0 = s.1 0 ∧ ∀ i, i < hM H → m.2 4 i = s.2 0 i ∧ m.2 5 i = s.2 1 i ∧ m.2 6 i = s.2 2 i ∧ m.2 7 i = s.2 3 i
def SmH (m m' : Blk) : Prop := (∀ k, 2 ≤ k → m'.1 k = m.1 k) ∧ ∀ j, j < 4 ∨ 9 ≤ j → m'.2 j = m.2 j
theorem SmH.refl (m : Blk) : SmH m m := ⟨fun _ _ => rfl, fun _ _ => rfl⟩
theorem SmH.trans {m m' m'' : Blk} (a : SmH m m') (c : SmH m' m'') : SmH m m'' := ⟨fun k hk => (c.1 k hk).trans (a.1 k hk), fun j hj => (c.2 j hj).trans (a.2 j hj)⟩
theorem SmH.now {m m' : Blk} (a : SmH m m') : m'.2 0 = m.2 0 := a.2 0 (by omega)
theorem sA_row {m : Blk} {k i j : Nat} {x : Int32} (h : ¬ j = k) : (sA m k i x).2 j = m.2 j := by simp [sA, h]
theorem SmH.sA {m m' : Blk} (a : SmH m m') {j i : Nat} {x : Int32} (hj : 4 ≤ j ∧ j < 9) : SmH m (sA m' j i x) := ⟨a.1, fun k hk => by rw [sA_row (by omega)]; exact a.2 k hk⟩
theorem SmH.sS {m m' : Blk} (a : SmH m m') {k : Nat} {x : Int32} (hk : k < 2) : SmH m (sS m' k x) := ⟨fun j hj => by rw [sS_1, if_neg (by omega)]; exact a.1 j hj, a.2⟩
section
variable {h : Hea} {b : Nat} {m : Blk} {l : Nat → Int64} {r : Nat → Nat → Int64}
theorem ln_0 (a : At h b (mdL b m l r)) : ldI h 0 (b + 1) 0 = some (m.2 0 0) := md_m1 (i := 0) a (by omega)
theorem ln_1 (a : At h b (mdL b m l r)) : ldI h 0 (b + 1) 1 = some (m.2 0 1) := md_m1 (i := 1) a (by omega)
theorem ln_2 (a : At h b (mdL b m l r)) : ldI h 0 (b + 1) 2 = some (m.2 0 2) := md_m1 (i := 2) a (by omega)
theorem ln_3 (a : At h b (mdL b m l r)) : ldI h 0 (b + 1) 3 = some (m.2 0 3) := md_m1 (i := 3) a (by omega)
theorem ln_4 (a : At h b (mdL b m l r)) : ldI h 0 (b + 1) 4 = some (m.2 0 4) := md_m1 (i := 4) a (by omega)
theorem ln_5 (a : At h b (mdL b m l r)) : ldI h 0 (b + 1) 5 = some (m.2 0 5) := md_m1 (i := 5) a (by omega)
theorem ln_6 (a : At h b (mdL b m l r)) : ldI h 0 (b + 1) 6 = some (m.2 0 6) := md_m1 (i := 6) a (by omega)
theorem wn_1 {x : Int32} : stI (blk b (mdL b m l r) h) 0 (b + 1) 1 x = some (blk b (mdL b (sA m 0 1 x) l r) h) := md_w1 (i := 1) (by omega)
theorem wn_2 {x : Int32} : stI (blk b (mdL b m l r) h) 0 (b + 1) 2 x = some (blk b (mdL b (sA m 0 2 x) l r) h) := md_w1 (i := 2) (by omega)
theorem wn_3 {x : Int32} : stI (blk b (mdL b m l r) h) 0 (b + 1) 3 x = some (blk b (mdL b (sA m 0 3 x) l r) h) := md_w1 (i := 3) (by omega)
theorem wn_4 {x : Int32} : stI (blk b (mdL b m l r) h) 0 (b + 1) 4 x = some (blk b (mdL b (sA m 0 4 x) l r) h) := md_w1 (i := 4) (by omega)
theorem wn_5 {x : Int32} : stI (blk b (mdL b m l r) h) 0 (b + 1) 5 x = some (blk b (mdL b (sA m 0 5 x) l r) h) := md_w1 (i := 5) (by omega)
theorem wn_6 {x : Int32} : stI (blk b (mdL b m l r) h) 0 (b + 1) 6 x = some (blk b (mdL b (sA m 0 6 x) l r) h) := md_w1 (i := 6) (by omega)
theorem wn_79 {x : Int32} : stI (blk b (mdL b m l r) h) 0 (b + 1) 79 x = some (blk b (mdL b (sA m 0 79 x) l r) h) := md_w1 (i := 79) (by omega)
theorem ix_91 (i j : Nat) : (91 + 7 * nI i) + nI j = nI (91 + 7 * i + j) := by
  rw [show (91 : Int32) = nI 91 from rfl, show (7 : Int32) = nI 7 from rfl, pk_mul, nI_add, nI_add]
theorem g8_heirs (a : At h b (mdL b m l r)) : f_X8_heirs h b = some (m.2 0 0) := by rw [f_X8_heirs, md_f0 a, b_some, ln_0 a, b_some]
theorem g8_get0 (a : At h b (mdL b m l r)) {i : Nat} (hi : i < 6) : f_X8_get h b (nI i) 0 = some (m.2 0 (91 + 7 * i + 0)) := by
  rw [f_X8_get, md_f0 a, b_some, show (0 : Int32) = nI 0 from rfl, ix_91, md_m1 a (by omega), b_some]
theorem g8_get1 (a : At h b (mdL b m l r)) {i : Nat} (hi : i < 6) : f_X8_get h b (nI i) 1 = some (m.2 0 (91 + 7 * i + 1)) := by
  rw [f_X8_get, md_f0 a, b_some, show (1 : Int32) = nI 1 from rfl, ix_91, md_m1 a (by omega), b_some]
theorem g8_get2 (a : At h b (mdL b m l r)) {i : Nat} (hi : i < 6) : f_X8_get h b (nI i) 2 = some (m.2 0 (91 + 7 * i + 2)) := by
  rw [f_X8_get, md_f0 a, b_some, show (2 : Int32) = nI 2 from rfl, ix_91, md_m1 a (by omega), b_some]
theorem g8_get3 (a : At h b (mdL b m l r)) {i : Nat} (hi : i < 6) : f_X8_get h b (nI i) 3 = some (m.2 0 (91 + 7 * i + 3)) := by
  rw [f_X8_get, md_f0 a, b_some, show (3 : Int32) = nI 3 from rfl, ix_91, md_m1 a (by omega), b_some]
theorem g8_get4 (a : At h b (mdL b m l r)) {i : Nat} (hi : i < 6) : f_X8_get h b (nI i) 4 = some (m.2 0 (91 + 7 * i + 4)) := by
  rw [f_X8_get, md_f0 a, b_some, show (4 : Int32) = nI 4 from rfl, ix_91, md_m1 a (by omega), b_some]
theorem g8_get5 (a : At h b (mdL b m l r)) {i : Nat} (hi : i < 6) : f_X8_get h b (nI i) 5 = some (m.2 0 (91 + 7 * i + 5)) := by
  rw [f_X8_get, md_f0 a, b_some, show (5 : Int32) = nI 5 from rfl, ix_91, md_m1 a (by omega), b_some]
theorem g8_get6 (a : At h b (mdL b m l r)) {i : Nat} (hi : i < 6) : f_X8_get h b (nI i) 6 = some (m.2 0 (91 + 7 * i + 6)) := by
  rw [f_X8_get, md_f0 a, b_some, show (6 : Int32) = nI 6 from rfl, ix_91, md_m1 a (by omega), b_some]
theorem g8_getN (a : At h b (mdL b m l r)) {i j : Nat} (hi : i < 6) (hj : j < 7) : f_X8_get h b (nI i) (nI j) = some (m.2 0 (91 + 7 * i + j)) := by
  rw [f_X8_get, md_f0 a, b_some, ix_91, md_m1 a (by omega), b_some]
theorem g8_set1 {i : Nat} {x : Int32} (hi : i < 6) : f_X8_set (blk b (mdL b m l r) h) b (nI i) 1 x = some (blk b (mdL b (sA m 0 (91 + 7 * i + 1) x) l r) h) := by
  rw [f_X8_set, md_f0 (blk_at _ _ _), b_some, show (1 : Int32) = nI 1 from rfl, ix_91, md_w1 (by omega), b_some]
theorem g8_set3 {i : Nat} {x : Int32} (hi : i < 6) : f_X8_set (blk b (mdL b m l r) h) b (nI i) 3 x = some (blk b (mdL b (sA m 0 (91 + 7 * i + 3) x) l r) h) := by
  rw [f_X8_set, md_f0 (blk_at _ _ _), b_some, show (3 : Int32) = nI 3 from rfl, ix_91, md_w1 (by omega), b_some]
theorem g8_set4 {i : Nat} {x : Int32} (hi : i < 6) : f_X8_set (blk b (mdL b m l r) h) b (nI i) 4 x = some (blk b (mdL b (sA m 0 (91 + 7 * i + 4) x) l r) h) := by
  rw [f_X8_set, md_f0 (blk_at _ _ _), b_some, show (4 : Int32) = nI 4 from rfl, ix_91, md_w1 (by omega), b_some]
theorem g8_set5 {i : Nat} {x : Int32} (hi : i < 6) : f_X8_set (blk b (mdL b m l r) h) b (nI i) 5 x = some (blk b (mdL b (sA m 0 (91 + 7 * i + 5) x) l r) h) := by
  rw [f_X8_set, md_f0 (blk_at _ _ _), b_some, show (5 : Int32) = nI 5 from rfl, ix_91, md_w1 (by omega), b_some]
theorem g8_set6 {i : Nat} {x : Int32} (hi : i < 6) : f_X8_set (blk b (mdL b m l r) h) b (nI i) 6 x = some (blk b (mdL b (sA m 0 (91 + 7 * i + 6) x) l r) h) := by
  rw [f_X8_set, md_f0 (blk_at _ _ _), b_some, show (6 : Int32) = nI 6 from rfl, ix_91, md_w1 (by omega), b_some]
theorem g8_setN {i j : Nat} {x : Int32} (hi : i < 6) (hj : j < 7) : f_X8_set (blk b (mdL b m l r) h) b (nI i) (nI j) x = some (blk b (mdL b (sA m 0 (91 + 7 * i + j) x) l r) h) := by
  rw [f_X8_set, md_f0 (blk_at _ _ _), b_some, ix_91, md_w1 (by omega), b_some]
theorem g8_creaks {H : Blk} (a : At h b (mdL b m l r)) (hN : hR H (m.2 0)) {i j : Nat} (hi : i < 8) (hj : j < 8) : f_X8_creaks h b (nI i) (nI j) = some (H.2 1 (i * 8 + j)) := by
  rw [f_X8_creaks, md_f0 a, b_some, show (15 : Int32) = nI 15 from rfl, show (8 : Int32) = nI 8 from rfl, pk_mul, nI_add, nI_add, md_m1 a (by omega), b_some, show 15 + 8 * i + j = 15 + (i * 8 + j) by omega, hN.2.2.2.2.2.2.1 _ (by omega)]
theorem bz (c : Bool) : zb (if c = true then 1 else 0) = some (if c = true then 1 else 0) := by cases c <;> rfl
theorem g8_other4 {H s : Blk} (hN : hR H (m.2 0)) (hd : hdR H s m) (wH : wfH H) {i : Nat} (hi : i < hM H) : ∀ (k j n : Nat) (c : Bool), j + k = hM H → k < n → f_X8_isOther_4 n (blk b (mdL b m l r) h) b (nI i) (if c = true then 1 else 0) (nI j) = some (if (c || anyF (fun j => decide (¬ j = i ∧ s.2 2 j = 0 ∧ s.2 0 j = s.2 0 i)) j k) = true then 1 else 0) := by
  have hm := wH.2.1
  have hi6 : i < 6 := by omega
  intro k
  induction k with
  | zero =>
    intro j n c hj hn
    obtain ⟨n, rfl⟩ : ∃ q, n = q + 1 := ⟨n - 1, by omega⟩
    rw [f_X8_isOther_4, md_o (blk_at _ _ _), b_some, g8_heirs (blk_at _ _ _), b_some, hN.1, wH.1, if_pos (nI_le (by omega) (by omega)), anyF, Bool.or_false]
  | succ k ih =>
    intro j n c hj hn
    obtain ⟨n, rfl⟩ : ∃ q, n = q + 1 := ⟨n - 1, by omega⟩
    have hj6 : j < 6 := by omega
    rw [f_X8_isOther_4, md_o (blk_at _ _ _), b_some, g8_heirs (blk_at _ _ _), b_some, hN.1, wH.1, if_neg (nI_ge (by omega) (by omega)), md_f10 (blk_at _ _ _), b_some, md_m7 (blk_at _ _ _) hj6, b_some, md_f8 (blk_at _ _ _), b_some, md_m5 (blk_at _ _ _) hj6, b_some, b_some, md_m5 (blk_at _ _ _) hi6, b_some, (hd.2 j (by omega)).2.2.1, (hd.2 j (by omega)).1, (hd.2 i hi).1, nI_1, anyF]
    have key : (if (if c = true then (1 : Int32) else 0) = 0 then (if nI j = nI i then some (0 : Int32) else if s.2 2 j = 0 then (if s.2 0 j = s.2 0 i then some 1 else some 0) else some 0) else some 1) = some (if (c || decide (¬ j = i ∧ s.2 2 j = 0 ∧ s.2 0 j = s.2 0 i)) = true then 1 else 0) := by
      cases c with
      | true => rfl
      | false =>
        simp only [nI_eq (show j < 2 ^ 31 by omega) (show i < 2 ^ 31 by omega)]
        by_cases h1 : j = i
        · simp [h1]
        · by_cases h2 : s.2 2 j = 0
          · by_cases h3 : s.2 0 j = s.2 0 i
            · simp [h1, h2, h3]
            · simp [h1, h2, h3]
          · simp [h1, h2]
    rw [key, b_some, ih (j + 1) n _ (by omega) (by omega), Bool.or_assoc]
theorem g8_other {H s : Blk} (hN : hR H (m.2 0)) (hd : hdR H s m) (wH : wfH H) {i : Nat} (hi : i < hM H) : f_X8_isOther (blk b (mdL b m l r) h) b (nI i) = some (if comp H s i = true then 1 else 0) := by
  have := g8_other4 (h := h) (b := b) (l := l) (r := r) hN hd wH hi (hM H) 0 lots false (by omega) (by have := wH.2.1; simp only [lots]; omega)
  rw [nI_0] at this
  rw [f_X8_isOther, show (0 : Int32) = (if false = true then 1 else 0) from rfl]
  rw [show (if false = true then (1 : Int32) else 0) = 0 from rfl] at this ⊢
  rw [this, b_some, Bool.false_or]
  exact bz _
theorem g8_least (x y : Int32) : f_X8_least x y = some (if y ≤ x then y else x) := by
  rw [f_X8_least]
  split <;> rfl
theorem g8_most (x y : Int32) : f_X8_most x y = some (if x ≤ y then y else x) := by
  rw [f_X8_most]
  split <;> rfl
theorem le5_v (x : Int32) : (if x ≤ 5 then x else 5) = le5 x := by
  rw [le5]
  by_cases h1 : x < 5
  · rw [if_pos h1, if_pos (Int32.le_of_lt h1)]
  · by_cases h2 : x ≤ 5
    · rw [if_neg h1, if_pos h2]; exact Int32.le_antisymm h2 (Int32.not_lt.mp h1)
    · rw [if_neg h1, if_neg h2]
theorem pos0_v (x : Int32) : (if 0 ≤ x then x else 0) = pos0 x := by
  rw [pos0]
  by_cases h1 : 0 < x
  · rw [if_pos h1, if_pos (Int32.le_of_lt h1)]
  · by_cases h2 : 0 ≤ x
    · rw [if_neg h1, if_pos h2]; exact Int32.le_antisymm (Int32.not_lt.mp h1) h2
    · rw [if_neg h1, if_neg h2]
theorem min_v (x y : Int32) : (if y ≤ x then y else x) = if x < y then x else y := by
  by_cases h1 : x < y
  · rw [if_pos h1, if_neg (Int32.not_le.mpr h1)]
  · rw [if_neg h1, if_pos (Int32.not_lt.mp h1)]
theorem g8_hidden {H s : Blk} (hN : hR H (m.2 0)) (hd : hdR H s m) (wH : wfH H) {i : Nat} (hi : i < hM H) (hr : inR (s.2 0 i) 8 = true) : f_X8_hiddenOf (blk b (mdL b m l r) h) b (nI i) = some (hid H s i) := by
  have hm := wH.2.1
  have hi6 : i < 6 := by omega
  obtain ⟨er, hlt⟩ := inR_cl hr (by omega)
  have hx : (7 : Int32) + s.2 0 i = nI (7 + (s.2 0 i).toNatClampNeg) := by
    rw [show (7 : Int32) = nI 7 from rfl]
    conv => lhs; rw [er]
    rw [nI_add]
  obtain ⟨d0, d1, d2, d3⟩ := hd.2 i hi
  obtain ⟨n0, n2⟩ := hN.2.2.2.2.2.2.2.2.1 i hi
  rw [f_X8_hiddenOf, md_f0 (blk_at _ _ _), b_some, md_f8 (blk_at _ _ _), b_some, md_m5 (blk_at _ _ _) hi6, b_some, d0, hx, md_m1 (blk_at _ _ _) (by omega), b_some, hN.2.2.2.2.2.1 _ hlt, md_o (blk_at _ _ _), b_some, g8_get2 (blk_at _ _ _) hi6, b_some, n2, md_f9 (blk_at _ _ _), b_some, md_m6 (blk_at _ _ _) hi6, b_some, d1, g8_least, b_some, le5_v, g8_most, b_some, pos0_v, b_some, g8_get0 (blk_at _ _ _) hi6, b_some, Nat.add_zero, n0]
  simp only [b_some, g8_other hN hd wH hi, md_m6 (blk_at b (mdL b m l r) h) hi6, ln_2 (blk_at b (mdL b m l r) h), d1, g8_least, g8_most, min_v, pos0_v, hN.2.2.1]
  unfold hid plainOf
  by_cases h1 : H.2 3 i = 1
  · simp only [h1, if_true]
  · by_cases h2 : H.2 3 i = 2
    · cases comp H s i <;> simp [h2]
    · by_cases h3 : H.2 3 i = 3
      · simp only [h3, if_true]; rfl
      · by_cases h4 : H.2 3 i = 4
        · by_cases h0 : s.2 1 i = 0
          · simp only [h4, h0, if_true]; rfl
          · simp only [h4, h0, if_true, if_false]; rfl
        · by_cases h5 : H.2 3 i = 5
          · simp only [h5, if_true]; rfl
          · simp only [h1, h2, h3, h4, h5, if_false]
theorem g8_looks {H : Blk} (a : At h b (mdL b m l r)) (hN : hR H (m.2 0)) (wH : wfH H) {n : Nat} (hn : n < 1000000) : f_X8_looksIn h b (nI n) = some (lk H n) := by
  obtain ⟨-, -, w3, w4, w5⟩ := wH
  have hmod : n % hL H < hL H := Nat.mod_lt _ (by omega)
  have e7 : nI n - nI n / 7 * 7 = nI (n % 7) := pk_rem (by omega) (by decide) (by decide)
  have eL : nI n - nI n / nI (hL H) * nI (hL H) = nI (n % hL H) := pk_rem (by omega) (by omega) (by omega)
  have e1 : nI (hL H) - 1 - nI (n % hL H) = nI (hL H - 1 - n % hL H) := by
    rw [show (1 : Int32) = nI 1 from rfl, pk_sub (by omega), pk_sub (by omega)]
  have e6 : (nI (n % 7) = 6) ↔ n % 7 = 6 := by rw [show (6 : Int32) = nI 6 from rfl, nI_eq (by omega) (by omega)]
  rw [f_X8_looksIn, md_f0 a, b_some, ln_4 a, b_some, hN.2.2.2.1, w3, nz, if_neg (nI_ne0 (by omega) (by omega)), b_some, b_some, e7, eL, b_some, ln_4 a, b_some, hN.2.2.2.1, w3, e1]
  simp only [e6, lk]
  by_cases h6 : n % 7 = 6
  · rw [if_pos h6, if_pos h6, b_some, show (79 : Int32) = nI 79 from rfl, nI_add, md_m1 a (by omega), b_some, hN.2.2.2.2.2.2.2.1 _ (by omega)]
  · rw [if_neg h6, if_neg h6, b_some, show (79 : Int32) = nI 79 from rfl, nI_add, md_m1 a (by omega), b_some, hN.2.2.2.2.2.2.2.1 _ (by omega)]
end
