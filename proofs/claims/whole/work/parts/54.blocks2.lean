/-! ===== more blocks: laid by program ===== -/
def sJ (l : Nat → Nat → Int64) (k i : Nat) (x : Int64) : Nat → Nat → Int64 := fun j => if j = k then vp_updL (l k) i x else l j
def sK (l : Nat → Nat → Int64) (k : Nat) (f : Nat → Int64) : Nat → Nat → Int64 := fun j => if j = k then f else l j
theorem sJ_2 (l : Nat → Nat → Int64) (k i : Nat) (x : Int64) (j q : Nat) : sJ l k i x j q = if j = k ∧ q = i then x else l j q := by
  simp only [sJ]
  by_cases h : j = k
  · subst h
    simp [vp_updL]
  · simp [h]
def hhL (b : Nat) (H : Blk) (s : Blk) : Nat → Option Cel := fun k => match k with
  | 0 => some (cO 1 [.int (H.1 0), .int (H.1 1), .ref (b + 1), .ref (b + 2), .ref (b + 3), .int (H.1 2), .int (H.1 3), .ref (b + 4), .ref (b + 5), .ref (b + 6), .int (H.1 4), .ref (b + 12), .ref (b + 13), .ref (b + 14)])
  | 1 => some (cI 0 8 (H.2 0))
  | 2 => some (cI 0 64 (H.2 1))
  | 3 => some (cI 0 12 (H.2 2))
  | 4 => some (cI 0 6 (H.2 3))
  | 5 => some (cI 0 6 (H.2 4))
  | 6 => some (cO 3 [.int (s.1 0), .ref (b + 7), .ref (b + 8), .ref (b + 9), .ref (b + 10), .ref (b + 11)])
  | 7 => some (cI 0 6 (s.2 0))
  | 8 => some (cI 0 6 (s.2 1))
  | 9 => some (cI 0 6 (s.2 2))
  | 10 => some (cI 0 6 (s.2 3))
  | 11 => some (cI 0 6 (s.2 4))
  | 12 => some (cI 0 6 (H.2 5))
  | 13 => some (cI 0 6 (H.2 6))
  | 14 => some (cI 0 6 (H.2 7))
  | _ => none
section
variable {h : Hea} {b : Nat} {H : Blk} {s : Blk} {i : Nat} {x : Int32}
theorem hh_hi {k : Nat} (e : 15 ≤ k) : hhL b H s k = none := by
  obtain ⟨q, rfl⟩ : ∃ q, k = q + 15 := ⟨k - 15, by omega⟩
  rfl
theorem hh_o (a : At h b (hhL b H s)) : isO h b 1 = some () := isO_at (a 0 _ rfl)
theorem hh_f0 (a : At h b (hhL b H s)) : gI h b 1 0 = some (H.1 0) := gI_at (a 0 _ rfl) rfl
theorem hh_p0 : pV (blk b (hhL b H s) h) b 1 0 (.int x) = some (blk b (hhL b (sS H 0 x) s) h) := by
  rw [pV_at (at_0 (blk_at b (hhL b H s) h) rfl) (Nat.le_of_ble_eq_true rfl)]
  exact congrArg some (blk_hup (k := 0) (fun j => by match j with
    | 0 => rfl | 1 => rfl | 2 => rfl | 3 => rfl | 4 => rfl | 5 => rfl | 6 => rfl | 7 => rfl | 8 => rfl | 9 => rfl | 10 => rfl | 11 => rfl | 12 => rfl | 13 => rfl | 14 => rfl
    | j + 15 => rfl))
theorem hh_f1 (a : At h b (hhL b H s)) : gI h b 1 1 = some (H.1 1) := gI_at (a 0 _ rfl) rfl
theorem hh_p1 : pV (blk b (hhL b H s) h) b 1 1 (.int x) = some (blk b (hhL b (sS H 1 x) s) h) := by
  rw [pV_at (at_0 (blk_at b (hhL b H s) h) rfl) (Nat.le_of_ble_eq_true rfl)]
  exact congrArg some (blk_hup (k := 0) (fun j => by match j with
    | 0 => rfl | 1 => rfl | 2 => rfl | 3 => rfl | 4 => rfl | 5 => rfl | 6 => rfl | 7 => rfl | 8 => rfl | 9 => rfl | 10 => rfl | 11 => rfl | 12 => rfl | 13 => rfl | 14 => rfl
    | j + 15 => rfl))
theorem hh_f2 (a : At h b (hhL b H s)) : gR h b 1 2 = some (b + 1) := gR_at (a 0 _ rfl) rfl
theorem hh_f3 (a : At h b (hhL b H s)) : gR h b 1 3 = some (b + 2) := gR_at (a 0 _ rfl) rfl
theorem hh_f4 (a : At h b (hhL b H s)) : gR h b 1 4 = some (b + 3) := gR_at (a 0 _ rfl) rfl
theorem hh_f5 (a : At h b (hhL b H s)) : gI h b 1 5 = some (H.1 2) := gI_at (a 0 _ rfl) rfl
theorem hh_p5 : pV (blk b (hhL b H s) h) b 1 5 (.int x) = some (blk b (hhL b (sS H 2 x) s) h) := by
  rw [pV_at (at_0 (blk_at b (hhL b H s) h) rfl) (Nat.le_of_ble_eq_true rfl)]
  exact congrArg some (blk_hup (k := 0) (fun j => by match j with
    | 0 => rfl | 1 => rfl | 2 => rfl | 3 => rfl | 4 => rfl | 5 => rfl | 6 => rfl | 7 => rfl | 8 => rfl | 9 => rfl | 10 => rfl | 11 => rfl | 12 => rfl | 13 => rfl | 14 => rfl
    | j + 15 => rfl))
theorem hh_f6 (a : At h b (hhL b H s)) : gI h b 1 6 = some (H.1 3) := gI_at (a 0 _ rfl) rfl
theorem hh_p6 : pV (blk b (hhL b H s) h) b 1 6 (.int x) = some (blk b (hhL b (sS H 3 x) s) h) := by
  rw [pV_at (at_0 (blk_at b (hhL b H s) h) rfl) (Nat.le_of_ble_eq_true rfl)]
  exact congrArg some (blk_hup (k := 0) (fun j => by match j with
    | 0 => rfl | 1 => rfl | 2 => rfl | 3 => rfl | 4 => rfl | 5 => rfl | 6 => rfl | 7 => rfl | 8 => rfl | 9 => rfl | 10 => rfl | 11 => rfl | 12 => rfl | 13 => rfl | 14 => rfl
    | j + 15 => rfl))
theorem hh_f7 (a : At h b (hhL b H s)) : gR h b 1 7 = some (b + 4) := gR_at (a 0 _ rfl) rfl
theorem hh_f8 (a : At h b (hhL b H s)) : gR h b 1 8 = some (b + 5) := gR_at (a 0 _ rfl) rfl
theorem hh_f9 (a : At h b (hhL b H s)) : gR h b 1 9 = some (b + 6) := gR_at (a 0 _ rfl) rfl
theorem hh_f10 (a : At h b (hhL b H s)) : gI h b 1 10 = some (H.1 4) := gI_at (a 0 _ rfl) rfl
theorem hh_p10 : pV (blk b (hhL b H s) h) b 1 10 (.int x) = some (blk b (hhL b (sS H 4 x) s) h) := by
  rw [pV_at (at_0 (blk_at b (hhL b H s) h) rfl) (Nat.le_of_ble_eq_true rfl)]
  exact congrArg some (blk_hup (k := 0) (fun j => by match j with
    | 0 => rfl | 1 => rfl | 2 => rfl | 3 => rfl | 4 => rfl | 5 => rfl | 6 => rfl | 7 => rfl | 8 => rfl | 9 => rfl | 10 => rfl | 11 => rfl | 12 => rfl | 13 => rfl | 14 => rfl
    | j + 15 => rfl))
theorem hh_f11 (a : At h b (hhL b H s)) : gR h b 1 11 = some (b + 12) := gR_at (a 0 _ rfl) rfl
theorem hh_f12 (a : At h b (hhL b H s)) : gR h b 1 12 = some (b + 13) := gR_at (a 0 _ rfl) rfl
theorem hh_f13 (a : At h b (hhL b H s)) : gR h b 1 13 = some (b + 14) := gR_at (a 0 _ rfl) rfl
theorem hh_k1 (a : At h b (hhL b H s)) : h.2 (b + 1) = some (cI 0 8 (H.2 0)) := a 1 _ rfl
theorem hh_l1 (a : At h b (hhL b H s)) (hi : inR x 8 = true) : ldI h 0 (b + 1) x = some (H.2 0 x.toNatClampNeg) := ldI_at (a 1 _ rfl) hi
theorem hh_m1 (a : At h b (hhL b H s)) (hi : i < 8) : ldI h 0 (b + 1) (nI i) = some (H.2 0 i) := ldN_at (a 1 _ rfl) hi (by decide)
theorem hh_b1 {f : Nat → Int32} : hup (blk b (hhL b H s) h) (b + 1) (cI 0 8 f) = blk b (hhL b (sB H 0 f) s) h := blk_hup (k := 1) (fun j => by match j with
    | 0 => rfl | 1 => rfl | 2 => rfl | 3 => rfl | 4 => rfl | 5 => rfl | 6 => rfl | 7 => rfl | 8 => rfl | 9 => rfl | 10 => rfl | 11 => rfl | 12 => rfl | 13 => rfl | 14 => rfl
    | j + 15 => rfl)
theorem hh_w1 (hi : i < 8) : stI (blk b (hhL b H s) h) 0 (b + 1) (nI i) x = some (blk b (hhL b (sA H 0 i x) s) h) := by
  rw [stN_at (blk_at b (hhL b H s) h 1 _ rfl) hi (by decide)]
  exact congrArg some (blk_hup (k := 1) (fun j => by match j with
    | 0 => rfl | 1 => rfl | 2 => rfl | 3 => rfl | 4 => rfl | 5 => rfl | 6 => rfl | 7 => rfl | 8 => rfl | 9 => rfl | 10 => rfl | 11 => rfl | 12 => rfl | 13 => rfl | 14 => rfl
    | j + 15 => rfl))
theorem hh_k2 (a : At h b (hhL b H s)) : h.2 (b + 2) = some (cI 0 64 (H.2 1)) := a 2 _ rfl
theorem hh_l2 (a : At h b (hhL b H s)) (hi : inR x 64 = true) : ldI h 0 (b + 2) x = some (H.2 1 x.toNatClampNeg) := ldI_at (a 2 _ rfl) hi
theorem hh_m2 (a : At h b (hhL b H s)) (hi : i < 64) : ldI h 0 (b + 2) (nI i) = some (H.2 1 i) := ldN_at (a 2 _ rfl) hi (by decide)
theorem hh_b2 {f : Nat → Int32} : hup (blk b (hhL b H s) h) (b + 2) (cI 0 64 f) = blk b (hhL b (sB H 1 f) s) h := blk_hup (k := 2) (fun j => by match j with
    | 0 => rfl | 1 => rfl | 2 => rfl | 3 => rfl | 4 => rfl | 5 => rfl | 6 => rfl | 7 => rfl | 8 => rfl | 9 => rfl | 10 => rfl | 11 => rfl | 12 => rfl | 13 => rfl | 14 => rfl
    | j + 15 => rfl)
theorem hh_w2 (hi : i < 64) : stI (blk b (hhL b H s) h) 0 (b + 2) (nI i) x = some (blk b (hhL b (sA H 1 i x) s) h) := by
  rw [stN_at (blk_at b (hhL b H s) h 2 _ rfl) hi (by decide)]
  exact congrArg some (blk_hup (k := 2) (fun j => by match j with
    | 0 => rfl | 1 => rfl | 2 => rfl | 3 => rfl | 4 => rfl | 5 => rfl | 6 => rfl | 7 => rfl | 8 => rfl | 9 => rfl | 10 => rfl | 11 => rfl | 12 => rfl | 13 => rfl | 14 => rfl
    | j + 15 => rfl))
theorem hh_k3 (a : At h b (hhL b H s)) : h.2 (b + 3) = some (cI 0 12 (H.2 2)) := a 3 _ rfl
theorem hh_l3 (a : At h b (hhL b H s)) (hi : inR x 12 = true) : ldI h 0 (b + 3) x = some (H.2 2 x.toNatClampNeg) := ldI_at (a 3 _ rfl) hi
theorem hh_m3 (a : At h b (hhL b H s)) (hi : i < 12) : ldI h 0 (b + 3) (nI i) = some (H.2 2 i) := ldN_at (a 3 _ rfl) hi (by decide)
theorem hh_b3 {f : Nat → Int32} : hup (blk b (hhL b H s) h) (b + 3) (cI 0 12 f) = blk b (hhL b (sB H 2 f) s) h := blk_hup (k := 3) (fun j => by match j with
    | 0 => rfl | 1 => rfl | 2 => rfl | 3 => rfl | 4 => rfl | 5 => rfl | 6 => rfl | 7 => rfl | 8 => rfl | 9 => rfl | 10 => rfl | 11 => rfl | 12 => rfl | 13 => rfl | 14 => rfl
    | j + 15 => rfl)
theorem hh_w3 (hi : i < 12) : stI (blk b (hhL b H s) h) 0 (b + 3) (nI i) x = some (blk b (hhL b (sA H 2 i x) s) h) := by
  rw [stN_at (blk_at b (hhL b H s) h 3 _ rfl) hi (by decide)]
  exact congrArg some (blk_hup (k := 3) (fun j => by match j with
    | 0 => rfl | 1 => rfl | 2 => rfl | 3 => rfl | 4 => rfl | 5 => rfl | 6 => rfl | 7 => rfl | 8 => rfl | 9 => rfl | 10 => rfl | 11 => rfl | 12 => rfl | 13 => rfl | 14 => rfl
    | j + 15 => rfl))
theorem hh_k4 (a : At h b (hhL b H s)) : h.2 (b + 4) = some (cI 0 6 (H.2 3)) := a 4 _ rfl
theorem hh_l4 (a : At h b (hhL b H s)) (hi : inR x 6 = true) : ldI h 0 (b + 4) x = some (H.2 3 x.toNatClampNeg) := ldI_at (a 4 _ rfl) hi
theorem hh_m4 (a : At h b (hhL b H s)) (hi : i < 6) : ldI h 0 (b + 4) (nI i) = some (H.2 3 i) := ldN_at (a 4 _ rfl) hi (by decide)
theorem hh_b4 {f : Nat → Int32} : hup (blk b (hhL b H s) h) (b + 4) (cI 0 6 f) = blk b (hhL b (sB H 3 f) s) h := blk_hup (k := 4) (fun j => by match j with
    | 0 => rfl | 1 => rfl | 2 => rfl | 3 => rfl | 4 => rfl | 5 => rfl | 6 => rfl | 7 => rfl | 8 => rfl | 9 => rfl | 10 => rfl | 11 => rfl | 12 => rfl | 13 => rfl | 14 => rfl
    | j + 15 => rfl)
theorem hh_w4 (hi : i < 6) : stI (blk b (hhL b H s) h) 0 (b + 4) (nI i) x = some (blk b (hhL b (sA H 3 i x) s) h) := by
  rw [stN_at (blk_at b (hhL b H s) h 4 _ rfl) hi (by decide)]
  exact congrArg some (blk_hup (k := 4) (fun j => by match j with
    | 0 => rfl | 1 => rfl | 2 => rfl | 3 => rfl | 4 => rfl | 5 => rfl | 6 => rfl | 7 => rfl | 8 => rfl | 9 => rfl | 10 => rfl | 11 => rfl | 12 => rfl | 13 => rfl | 14 => rfl
    | j + 15 => rfl))
theorem hh_k5 (a : At h b (hhL b H s)) : h.2 (b + 5) = some (cI 0 6 (H.2 4)) := a 5 _ rfl
theorem hh_l5 (a : At h b (hhL b H s)) (hi : inR x 6 = true) : ldI h 0 (b + 5) x = some (H.2 4 x.toNatClampNeg) := ldI_at (a 5 _ rfl) hi
theorem hh_m5 (a : At h b (hhL b H s)) (hi : i < 6) : ldI h 0 (b + 5) (nI i) = some (H.2 4 i) := ldN_at (a 5 _ rfl) hi (by decide)
theorem hh_b5 {f : Nat → Int32} : hup (blk b (hhL b H s) h) (b + 5) (cI 0 6 f) = blk b (hhL b (sB H 4 f) s) h := blk_hup (k := 5) (fun j => by match j with
    | 0 => rfl | 1 => rfl | 2 => rfl | 3 => rfl | 4 => rfl | 5 => rfl | 6 => rfl | 7 => rfl | 8 => rfl | 9 => rfl | 10 => rfl | 11 => rfl | 12 => rfl | 13 => rfl | 14 => rfl
    | j + 15 => rfl)
theorem hh_w5 (hi : i < 6) : stI (blk b (hhL b H s) h) 0 (b + 5) (nI i) x = some (blk b (hhL b (sA H 4 i x) s) h) := by
  rw [stN_at (blk_at b (hhL b H s) h 5 _ rfl) hi (by decide)]
  exact congrArg some (blk_hup (k := 5) (fun j => by match j with
    | 0 => rfl | 1 => rfl | 2 => rfl | 3 => rfl | 4 => rfl | 5 => rfl | 6 => rfl | 7 => rfl | 8 => rfl | 9 => rfl | 10 => rfl | 11 => rfl | 12 => rfl | 13 => rfl | 14 => rfl
    | j + 15 => rfl))
theorem hh_o6 (a : At h b (hhL b H s)) : isO h (b + 6) 3 = some () := isO_at (a 6 _ rfl)
theorem hh_f6_0 (a : At h b (hhL b H s)) : gI h (b + 6) 3 0 = some (s.1 0) := gI_at (a 6 _ rfl) rfl
theorem hh_p6_0 : pV (blk b (hhL b H s) h) (b + 6) 3 0 (.int x) = some (blk b (hhL b H (sS s 0 x)) h) := by
  rw [pV_at (blk_at b (hhL b H s) h 6 _ rfl) (Nat.le_of_ble_eq_true rfl)]
  exact congrArg some (blk_hup (k := 6) (fun j => by match j with
    | 0 => rfl | 1 => rfl | 2 => rfl | 3 => rfl | 4 => rfl | 5 => rfl | 6 => rfl | 7 => rfl | 8 => rfl | 9 => rfl | 10 => rfl | 11 => rfl | 12 => rfl | 13 => rfl | 14 => rfl
    | j + 15 => rfl))
theorem hh_f6_1 (a : At h b (hhL b H s)) : gR h (b + 6) 3 1 = some (b + 7) := gR_at (a 6 _ rfl) rfl
theorem hh_f6_2 (a : At h b (hhL b H s)) : gR h (b + 6) 3 2 = some (b + 8) := gR_at (a 6 _ rfl) rfl
theorem hh_f6_3 (a : At h b (hhL b H s)) : gR h (b + 6) 3 3 = some (b + 9) := gR_at (a 6 _ rfl) rfl
theorem hh_f6_4 (a : At h b (hhL b H s)) : gR h (b + 6) 3 4 = some (b + 10) := gR_at (a 6 _ rfl) rfl
theorem hh_f6_5 (a : At h b (hhL b H s)) : gR h (b + 6) 3 5 = some (b + 11) := gR_at (a 6 _ rfl) rfl
theorem hh_k7 (a : At h b (hhL b H s)) : h.2 (b + 7) = some (cI 0 6 (s.2 0)) := a 7 _ rfl
theorem hh_l7 (a : At h b (hhL b H s)) (hi : inR x 6 = true) : ldI h 0 (b + 7) x = some (s.2 0 x.toNatClampNeg) := ldI_at (a 7 _ rfl) hi
theorem hh_m7 (a : At h b (hhL b H s)) (hi : i < 6) : ldI h 0 (b + 7) (nI i) = some (s.2 0 i) := ldN_at (a 7 _ rfl) hi (by decide)
theorem hh_b7 {f : Nat → Int32} : hup (blk b (hhL b H s) h) (b + 7) (cI 0 6 f) = blk b (hhL b H (sB s 0 f)) h := blk_hup (k := 7) (fun j => by match j with
    | 0 => rfl | 1 => rfl | 2 => rfl | 3 => rfl | 4 => rfl | 5 => rfl | 6 => rfl | 7 => rfl | 8 => rfl | 9 => rfl | 10 => rfl | 11 => rfl | 12 => rfl | 13 => rfl | 14 => rfl
    | j + 15 => rfl)
theorem hh_w7 (hi : i < 6) : stI (blk b (hhL b H s) h) 0 (b + 7) (nI i) x = some (blk b (hhL b H (sA s 0 i x)) h) := by
  rw [stN_at (blk_at b (hhL b H s) h 7 _ rfl) hi (by decide)]
  exact congrArg some (blk_hup (k := 7) (fun j => by match j with
    | 0 => rfl | 1 => rfl | 2 => rfl | 3 => rfl | 4 => rfl | 5 => rfl | 6 => rfl | 7 => rfl | 8 => rfl | 9 => rfl | 10 => rfl | 11 => rfl | 12 => rfl | 13 => rfl | 14 => rfl
    | j + 15 => rfl))
theorem hh_k8 (a : At h b (hhL b H s)) : h.2 (b + 8) = some (cI 0 6 (s.2 1)) := a 8 _ rfl
theorem hh_l8 (a : At h b (hhL b H s)) (hi : inR x 6 = true) : ldI h 0 (b + 8) x = some (s.2 1 x.toNatClampNeg) := ldI_at (a 8 _ rfl) hi
theorem hh_m8 (a : At h b (hhL b H s)) (hi : i < 6) : ldI h 0 (b + 8) (nI i) = some (s.2 1 i) := ldN_at (a 8 _ rfl) hi (by decide)
theorem hh_b8 {f : Nat → Int32} : hup (blk b (hhL b H s) h) (b + 8) (cI 0 6 f) = blk b (hhL b H (sB s 1 f)) h := blk_hup (k := 8) (fun j => by match j with
    | 0 => rfl | 1 => rfl | 2 => rfl | 3 => rfl | 4 => rfl | 5 => rfl | 6 => rfl | 7 => rfl | 8 => rfl | 9 => rfl | 10 => rfl | 11 => rfl | 12 => rfl | 13 => rfl | 14 => rfl
    | j + 15 => rfl)
theorem hh_w8 (hi : i < 6) : stI (blk b (hhL b H s) h) 0 (b + 8) (nI i) x = some (blk b (hhL b H (sA s 1 i x)) h) := by
  rw [stN_at (blk_at b (hhL b H s) h 8 _ rfl) hi (by decide)]
  exact congrArg some (blk_hup (k := 8) (fun j => by match j with
    | 0 => rfl | 1 => rfl | 2 => rfl | 3 => rfl | 4 => rfl | 5 => rfl | 6 => rfl | 7 => rfl | 8 => rfl | 9 => rfl | 10 => rfl | 11 => rfl | 12 => rfl | 13 => rfl | 14 => rfl
    | j + 15 => rfl))
theorem hh_k9 (a : At h b (hhL b H s)) : h.2 (b + 9) = some (cI 0 6 (s.2 2)) := a 9 _ rfl
theorem hh_l9 (a : At h b (hhL b H s)) (hi : inR x 6 = true) : ldI h 0 (b + 9) x = some (s.2 2 x.toNatClampNeg) := ldI_at (a 9 _ rfl) hi
theorem hh_m9 (a : At h b (hhL b H s)) (hi : i < 6) : ldI h 0 (b + 9) (nI i) = some (s.2 2 i) := ldN_at (a 9 _ rfl) hi (by decide)
theorem hh_b9 {f : Nat → Int32} : hup (blk b (hhL b H s) h) (b + 9) (cI 0 6 f) = blk b (hhL b H (sB s 2 f)) h := blk_hup (k := 9) (fun j => by match j with
    | 0 => rfl | 1 => rfl | 2 => rfl | 3 => rfl | 4 => rfl | 5 => rfl | 6 => rfl | 7 => rfl | 8 => rfl | 9 => rfl | 10 => rfl | 11 => rfl | 12 => rfl | 13 => rfl | 14 => rfl
    | j + 15 => rfl)
theorem hh_w9 (hi : i < 6) : stI (blk b (hhL b H s) h) 0 (b + 9) (nI i) x = some (blk b (hhL b H (sA s 2 i x)) h) := by
  rw [stN_at (blk_at b (hhL b H s) h 9 _ rfl) hi (by decide)]
  exact congrArg some (blk_hup (k := 9) (fun j => by match j with
    | 0 => rfl | 1 => rfl | 2 => rfl | 3 => rfl | 4 => rfl | 5 => rfl | 6 => rfl | 7 => rfl | 8 => rfl | 9 => rfl | 10 => rfl | 11 => rfl | 12 => rfl | 13 => rfl | 14 => rfl
    | j + 15 => rfl))
theorem hh_k10 (a : At h b (hhL b H s)) : h.2 (b + 10) = some (cI 0 6 (s.2 3)) := a 10 _ rfl
theorem hh_l10 (a : At h b (hhL b H s)) (hi : inR x 6 = true) : ldI h 0 (b + 10) x = some (s.2 3 x.toNatClampNeg) := ldI_at (a 10 _ rfl) hi
theorem hh_m10 (a : At h b (hhL b H s)) (hi : i < 6) : ldI h 0 (b + 10) (nI i) = some (s.2 3 i) := ldN_at (a 10 _ rfl) hi (by decide)
theorem hh_b10 {f : Nat → Int32} : hup (blk b (hhL b H s) h) (b + 10) (cI 0 6 f) = blk b (hhL b H (sB s 3 f)) h := blk_hup (k := 10) (fun j => by match j with
    | 0 => rfl | 1 => rfl | 2 => rfl | 3 => rfl | 4 => rfl | 5 => rfl | 6 => rfl | 7 => rfl | 8 => rfl | 9 => rfl | 10 => rfl | 11 => rfl | 12 => rfl | 13 => rfl | 14 => rfl
    | j + 15 => rfl)
theorem hh_w10 (hi : i < 6) : stI (blk b (hhL b H s) h) 0 (b + 10) (nI i) x = some (blk b (hhL b H (sA s 3 i x)) h) := by
  rw [stN_at (blk_at b (hhL b H s) h 10 _ rfl) hi (by decide)]
  exact congrArg some (blk_hup (k := 10) (fun j => by match j with
    | 0 => rfl | 1 => rfl | 2 => rfl | 3 => rfl | 4 => rfl | 5 => rfl | 6 => rfl | 7 => rfl | 8 => rfl | 9 => rfl | 10 => rfl | 11 => rfl | 12 => rfl | 13 => rfl | 14 => rfl
    | j + 15 => rfl))
theorem hh_k11 (a : At h b (hhL b H s)) : h.2 (b + 11) = some (cI 0 6 (s.2 4)) := a 11 _ rfl
theorem hh_l11 (a : At h b (hhL b H s)) (hi : inR x 6 = true) : ldI h 0 (b + 11) x = some (s.2 4 x.toNatClampNeg) := ldI_at (a 11 _ rfl) hi
theorem hh_m11 (a : At h b (hhL b H s)) (hi : i < 6) : ldI h 0 (b + 11) (nI i) = some (s.2 4 i) := ldN_at (a 11 _ rfl) hi (by decide)
theorem hh_b11 {f : Nat → Int32} : hup (blk b (hhL b H s) h) (b + 11) (cI 0 6 f) = blk b (hhL b H (sB s 4 f)) h := blk_hup (k := 11) (fun j => by match j with
    | 0 => rfl | 1 => rfl | 2 => rfl | 3 => rfl | 4 => rfl | 5 => rfl | 6 => rfl | 7 => rfl | 8 => rfl | 9 => rfl | 10 => rfl | 11 => rfl | 12 => rfl | 13 => rfl | 14 => rfl
    | j + 15 => rfl)
theorem hh_w11 (hi : i < 6) : stI (blk b (hhL b H s) h) 0 (b + 11) (nI i) x = some (blk b (hhL b H (sA s 4 i x)) h) := by
  rw [stN_at (blk_at b (hhL b H s) h 11 _ rfl) hi (by decide)]
  exact congrArg some (blk_hup (k := 11) (fun j => by match j with
    | 0 => rfl | 1 => rfl | 2 => rfl | 3 => rfl | 4 => rfl | 5 => rfl | 6 => rfl | 7 => rfl | 8 => rfl | 9 => rfl | 10 => rfl | 11 => rfl | 12 => rfl | 13 => rfl | 14 => rfl
    | j + 15 => rfl))
theorem hh_k12 (a : At h b (hhL b H s)) : h.2 (b + 12) = some (cI 0 6 (H.2 5)) := a 12 _ rfl
theorem hh_l12 (a : At h b (hhL b H s)) (hi : inR x 6 = true) : ldI h 0 (b + 12) x = some (H.2 5 x.toNatClampNeg) := ldI_at (a 12 _ rfl) hi
theorem hh_m12 (a : At h b (hhL b H s)) (hi : i < 6) : ldI h 0 (b + 12) (nI i) = some (H.2 5 i) := ldN_at (a 12 _ rfl) hi (by decide)
theorem hh_b12 {f : Nat → Int32} : hup (blk b (hhL b H s) h) (b + 12) (cI 0 6 f) = blk b (hhL b (sB H 5 f) s) h := blk_hup (k := 12) (fun j => by match j with
    | 0 => rfl | 1 => rfl | 2 => rfl | 3 => rfl | 4 => rfl | 5 => rfl | 6 => rfl | 7 => rfl | 8 => rfl | 9 => rfl | 10 => rfl | 11 => rfl | 12 => rfl | 13 => rfl | 14 => rfl
    | j + 15 => rfl)
theorem hh_w12 (hi : i < 6) : stI (blk b (hhL b H s) h) 0 (b + 12) (nI i) x = some (blk b (hhL b (sA H 5 i x) s) h) := by
  rw [stN_at (blk_at b (hhL b H s) h 12 _ rfl) hi (by decide)]
  exact congrArg some (blk_hup (k := 12) (fun j => by match j with
    | 0 => rfl | 1 => rfl | 2 => rfl | 3 => rfl | 4 => rfl | 5 => rfl | 6 => rfl | 7 => rfl | 8 => rfl | 9 => rfl | 10 => rfl | 11 => rfl | 12 => rfl | 13 => rfl | 14 => rfl
    | j + 15 => rfl))
theorem hh_k13 (a : At h b (hhL b H s)) : h.2 (b + 13) = some (cI 0 6 (H.2 6)) := a 13 _ rfl
theorem hh_l13 (a : At h b (hhL b H s)) (hi : inR x 6 = true) : ldI h 0 (b + 13) x = some (H.2 6 x.toNatClampNeg) := ldI_at (a 13 _ rfl) hi
theorem hh_m13 (a : At h b (hhL b H s)) (hi : i < 6) : ldI h 0 (b + 13) (nI i) = some (H.2 6 i) := ldN_at (a 13 _ rfl) hi (by decide)
theorem hh_b13 {f : Nat → Int32} : hup (blk b (hhL b H s) h) (b + 13) (cI 0 6 f) = blk b (hhL b (sB H 6 f) s) h := blk_hup (k := 13) (fun j => by match j with
    | 0 => rfl | 1 => rfl | 2 => rfl | 3 => rfl | 4 => rfl | 5 => rfl | 6 => rfl | 7 => rfl | 8 => rfl | 9 => rfl | 10 => rfl | 11 => rfl | 12 => rfl | 13 => rfl | 14 => rfl
    | j + 15 => rfl)
theorem hh_w13 (hi : i < 6) : stI (blk b (hhL b H s) h) 0 (b + 13) (nI i) x = some (blk b (hhL b (sA H 6 i x) s) h) := by
  rw [stN_at (blk_at b (hhL b H s) h 13 _ rfl) hi (by decide)]
  exact congrArg some (blk_hup (k := 13) (fun j => by match j with
    | 0 => rfl | 1 => rfl | 2 => rfl | 3 => rfl | 4 => rfl | 5 => rfl | 6 => rfl | 7 => rfl | 8 => rfl | 9 => rfl | 10 => rfl | 11 => rfl | 12 => rfl | 13 => rfl | 14 => rfl
    | j + 15 => rfl))
theorem hh_k14 (a : At h b (hhL b H s)) : h.2 (b + 14) = some (cI 0 6 (H.2 7)) := a 14 _ rfl
theorem hh_l14 (a : At h b (hhL b H s)) (hi : inR x 6 = true) : ldI h 0 (b + 14) x = some (H.2 7 x.toNatClampNeg) := ldI_at (a 14 _ rfl) hi
theorem hh_m14 (a : At h b (hhL b H s)) (hi : i < 6) : ldI h 0 (b + 14) (nI i) = some (H.2 7 i) := ldN_at (a 14 _ rfl) hi (by decide)
theorem hh_b14 {f : Nat → Int32} : hup (blk b (hhL b H s) h) (b + 14) (cI 0 6 f) = blk b (hhL b (sB H 7 f) s) h := blk_hup (k := 14) (fun j => by match j with
    | 0 => rfl | 1 => rfl | 2 => rfl | 3 => rfl | 4 => rfl | 5 => rfl | 6 => rfl | 7 => rfl | 8 => rfl | 9 => rfl | 10 => rfl | 11 => rfl | 12 => rfl | 13 => rfl | 14 => rfl
    | j + 15 => rfl)
theorem hh_w14 (hi : i < 6) : stI (blk b (hhL b H s) h) 0 (b + 14) (nI i) x = some (blk b (hhL b (sA H 7 i x) s) h) := by
  rw [stN_at (blk_at b (hhL b H s) h 14 _ rfl) hi (by decide)]
  exact congrArg some (blk_hup (k := 14) (fun j => by match j with
    | 0 => rfl | 1 => rfl | 2 => rfl | 3 => rfl | 4 => rfl | 5 => rfl | 6 => rfl | 7 => rfl | 8 => rfl | 9 => rfl | 10 => rfl | 11 => rfl | 12 => rfl | 13 => rfl | 14 => rfl
    | j + 15 => rfl))
theorem hh_none {H' : Blk} {s' : Blk} : ∀ k, hhL b H' s' k = none → hhL b H s k = none := fun k => by
  match k with
  | 0 => exact fun e => by cases e
  | 1 => exact fun e => by cases e
  | 2 => exact fun e => by cases e
  | 3 => exact fun e => by cases e
  | 4 => exact fun e => by cases e
  | 5 => exact fun e => by cases e
  | 6 => exact fun e => by cases e
  | 7 => exact fun e => by cases e
  | 8 => exact fun e => by cases e
  | 9 => exact fun e => by cases e
  | 10 => exact fun e => by cases e
  | 11 => exact fun e => by cases e
  | 12 => exact fun e => by cases e
  | 13 => exact fun e => by cases e
  | 14 => exact fun e => by cases e
  | k + 15 => exact fun _ => rfl
theorem hh_over {H' : Blk} {s' : Blk} : blk b (hhL b H' s') (blk b (hhL b H s) h) = blk b (hhL b H' s') h := blk_blk hh_none
end
def mdL (b : Nat) (s : Blk) (l : Nat → Int64) (r : Nat → Nat → Int64) : Nat → Option Cel := fun k => match k with
  | 0 => some (cO 8 [.ref (b + 1), .ref (b + 2), .ref (b + 3), .ref (b + 4), .long (l 0), .long (l 1), .int (s.1 0), .int (s.1 1), .ref (b + 5), .ref (b + 6), .ref (b + 7), .ref (b + 8), .ref (b + 9), .ref (b + 10), .ref (b + 11), .ref (b + 12), .ref (b + 13), .ref (b + 14), .ref (b + 15), .ref (b + 16), .int (s.1 2), .int (s.1 3), .int (s.1 4), .int (s.1 5), .int (s.1 6), .ref (b + 17), .ref (b + 18)])
  | 1 => some (cI 0 399 (s.2 0))
  | 2 => some (cI 0 798 (s.2 1))
  | 3 => some (cI 2 2 (s.2 2))
  | 4 => some (cI 0 3 (s.2 3))
  | 5 => some (cI 0 6 (s.2 4))
  | 6 => some (cI 0 6 (s.2 5))
  | 7 => some (cI 0 6 (s.2 6))
  | 8 => some (cI 0 6 (s.2 7))
  | 9 => some (cI 0 6 (s.2 8))
  | 10 => some (cI 0 48 (s.2 9))
  | 11 => some (cI 0 48 (s.2 10))
  | 12 => some (cI 0 4 (s.2 11))
  | 13 => some (cI 0 4 (s.2 12))
  | 14 => some (cJ 104 (r 0))
  | 15 => some (cJ 104 (r 1))
  | 16 => some (cI 0 150 (s.2 13))
  | 17 => some (cI 0 151 (s.2 14))
  | 18 => some (cI 0 3 (s.2 15))
  | _ => none
section
variable {h : Hea} {b : Nat} {s : Blk} {l : Nat → Int64} {r : Nat → Nat → Int64} {i : Nat} {x : Int32}
theorem md_hi {k : Nat} (e : 19 ≤ k) : mdL b s l r k = none := by
  obtain ⟨q, rfl⟩ : ∃ q, k = q + 19 := ⟨k - 19, by omega⟩
  rfl
theorem md_o (a : At h b (mdL b s l r)) : isO h b 8 = some () := isO_at (a 0 _ rfl)
theorem md_f0 (a : At h b (mdL b s l r)) : gR h b 8 0 = some (b + 1) := gR_at (a 0 _ rfl) rfl
theorem md_f1 (a : At h b (mdL b s l r)) : gR h b 8 1 = some (b + 2) := gR_at (a 0 _ rfl) rfl
theorem md_f2 (a : At h b (mdL b s l r)) : gR h b 8 2 = some (b + 3) := gR_at (a 0 _ rfl) rfl
theorem md_f3 (a : At h b (mdL b s l r)) : gR h b 8 3 = some (b + 4) := gR_at (a 0 _ rfl) rfl
theorem md_f4 (a : At h b (mdL b s l r)) : gJ h b 8 4 = some (l 0) := gJ_at (a 0 _ rfl) rfl
theorem md_p4 {x : Int64} : pV (blk b (mdL b s l r) h) b 8 4 (.long x) = some (blk b (mdL b s (vp_updL l 0 x) r) h) := by
  rw [pV_at (at_0 (blk_at b (mdL b s l r) h) rfl) (Nat.le_of_ble_eq_true rfl)]
  exact congrArg some (blk_hup (k := 0) (fun j => by match j with
    | 0 => rfl | 1 => rfl | 2 => rfl | 3 => rfl | 4 => rfl | 5 => rfl | 6 => rfl | 7 => rfl | 8 => rfl | 9 => rfl | 10 => rfl | 11 => rfl | 12 => rfl | 13 => rfl | 14 => rfl | 15 => rfl | 16 => rfl | 17 => rfl | 18 => rfl
    | j + 19 => rfl))
theorem md_f5 (a : At h b (mdL b s l r)) : gJ h b 8 5 = some (l 1) := gJ_at (a 0 _ rfl) rfl
theorem md_p5 {x : Int64} : pV (blk b (mdL b s l r) h) b 8 5 (.long x) = some (blk b (mdL b s (vp_updL l 1 x) r) h) := by
  rw [pV_at (at_0 (blk_at b (mdL b s l r) h) rfl) (Nat.le_of_ble_eq_true rfl)]
  exact congrArg some (blk_hup (k := 0) (fun j => by match j with
    | 0 => rfl | 1 => rfl | 2 => rfl | 3 => rfl | 4 => rfl | 5 => rfl | 6 => rfl | 7 => rfl | 8 => rfl | 9 => rfl | 10 => rfl | 11 => rfl | 12 => rfl | 13 => rfl | 14 => rfl | 15 => rfl | 16 => rfl | 17 => rfl | 18 => rfl
    | j + 19 => rfl))
theorem md_f6 (a : At h b (mdL b s l r)) : gI h b 8 6 = some (s.1 0) := gI_at (a 0 _ rfl) rfl
theorem md_p6 : pV (blk b (mdL b s l r) h) b 8 6 (.int x) = some (blk b (mdL b (sS s 0 x) l r) h) := by
  rw [pV_at (at_0 (blk_at b (mdL b s l r) h) rfl) (Nat.le_of_ble_eq_true rfl)]
  exact congrArg some (blk_hup (k := 0) (fun j => by match j with
    | 0 => rfl | 1 => rfl | 2 => rfl | 3 => rfl | 4 => rfl | 5 => rfl | 6 => rfl | 7 => rfl | 8 => rfl | 9 => rfl | 10 => rfl | 11 => rfl | 12 => rfl | 13 => rfl | 14 => rfl | 15 => rfl | 16 => rfl | 17 => rfl | 18 => rfl
    | j + 19 => rfl))
theorem md_f7 (a : At h b (mdL b s l r)) : gI h b 8 7 = some (s.1 1) := gI_at (a 0 _ rfl) rfl
theorem md_p7 : pV (blk b (mdL b s l r) h) b 8 7 (.int x) = some (blk b (mdL b (sS s 1 x) l r) h) := by
  rw [pV_at (at_0 (blk_at b (mdL b s l r) h) rfl) (Nat.le_of_ble_eq_true rfl)]
  exact congrArg some (blk_hup (k := 0) (fun j => by match j with
    | 0 => rfl | 1 => rfl | 2 => rfl | 3 => rfl | 4 => rfl | 5 => rfl | 6 => rfl | 7 => rfl | 8 => rfl | 9 => rfl | 10 => rfl | 11 => rfl | 12 => rfl | 13 => rfl | 14 => rfl | 15 => rfl | 16 => rfl | 17 => rfl | 18 => rfl
    | j + 19 => rfl))
theorem md_f8 (a : At h b (mdL b s l r)) : gR h b 8 8 = some (b + 5) := gR_at (a 0 _ rfl) rfl
theorem md_f9 (a : At h b (mdL b s l r)) : gR h b 8 9 = some (b + 6) := gR_at (a 0 _ rfl) rfl
theorem md_f10 (a : At h b (mdL b s l r)) : gR h b 8 10 = some (b + 7) := gR_at (a 0 _ rfl) rfl
theorem md_f11 (a : At h b (mdL b s l r)) : gR h b 8 11 = some (b + 8) := gR_at (a 0 _ rfl) rfl
theorem md_f12 (a : At h b (mdL b s l r)) : gR h b 8 12 = some (b + 9) := gR_at (a 0 _ rfl) rfl
theorem md_f13 (a : At h b (mdL b s l r)) : gR h b 8 13 = some (b + 10) := gR_at (a 0 _ rfl) rfl
theorem md_f14 (a : At h b (mdL b s l r)) : gR h b 8 14 = some (b + 11) := gR_at (a 0 _ rfl) rfl
theorem md_f15 (a : At h b (mdL b s l r)) : gR h b 8 15 = some (b + 12) := gR_at (a 0 _ rfl) rfl
theorem md_f16 (a : At h b (mdL b s l r)) : gR h b 8 16 = some (b + 13) := gR_at (a 0 _ rfl) rfl
theorem md_f17 (a : At h b (mdL b s l r)) : gR h b 8 17 = some (b + 14) := gR_at (a 0 _ rfl) rfl
theorem md_f18 (a : At h b (mdL b s l r)) : gR h b 8 18 = some (b + 15) := gR_at (a 0 _ rfl) rfl
theorem md_f19 (a : At h b (mdL b s l r)) : gR h b 8 19 = some (b + 16) := gR_at (a 0 _ rfl) rfl
theorem md_f20 (a : At h b (mdL b s l r)) : gI h b 8 20 = some (s.1 2) := gI_at (a 0 _ rfl) rfl
theorem md_p20 : pV (blk b (mdL b s l r) h) b 8 20 (.int x) = some (blk b (mdL b (sS s 2 x) l r) h) := by
  rw [pV_at (at_0 (blk_at b (mdL b s l r) h) rfl) (Nat.le_of_ble_eq_true rfl)]
  exact congrArg some (blk_hup (k := 0) (fun j => by match j with
    | 0 => rfl | 1 => rfl | 2 => rfl | 3 => rfl | 4 => rfl | 5 => rfl | 6 => rfl | 7 => rfl | 8 => rfl | 9 => rfl | 10 => rfl | 11 => rfl | 12 => rfl | 13 => rfl | 14 => rfl | 15 => rfl | 16 => rfl | 17 => rfl | 18 => rfl
    | j + 19 => rfl))
theorem md_f21 (a : At h b (mdL b s l r)) : gI h b 8 21 = some (s.1 3) := gI_at (a 0 _ rfl) rfl
theorem md_p21 : pV (blk b (mdL b s l r) h) b 8 21 (.int x) = some (blk b (mdL b (sS s 3 x) l r) h) := by
  rw [pV_at (at_0 (blk_at b (mdL b s l r) h) rfl) (Nat.le_of_ble_eq_true rfl)]
  exact congrArg some (blk_hup (k := 0) (fun j => by match j with
    | 0 => rfl | 1 => rfl | 2 => rfl | 3 => rfl | 4 => rfl | 5 => rfl | 6 => rfl | 7 => rfl | 8 => rfl | 9 => rfl | 10 => rfl | 11 => rfl | 12 => rfl | 13 => rfl | 14 => rfl | 15 => rfl | 16 => rfl | 17 => rfl | 18 => rfl
    | j + 19 => rfl))
theorem md_f22 (a : At h b (mdL b s l r)) : gI h b 8 22 = some (s.1 4) := gI_at (a 0 _ rfl) rfl
theorem md_p22 : pV (blk b (mdL b s l r) h) b 8 22 (.int x) = some (blk b (mdL b (sS s 4 x) l r) h) := by
  rw [pV_at (at_0 (blk_at b (mdL b s l r) h) rfl) (Nat.le_of_ble_eq_true rfl)]
  exact congrArg some (blk_hup (k := 0) (fun j => by match j with
    | 0 => rfl | 1 => rfl | 2 => rfl | 3 => rfl | 4 => rfl | 5 => rfl | 6 => rfl | 7 => rfl | 8 => rfl | 9 => rfl | 10 => rfl | 11 => rfl | 12 => rfl | 13 => rfl | 14 => rfl | 15 => rfl | 16 => rfl | 17 => rfl | 18 => rfl
    | j + 19 => rfl))
theorem md_f23 (a : At h b (mdL b s l r)) : gI h b 8 23 = some (s.1 5) := gI_at (a 0 _ rfl) rfl
theorem md_p23 : pV (blk b (mdL b s l r) h) b 8 23 (.int x) = some (blk b (mdL b (sS s 5 x) l r) h) := by
  rw [pV_at (at_0 (blk_at b (mdL b s l r) h) rfl) (Nat.le_of_ble_eq_true rfl)]
  exact congrArg some (blk_hup (k := 0) (fun j => by match j with
    | 0 => rfl | 1 => rfl | 2 => rfl | 3 => rfl | 4 => rfl | 5 => rfl | 6 => rfl | 7 => rfl | 8 => rfl | 9 => rfl | 10 => rfl | 11 => rfl | 12 => rfl | 13 => rfl | 14 => rfl | 15 => rfl | 16 => rfl | 17 => rfl | 18 => rfl
    | j + 19 => rfl))
theorem md_f24 (a : At h b (mdL b s l r)) : gI h b 8 24 = some (s.1 6) := gI_at (a 0 _ rfl) rfl
theorem md_p24 : pV (blk b (mdL b s l r) h) b 8 24 (.int x) = some (blk b (mdL b (sS s 6 x) l r) h) := by
  rw [pV_at (at_0 (blk_at b (mdL b s l r) h) rfl) (Nat.le_of_ble_eq_true rfl)]
  exact congrArg some (blk_hup (k := 0) (fun j => by match j with
    | 0 => rfl | 1 => rfl | 2 => rfl | 3 => rfl | 4 => rfl | 5 => rfl | 6 => rfl | 7 => rfl | 8 => rfl | 9 => rfl | 10 => rfl | 11 => rfl | 12 => rfl | 13 => rfl | 14 => rfl | 15 => rfl | 16 => rfl | 17 => rfl | 18 => rfl
    | j + 19 => rfl))
theorem md_f25 (a : At h b (mdL b s l r)) : gR h b 8 25 = some (b + 17) := gR_at (a 0 _ rfl) rfl
theorem md_f26 (a : At h b (mdL b s l r)) : gR h b 8 26 = some (b + 18) := gR_at (a 0 _ rfl) rfl
theorem md_k1 (a : At h b (mdL b s l r)) : h.2 (b + 1) = some (cI 0 399 (s.2 0)) := a 1 _ rfl
theorem md_l1 (a : At h b (mdL b s l r)) (hi : inR x 399 = true) : ldI h 0 (b + 1) x = some (s.2 0 x.toNatClampNeg) := ldI_at (a 1 _ rfl) hi
theorem md_m1 (a : At h b (mdL b s l r)) (hi : i < 399) : ldI h 0 (b + 1) (nI i) = some (s.2 0 i) := ldN_at (a 1 _ rfl) hi (by decide)
theorem md_b1 {f : Nat → Int32} : hup (blk b (mdL b s l r) h) (b + 1) (cI 0 399 f) = blk b (mdL b (sB s 0 f) l r) h := blk_hup (k := 1) (fun j => by match j with
    | 0 => rfl | 1 => rfl | 2 => rfl | 3 => rfl | 4 => rfl | 5 => rfl | 6 => rfl | 7 => rfl | 8 => rfl | 9 => rfl | 10 => rfl | 11 => rfl | 12 => rfl | 13 => rfl | 14 => rfl | 15 => rfl | 16 => rfl | 17 => rfl | 18 => rfl
    | j + 19 => rfl)
theorem md_w1 (hi : i < 399) : stI (blk b (mdL b s l r) h) 0 (b + 1) (nI i) x = some (blk b (mdL b (sA s 0 i x) l r) h) := by
  rw [stN_at (blk_at b (mdL b s l r) h 1 _ rfl) hi (by decide)]
  exact congrArg some (blk_hup (k := 1) (fun j => by match j with
    | 0 => rfl | 1 => rfl | 2 => rfl | 3 => rfl | 4 => rfl | 5 => rfl | 6 => rfl | 7 => rfl | 8 => rfl | 9 => rfl | 10 => rfl | 11 => rfl | 12 => rfl | 13 => rfl | 14 => rfl | 15 => rfl | 16 => rfl | 17 => rfl | 18 => rfl
    | j + 19 => rfl))
theorem md_k2 (a : At h b (mdL b s l r)) : h.2 (b + 2) = some (cI 0 798 (s.2 1)) := a 2 _ rfl
theorem md_l2 (a : At h b (mdL b s l r)) (hi : inR x 798 = true) : ldI h 0 (b + 2) x = some (s.2 1 x.toNatClampNeg) := ldI_at (a 2 _ rfl) hi
theorem md_m2 (a : At h b (mdL b s l r)) (hi : i < 798) : ldI h 0 (b + 2) (nI i) = some (s.2 1 i) := ldN_at (a 2 _ rfl) hi (by decide)
theorem md_b2 {f : Nat → Int32} : hup (blk b (mdL b s l r) h) (b + 2) (cI 0 798 f) = blk b (mdL b (sB s 1 f) l r) h := blk_hup (k := 2) (fun j => by match j with
    | 0 => rfl | 1 => rfl | 2 => rfl | 3 => rfl | 4 => rfl | 5 => rfl | 6 => rfl | 7 => rfl | 8 => rfl | 9 => rfl | 10 => rfl | 11 => rfl | 12 => rfl | 13 => rfl | 14 => rfl | 15 => rfl | 16 => rfl | 17 => rfl | 18 => rfl
    | j + 19 => rfl)
theorem md_w2 (hi : i < 798) : stI (blk b (mdL b s l r) h) 0 (b + 2) (nI i) x = some (blk b (mdL b (sA s 1 i x) l r) h) := by
  rw [stN_at (blk_at b (mdL b s l r) h 2 _ rfl) hi (by decide)]
  exact congrArg some (blk_hup (k := 2) (fun j => by match j with
    | 0 => rfl | 1 => rfl | 2 => rfl | 3 => rfl | 4 => rfl | 5 => rfl | 6 => rfl | 7 => rfl | 8 => rfl | 9 => rfl | 10 => rfl | 11 => rfl | 12 => rfl | 13 => rfl | 14 => rfl | 15 => rfl | 16 => rfl | 17 => rfl | 18 => rfl
    | j + 19 => rfl))
theorem md_k3 (a : At h b (mdL b s l r)) : h.2 (b + 3) = some (cI 2 2 (s.2 2)) := a 3 _ rfl
theorem md_l3 (a : At h b (mdL b s l r)) (hi : inR x 2 = true) : ldI h 2 (b + 3) x = some (s.2 2 x.toNatClampNeg) := ldI_at (a 3 _ rfl) hi
theorem md_m3 (a : At h b (mdL b s l r)) (hi : i < 2) : ldI h 2 (b + 3) (nI i) = some (s.2 2 i) := ldN_at (a 3 _ rfl) hi (by decide)
theorem md_b3 {f : Nat → Int32} : hup (blk b (mdL b s l r) h) (b + 3) (cI 2 2 f) = blk b (mdL b (sB s 2 f) l r) h := blk_hup (k := 3) (fun j => by match j with
    | 0 => rfl | 1 => rfl | 2 => rfl | 3 => rfl | 4 => rfl | 5 => rfl | 6 => rfl | 7 => rfl | 8 => rfl | 9 => rfl | 10 => rfl | 11 => rfl | 12 => rfl | 13 => rfl | 14 => rfl | 15 => rfl | 16 => rfl | 17 => rfl | 18 => rfl
    | j + 19 => rfl)
theorem md_k4 (a : At h b (mdL b s l r)) : h.2 (b + 4) = some (cI 0 3 (s.2 3)) := a 4 _ rfl
theorem md_l4 (a : At h b (mdL b s l r)) (hi : inR x 3 = true) : ldI h 0 (b + 4) x = some (s.2 3 x.toNatClampNeg) := ldI_at (a 4 _ rfl) hi
theorem md_m4 (a : At h b (mdL b s l r)) (hi : i < 3) : ldI h 0 (b + 4) (nI i) = some (s.2 3 i) := ldN_at (a 4 _ rfl) hi (by decide)
theorem md_b4 {f : Nat → Int32} : hup (blk b (mdL b s l r) h) (b + 4) (cI 0 3 f) = blk b (mdL b (sB s 3 f) l r) h := blk_hup (k := 4) (fun j => by match j with
    | 0 => rfl | 1 => rfl | 2 => rfl | 3 => rfl | 4 => rfl | 5 => rfl | 6 => rfl | 7 => rfl | 8 => rfl | 9 => rfl | 10 => rfl | 11 => rfl | 12 => rfl | 13 => rfl | 14 => rfl | 15 => rfl | 16 => rfl | 17 => rfl | 18 => rfl
    | j + 19 => rfl)
theorem md_w4 (hi : i < 3) : stI (blk b (mdL b s l r) h) 0 (b + 4) (nI i) x = some (blk b (mdL b (sA s 3 i x) l r) h) := by
  rw [stN_at (blk_at b (mdL b s l r) h 4 _ rfl) hi (by decide)]
  exact congrArg some (blk_hup (k := 4) (fun j => by match j with
    | 0 => rfl | 1 => rfl | 2 => rfl | 3 => rfl | 4 => rfl | 5 => rfl | 6 => rfl | 7 => rfl | 8 => rfl | 9 => rfl | 10 => rfl | 11 => rfl | 12 => rfl | 13 => rfl | 14 => rfl | 15 => rfl | 16 => rfl | 17 => rfl | 18 => rfl
    | j + 19 => rfl))
theorem md_k5 (a : At h b (mdL b s l r)) : h.2 (b + 5) = some (cI 0 6 (s.2 4)) := a 5 _ rfl
theorem md_l5 (a : At h b (mdL b s l r)) (hi : inR x 6 = true) : ldI h 0 (b + 5) x = some (s.2 4 x.toNatClampNeg) := ldI_at (a 5 _ rfl) hi
theorem md_m5 (a : At h b (mdL b s l r)) (hi : i < 6) : ldI h 0 (b + 5) (nI i) = some (s.2 4 i) := ldN_at (a 5 _ rfl) hi (by decide)
theorem md_b5 {f : Nat → Int32} : hup (blk b (mdL b s l r) h) (b + 5) (cI 0 6 f) = blk b (mdL b (sB s 4 f) l r) h := blk_hup (k := 5) (fun j => by match j with
    | 0 => rfl | 1 => rfl | 2 => rfl | 3 => rfl | 4 => rfl | 5 => rfl | 6 => rfl | 7 => rfl | 8 => rfl | 9 => rfl | 10 => rfl | 11 => rfl | 12 => rfl | 13 => rfl | 14 => rfl | 15 => rfl | 16 => rfl | 17 => rfl | 18 => rfl
    | j + 19 => rfl)
theorem md_w5 (hi : i < 6) : stI (blk b (mdL b s l r) h) 0 (b + 5) (nI i) x = some (blk b (mdL b (sA s 4 i x) l r) h) := by
  rw [stN_at (blk_at b (mdL b s l r) h 5 _ rfl) hi (by decide)]
  exact congrArg some (blk_hup (k := 5) (fun j => by match j with
    | 0 => rfl | 1 => rfl | 2 => rfl | 3 => rfl | 4 => rfl | 5 => rfl | 6 => rfl | 7 => rfl | 8 => rfl | 9 => rfl | 10 => rfl | 11 => rfl | 12 => rfl | 13 => rfl | 14 => rfl | 15 => rfl | 16 => rfl | 17 => rfl | 18 => rfl
    | j + 19 => rfl))
theorem md_k6 (a : At h b (mdL b s l r)) : h.2 (b + 6) = some (cI 0 6 (s.2 5)) := a 6 _ rfl
theorem md_l6 (a : At h b (mdL b s l r)) (hi : inR x 6 = true) : ldI h 0 (b + 6) x = some (s.2 5 x.toNatClampNeg) := ldI_at (a 6 _ rfl) hi
theorem md_m6 (a : At h b (mdL b s l r)) (hi : i < 6) : ldI h 0 (b + 6) (nI i) = some (s.2 5 i) := ldN_at (a 6 _ rfl) hi (by decide)
theorem md_b6 {f : Nat → Int32} : hup (blk b (mdL b s l r) h) (b + 6) (cI 0 6 f) = blk b (mdL b (sB s 5 f) l r) h := blk_hup (k := 6) (fun j => by match j with
    | 0 => rfl | 1 => rfl | 2 => rfl | 3 => rfl | 4 => rfl | 5 => rfl | 6 => rfl | 7 => rfl | 8 => rfl | 9 => rfl | 10 => rfl | 11 => rfl | 12 => rfl | 13 => rfl | 14 => rfl | 15 => rfl | 16 => rfl | 17 => rfl | 18 => rfl
    | j + 19 => rfl)
theorem md_w6 (hi : i < 6) : stI (blk b (mdL b s l r) h) 0 (b + 6) (nI i) x = some (blk b (mdL b (sA s 5 i x) l r) h) := by
  rw [stN_at (blk_at b (mdL b s l r) h 6 _ rfl) hi (by decide)]
  exact congrArg some (blk_hup (k := 6) (fun j => by match j with
    | 0 => rfl | 1 => rfl | 2 => rfl | 3 => rfl | 4 => rfl | 5 => rfl | 6 => rfl | 7 => rfl | 8 => rfl | 9 => rfl | 10 => rfl | 11 => rfl | 12 => rfl | 13 => rfl | 14 => rfl | 15 => rfl | 16 => rfl | 17 => rfl | 18 => rfl
    | j + 19 => rfl))
theorem md_k7 (a : At h b (mdL b s l r)) : h.2 (b + 7) = some (cI 0 6 (s.2 6)) := a 7 _ rfl
theorem md_l7 (a : At h b (mdL b s l r)) (hi : inR x 6 = true) : ldI h 0 (b + 7) x = some (s.2 6 x.toNatClampNeg) := ldI_at (a 7 _ rfl) hi
theorem md_m7 (a : At h b (mdL b s l r)) (hi : i < 6) : ldI h 0 (b + 7) (nI i) = some (s.2 6 i) := ldN_at (a 7 _ rfl) hi (by decide)
theorem md_b7 {f : Nat → Int32} : hup (blk b (mdL b s l r) h) (b + 7) (cI 0 6 f) = blk b (mdL b (sB s 6 f) l r) h := blk_hup (k := 7) (fun j => by match j with
    | 0 => rfl | 1 => rfl | 2 => rfl | 3 => rfl | 4 => rfl | 5 => rfl | 6 => rfl | 7 => rfl | 8 => rfl | 9 => rfl | 10 => rfl | 11 => rfl | 12 => rfl | 13 => rfl | 14 => rfl | 15 => rfl | 16 => rfl | 17 => rfl | 18 => rfl
    | j + 19 => rfl)
theorem md_w7 (hi : i < 6) : stI (blk b (mdL b s l r) h) 0 (b + 7) (nI i) x = some (blk b (mdL b (sA s 6 i x) l r) h) := by
  rw [stN_at (blk_at b (mdL b s l r) h 7 _ rfl) hi (by decide)]
  exact congrArg some (blk_hup (k := 7) (fun j => by match j with
    | 0 => rfl | 1 => rfl | 2 => rfl | 3 => rfl | 4 => rfl | 5 => rfl | 6 => rfl | 7 => rfl | 8 => rfl | 9 => rfl | 10 => rfl | 11 => rfl | 12 => rfl | 13 => rfl | 14 => rfl | 15 => rfl | 16 => rfl | 17 => rfl | 18 => rfl
    | j + 19 => rfl))
theorem md_k8 (a : At h b (mdL b s l r)) : h.2 (b + 8) = some (cI 0 6 (s.2 7)) := a 8 _ rfl
theorem md_l8 (a : At h b (mdL b s l r)) (hi : inR x 6 = true) : ldI h 0 (b + 8) x = some (s.2 7 x.toNatClampNeg) := ldI_at (a 8 _ rfl) hi
theorem md_m8 (a : At h b (mdL b s l r)) (hi : i < 6) : ldI h 0 (b + 8) (nI i) = some (s.2 7 i) := ldN_at (a 8 _ rfl) hi (by decide)
theorem md_b8 {f : Nat → Int32} : hup (blk b (mdL b s l r) h) (b + 8) (cI 0 6 f) = blk b (mdL b (sB s 7 f) l r) h := blk_hup (k := 8) (fun j => by match j with
    | 0 => rfl | 1 => rfl | 2 => rfl | 3 => rfl | 4 => rfl | 5 => rfl | 6 => rfl | 7 => rfl | 8 => rfl | 9 => rfl | 10 => rfl | 11 => rfl | 12 => rfl | 13 => rfl | 14 => rfl | 15 => rfl | 16 => rfl | 17 => rfl | 18 => rfl
    | j + 19 => rfl)
theorem md_w8 (hi : i < 6) : stI (blk b (mdL b s l r) h) 0 (b + 8) (nI i) x = some (blk b (mdL b (sA s 7 i x) l r) h) := by
  rw [stN_at (blk_at b (mdL b s l r) h 8 _ rfl) hi (by decide)]
  exact congrArg some (blk_hup (k := 8) (fun j => by match j with
    | 0 => rfl | 1 => rfl | 2 => rfl | 3 => rfl | 4 => rfl | 5 => rfl | 6 => rfl | 7 => rfl | 8 => rfl | 9 => rfl | 10 => rfl | 11 => rfl | 12 => rfl | 13 => rfl | 14 => rfl | 15 => rfl | 16 => rfl | 17 => rfl | 18 => rfl
    | j + 19 => rfl))
theorem md_k9 (a : At h b (mdL b s l r)) : h.2 (b + 9) = some (cI 0 6 (s.2 8)) := a 9 _ rfl
theorem md_l9 (a : At h b (mdL b s l r)) (hi : inR x 6 = true) : ldI h 0 (b + 9) x = some (s.2 8 x.toNatClampNeg) := ldI_at (a 9 _ rfl) hi
theorem md_m9 (a : At h b (mdL b s l r)) (hi : i < 6) : ldI h 0 (b + 9) (nI i) = some (s.2 8 i) := ldN_at (a 9 _ rfl) hi (by decide)
theorem md_b9 {f : Nat → Int32} : hup (blk b (mdL b s l r) h) (b + 9) (cI 0 6 f) = blk b (mdL b (sB s 8 f) l r) h := blk_hup (k := 9) (fun j => by match j with
    | 0 => rfl | 1 => rfl | 2 => rfl | 3 => rfl | 4 => rfl | 5 => rfl | 6 => rfl | 7 => rfl | 8 => rfl | 9 => rfl | 10 => rfl | 11 => rfl | 12 => rfl | 13 => rfl | 14 => rfl | 15 => rfl | 16 => rfl | 17 => rfl | 18 => rfl
    | j + 19 => rfl)
theorem md_w9 (hi : i < 6) : stI (blk b (mdL b s l r) h) 0 (b + 9) (nI i) x = some (blk b (mdL b (sA s 8 i x) l r) h) := by
  rw [stN_at (blk_at b (mdL b s l r) h 9 _ rfl) hi (by decide)]
  exact congrArg some (blk_hup (k := 9) (fun j => by match j with
    | 0 => rfl | 1 => rfl | 2 => rfl | 3 => rfl | 4 => rfl | 5 => rfl | 6 => rfl | 7 => rfl | 8 => rfl | 9 => rfl | 10 => rfl | 11 => rfl | 12 => rfl | 13 => rfl | 14 => rfl | 15 => rfl | 16 => rfl | 17 => rfl | 18 => rfl
    | j + 19 => rfl))
theorem md_k10 (a : At h b (mdL b s l r)) : h.2 (b + 10) = some (cI 0 48 (s.2 9)) := a 10 _ rfl
theorem md_l10 (a : At h b (mdL b s l r)) (hi : inR x 48 = true) : ldI h 0 (b + 10) x = some (s.2 9 x.toNatClampNeg) := ldI_at (a 10 _ rfl) hi
theorem md_m10 (a : At h b (mdL b s l r)) (hi : i < 48) : ldI h 0 (b + 10) (nI i) = some (s.2 9 i) := ldN_at (a 10 _ rfl) hi (by decide)
theorem md_b10 {f : Nat → Int32} : hup (blk b (mdL b s l r) h) (b + 10) (cI 0 48 f) = blk b (mdL b (sB s 9 f) l r) h := blk_hup (k := 10) (fun j => by match j with
    | 0 => rfl | 1 => rfl | 2 => rfl | 3 => rfl | 4 => rfl | 5 => rfl | 6 => rfl | 7 => rfl | 8 => rfl | 9 => rfl | 10 => rfl | 11 => rfl | 12 => rfl | 13 => rfl | 14 => rfl | 15 => rfl | 16 => rfl | 17 => rfl | 18 => rfl
    | j + 19 => rfl)
theorem md_w10 (hi : i < 48) : stI (blk b (mdL b s l r) h) 0 (b + 10) (nI i) x = some (blk b (mdL b (sA s 9 i x) l r) h) := by
  rw [stN_at (blk_at b (mdL b s l r) h 10 _ rfl) hi (by decide)]
  exact congrArg some (blk_hup (k := 10) (fun j => by match j with
    | 0 => rfl | 1 => rfl | 2 => rfl | 3 => rfl | 4 => rfl | 5 => rfl | 6 => rfl | 7 => rfl | 8 => rfl | 9 => rfl | 10 => rfl | 11 => rfl | 12 => rfl | 13 => rfl | 14 => rfl | 15 => rfl | 16 => rfl | 17 => rfl | 18 => rfl
    | j + 19 => rfl))
theorem md_k11 (a : At h b (mdL b s l r)) : h.2 (b + 11) = some (cI 0 48 (s.2 10)) := a 11 _ rfl
theorem md_l11 (a : At h b (mdL b s l r)) (hi : inR x 48 = true) : ldI h 0 (b + 11) x = some (s.2 10 x.toNatClampNeg) := ldI_at (a 11 _ rfl) hi
theorem md_m11 (a : At h b (mdL b s l r)) (hi : i < 48) : ldI h 0 (b + 11) (nI i) = some (s.2 10 i) := ldN_at (a 11 _ rfl) hi (by decide)
theorem md_b11 {f : Nat → Int32} : hup (blk b (mdL b s l r) h) (b + 11) (cI 0 48 f) = blk b (mdL b (sB s 10 f) l r) h := blk_hup (k := 11) (fun j => by match j with
    | 0 => rfl | 1 => rfl | 2 => rfl | 3 => rfl | 4 => rfl | 5 => rfl | 6 => rfl | 7 => rfl | 8 => rfl | 9 => rfl | 10 => rfl | 11 => rfl | 12 => rfl | 13 => rfl | 14 => rfl | 15 => rfl | 16 => rfl | 17 => rfl | 18 => rfl
    | j + 19 => rfl)
theorem md_w11 (hi : i < 48) : stI (blk b (mdL b s l r) h) 0 (b + 11) (nI i) x = some (blk b (mdL b (sA s 10 i x) l r) h) := by
  rw [stN_at (blk_at b (mdL b s l r) h 11 _ rfl) hi (by decide)]
  exact congrArg some (blk_hup (k := 11) (fun j => by match j with
    | 0 => rfl | 1 => rfl | 2 => rfl | 3 => rfl | 4 => rfl | 5 => rfl | 6 => rfl | 7 => rfl | 8 => rfl | 9 => rfl | 10 => rfl | 11 => rfl | 12 => rfl | 13 => rfl | 14 => rfl | 15 => rfl | 16 => rfl | 17 => rfl | 18 => rfl
    | j + 19 => rfl))
theorem md_k12 (a : At h b (mdL b s l r)) : h.2 (b + 12) = some (cI 0 4 (s.2 11)) := a 12 _ rfl
theorem md_l12 (a : At h b (mdL b s l r)) (hi : inR x 4 = true) : ldI h 0 (b + 12) x = some (s.2 11 x.toNatClampNeg) := ldI_at (a 12 _ rfl) hi
theorem md_m12 (a : At h b (mdL b s l r)) (hi : i < 4) : ldI h 0 (b + 12) (nI i) = some (s.2 11 i) := ldN_at (a 12 _ rfl) hi (by decide)
theorem md_b12 {f : Nat → Int32} : hup (blk b (mdL b s l r) h) (b + 12) (cI 0 4 f) = blk b (mdL b (sB s 11 f) l r) h := blk_hup (k := 12) (fun j => by match j with
    | 0 => rfl | 1 => rfl | 2 => rfl | 3 => rfl | 4 => rfl | 5 => rfl | 6 => rfl | 7 => rfl | 8 => rfl | 9 => rfl | 10 => rfl | 11 => rfl | 12 => rfl | 13 => rfl | 14 => rfl | 15 => rfl | 16 => rfl | 17 => rfl | 18 => rfl
    | j + 19 => rfl)
theorem md_w12 (hi : i < 4) : stI (blk b (mdL b s l r) h) 0 (b + 12) (nI i) x = some (blk b (mdL b (sA s 11 i x) l r) h) := by
  rw [stN_at (blk_at b (mdL b s l r) h 12 _ rfl) hi (by decide)]
  exact congrArg some (blk_hup (k := 12) (fun j => by match j with
    | 0 => rfl | 1 => rfl | 2 => rfl | 3 => rfl | 4 => rfl | 5 => rfl | 6 => rfl | 7 => rfl | 8 => rfl | 9 => rfl | 10 => rfl | 11 => rfl | 12 => rfl | 13 => rfl | 14 => rfl | 15 => rfl | 16 => rfl | 17 => rfl | 18 => rfl
    | j + 19 => rfl))
theorem md_k13 (a : At h b (mdL b s l r)) : h.2 (b + 13) = some (cI 0 4 (s.2 12)) := a 13 _ rfl
theorem md_l13 (a : At h b (mdL b s l r)) (hi : inR x 4 = true) : ldI h 0 (b + 13) x = some (s.2 12 x.toNatClampNeg) := ldI_at (a 13 _ rfl) hi
theorem md_m13 (a : At h b (mdL b s l r)) (hi : i < 4) : ldI h 0 (b + 13) (nI i) = some (s.2 12 i) := ldN_at (a 13 _ rfl) hi (by decide)
theorem md_b13 {f : Nat → Int32} : hup (blk b (mdL b s l r) h) (b + 13) (cI 0 4 f) = blk b (mdL b (sB s 12 f) l r) h := blk_hup (k := 13) (fun j => by match j with
    | 0 => rfl | 1 => rfl | 2 => rfl | 3 => rfl | 4 => rfl | 5 => rfl | 6 => rfl | 7 => rfl | 8 => rfl | 9 => rfl | 10 => rfl | 11 => rfl | 12 => rfl | 13 => rfl | 14 => rfl | 15 => rfl | 16 => rfl | 17 => rfl | 18 => rfl
    | j + 19 => rfl)
theorem md_w13 (hi : i < 4) : stI (blk b (mdL b s l r) h) 0 (b + 13) (nI i) x = some (blk b (mdL b (sA s 12 i x) l r) h) := by
  rw [stN_at (blk_at b (mdL b s l r) h 13 _ rfl) hi (by decide)]
  exact congrArg some (blk_hup (k := 13) (fun j => by match j with
    | 0 => rfl | 1 => rfl | 2 => rfl | 3 => rfl | 4 => rfl | 5 => rfl | 6 => rfl | 7 => rfl | 8 => rfl | 9 => rfl | 10 => rfl | 11 => rfl | 12 => rfl | 13 => rfl | 14 => rfl | 15 => rfl | 16 => rfl | 17 => rfl | 18 => rfl
    | j + 19 => rfl))
theorem md_k14 (a : At h b (mdL b s l r)) : h.2 (b + 14) = some (cJ 104 (r 0)) := a 14 _ rfl
theorem md_m14 (a : At h b (mdL b s l r)) (hi : i < 104) : ldJ h (b + 14) (nI i) = some (r 0 i) := ldJN_at (a 14 _ rfl) hi (by decide)
theorem md_b14 {f : Nat → Int64} : hup (blk b (mdL b s l r) h) (b + 14) (cJ 104 f) = blk b (mdL b s l (sK r 0 f)) h := blk_hup (k := 14) (fun j => by match j with
    | 0 => rfl | 1 => rfl | 2 => rfl | 3 => rfl | 4 => rfl | 5 => rfl | 6 => rfl | 7 => rfl | 8 => rfl | 9 => rfl | 10 => rfl | 11 => rfl | 12 => rfl | 13 => rfl | 14 => rfl | 15 => rfl | 16 => rfl | 17 => rfl | 18 => rfl
    | j + 19 => rfl)
theorem md_w14 {x : Int64} (hi : i < 104) : stJ (blk b (mdL b s l r) h) (b + 14) (nI i) x = some (blk b (mdL b s l (sJ r 0 i x)) h) := by
  rw [stJN_at (blk_at b (mdL b s l r) h 14 _ rfl) hi (by decide)]
  exact congrArg some (blk_hup (k := 14) (fun j => by match j with
    | 0 => rfl | 1 => rfl | 2 => rfl | 3 => rfl | 4 => rfl | 5 => rfl | 6 => rfl | 7 => rfl | 8 => rfl | 9 => rfl | 10 => rfl | 11 => rfl | 12 => rfl | 13 => rfl | 14 => rfl | 15 => rfl | 16 => rfl | 17 => rfl | 18 => rfl
    | j + 19 => rfl))
theorem md_k15 (a : At h b (mdL b s l r)) : h.2 (b + 15) = some (cJ 104 (r 1)) := a 15 _ rfl
theorem md_m15 (a : At h b (mdL b s l r)) (hi : i < 104) : ldJ h (b + 15) (nI i) = some (r 1 i) := ldJN_at (a 15 _ rfl) hi (by decide)
theorem md_b15 {f : Nat → Int64} : hup (blk b (mdL b s l r) h) (b + 15) (cJ 104 f) = blk b (mdL b s l (sK r 1 f)) h := blk_hup (k := 15) (fun j => by match j with
    | 0 => rfl | 1 => rfl | 2 => rfl | 3 => rfl | 4 => rfl | 5 => rfl | 6 => rfl | 7 => rfl | 8 => rfl | 9 => rfl | 10 => rfl | 11 => rfl | 12 => rfl | 13 => rfl | 14 => rfl | 15 => rfl | 16 => rfl | 17 => rfl | 18 => rfl
    | j + 19 => rfl)
theorem md_w15 {x : Int64} (hi : i < 104) : stJ (blk b (mdL b s l r) h) (b + 15) (nI i) x = some (blk b (mdL b s l (sJ r 1 i x)) h) := by
  rw [stJN_at (blk_at b (mdL b s l r) h 15 _ rfl) hi (by decide)]
  exact congrArg some (blk_hup (k := 15) (fun j => by match j with
    | 0 => rfl | 1 => rfl | 2 => rfl | 3 => rfl | 4 => rfl | 5 => rfl | 6 => rfl | 7 => rfl | 8 => rfl | 9 => rfl | 10 => rfl | 11 => rfl | 12 => rfl | 13 => rfl | 14 => rfl | 15 => rfl | 16 => rfl | 17 => rfl | 18 => rfl
    | j + 19 => rfl))
theorem md_k16 (a : At h b (mdL b s l r)) : h.2 (b + 16) = some (cI 0 150 (s.2 13)) := a 16 _ rfl
theorem md_l16 (a : At h b (mdL b s l r)) (hi : inR x 150 = true) : ldI h 0 (b + 16) x = some (s.2 13 x.toNatClampNeg) := ldI_at (a 16 _ rfl) hi
theorem md_m16 (a : At h b (mdL b s l r)) (hi : i < 150) : ldI h 0 (b + 16) (nI i) = some (s.2 13 i) := ldN_at (a 16 _ rfl) hi (by decide)
theorem md_b16 {f : Nat → Int32} : hup (blk b (mdL b s l r) h) (b + 16) (cI 0 150 f) = blk b (mdL b (sB s 13 f) l r) h := blk_hup (k := 16) (fun j => by match j with
    | 0 => rfl | 1 => rfl | 2 => rfl | 3 => rfl | 4 => rfl | 5 => rfl | 6 => rfl | 7 => rfl | 8 => rfl | 9 => rfl | 10 => rfl | 11 => rfl | 12 => rfl | 13 => rfl | 14 => rfl | 15 => rfl | 16 => rfl | 17 => rfl | 18 => rfl
    | j + 19 => rfl)
theorem md_w16 (hi : i < 150) : stI (blk b (mdL b s l r) h) 0 (b + 16) (nI i) x = some (blk b (mdL b (sA s 13 i x) l r) h) := by
  rw [stN_at (blk_at b (mdL b s l r) h 16 _ rfl) hi (by decide)]
  exact congrArg some (blk_hup (k := 16) (fun j => by match j with
    | 0 => rfl | 1 => rfl | 2 => rfl | 3 => rfl | 4 => rfl | 5 => rfl | 6 => rfl | 7 => rfl | 8 => rfl | 9 => rfl | 10 => rfl | 11 => rfl | 12 => rfl | 13 => rfl | 14 => rfl | 15 => rfl | 16 => rfl | 17 => rfl | 18 => rfl
    | j + 19 => rfl))
theorem md_k17 (a : At h b (mdL b s l r)) : h.2 (b + 17) = some (cI 0 151 (s.2 14)) := a 17 _ rfl
theorem md_l17 (a : At h b (mdL b s l r)) (hi : inR x 151 = true) : ldI h 0 (b + 17) x = some (s.2 14 x.toNatClampNeg) := ldI_at (a 17 _ rfl) hi
theorem md_m17 (a : At h b (mdL b s l r)) (hi : i < 151) : ldI h 0 (b + 17) (nI i) = some (s.2 14 i) := ldN_at (a 17 _ rfl) hi (by decide)
theorem md_b17 {f : Nat → Int32} : hup (blk b (mdL b s l r) h) (b + 17) (cI 0 151 f) = blk b (mdL b (sB s 14 f) l r) h := blk_hup (k := 17) (fun j => by match j with
    | 0 => rfl | 1 => rfl | 2 => rfl | 3 => rfl | 4 => rfl | 5 => rfl | 6 => rfl | 7 => rfl | 8 => rfl | 9 => rfl | 10 => rfl | 11 => rfl | 12 => rfl | 13 => rfl | 14 => rfl | 15 => rfl | 16 => rfl | 17 => rfl | 18 => rfl
    | j + 19 => rfl)
theorem md_w17 (hi : i < 151) : stI (blk b (mdL b s l r) h) 0 (b + 17) (nI i) x = some (blk b (mdL b (sA s 14 i x) l r) h) := by
  rw [stN_at (blk_at b (mdL b s l r) h 17 _ rfl) hi (by decide)]
  exact congrArg some (blk_hup (k := 17) (fun j => by match j with
    | 0 => rfl | 1 => rfl | 2 => rfl | 3 => rfl | 4 => rfl | 5 => rfl | 6 => rfl | 7 => rfl | 8 => rfl | 9 => rfl | 10 => rfl | 11 => rfl | 12 => rfl | 13 => rfl | 14 => rfl | 15 => rfl | 16 => rfl | 17 => rfl | 18 => rfl
    | j + 19 => rfl))
theorem md_k18 (a : At h b (mdL b s l r)) : h.2 (b + 18) = some (cI 0 3 (s.2 15)) := a 18 _ rfl
theorem md_l18 (a : At h b (mdL b s l r)) (hi : inR x 3 = true) : ldI h 0 (b + 18) x = some (s.2 15 x.toNatClampNeg) := ldI_at (a 18 _ rfl) hi
theorem md_m18 (a : At h b (mdL b s l r)) (hi : i < 3) : ldI h 0 (b + 18) (nI i) = some (s.2 15 i) := ldN_at (a 18 _ rfl) hi (by decide)
theorem md_b18 {f : Nat → Int32} : hup (blk b (mdL b s l r) h) (b + 18) (cI 0 3 f) = blk b (mdL b (sB s 15 f) l r) h := blk_hup (k := 18) (fun j => by match j with
    | 0 => rfl | 1 => rfl | 2 => rfl | 3 => rfl | 4 => rfl | 5 => rfl | 6 => rfl | 7 => rfl | 8 => rfl | 9 => rfl | 10 => rfl | 11 => rfl | 12 => rfl | 13 => rfl | 14 => rfl | 15 => rfl | 16 => rfl | 17 => rfl | 18 => rfl
    | j + 19 => rfl)
theorem md_w18 (hi : i < 3) : stI (blk b (mdL b s l r) h) 0 (b + 18) (nI i) x = some (blk b (mdL b (sA s 15 i x) l r) h) := by
  rw [stN_at (blk_at b (mdL b s l r) h 18 _ rfl) hi (by decide)]
  exact congrArg some (blk_hup (k := 18) (fun j => by match j with
    | 0 => rfl | 1 => rfl | 2 => rfl | 3 => rfl | 4 => rfl | 5 => rfl | 6 => rfl | 7 => rfl | 8 => rfl | 9 => rfl | 10 => rfl | 11 => rfl | 12 => rfl | 13 => rfl | 14 => rfl | 15 => rfl | 16 => rfl | 17 => rfl | 18 => rfl
    | j + 19 => rfl))
theorem md_none {s' : Blk} {l' : Nat → Int64} {r' : Nat → Nat → Int64} : ∀ k, mdL b s' l' r' k = none → mdL b s l r k = none := fun k => by
  match k with
  | 0 => exact fun e => by cases e
  | 1 => exact fun e => by cases e
  | 2 => exact fun e => by cases e
  | 3 => exact fun e => by cases e
  | 4 => exact fun e => by cases e
  | 5 => exact fun e => by cases e
  | 6 => exact fun e => by cases e
  | 7 => exact fun e => by cases e
  | 8 => exact fun e => by cases e
  | 9 => exact fun e => by cases e
  | 10 => exact fun e => by cases e
  | 11 => exact fun e => by cases e
  | 12 => exact fun e => by cases e
  | 13 => exact fun e => by cases e
  | 14 => exact fun e => by cases e
  | 15 => exact fun e => by cases e
  | 16 => exact fun e => by cases e
  | 17 => exact fun e => by cases e
  | 18 => exact fun e => by cases e
  | k + 19 => exact fun _ => rfl
theorem md_over {s' : Blk} {l' : Nat → Int64} {r' : Nat → Nat → Int64} : blk b (mdL b s' l' r') (blk b (mdL b s l r) h) = blk b (mdL b s' l' r') h := blk_blk md_none
end
