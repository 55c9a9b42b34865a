/-! ===== the blocks of Scene and House: laid by program ===== -/
def snL (b : Nat) (s : Blk) : Nat → Option Cel := fun k => match k with
  | 0 => some (cO 3 [.int (s.1 0), .ref (b + 1), .ref (b + 2), .ref (b + 3), .ref (b + 4), .ref (b + 5)])
  | 1 => some (cI 0 6 (s.2 0))
  | 2 => some (cI 0 6 (s.2 1))
  | 3 => some (cI 0 6 (s.2 2))
  | 4 => some (cI 0 6 (s.2 3))
  | 5 => some (cI 0 6 (s.2 4))
  | _ => none
section
variable {h : Hea} {b : Nat} {s : Blk} {i : Nat} {x : Int32}
theorem sn_sup {k : Nat} (e : (snL b s k) ≠ none) : k = 0 ∨ k = 1 ∨ k = 2 ∨ k = 3 ∨ k = 4 ∨ k = 5 := by
  by_cases h : k = 0 ∨ k = 1 ∨ k = 2 ∨ k = 3 ∨ k = 4 ∨ k = 5
  · exact h
  · exfalso
    apply e
    unfold snL
    split <;> first | rfl | (exfalso; omega)
theorem sn_o (a : At h b (snL b s)) : isO h b 3 = some () := isO_at (at_0 a rfl)
theorem sn_f0 (a : At h b (snL b s)) : gI h b 3 0 = some (s.1 0) := gI_at (at_0 a rfl) rfl
theorem sn_p0 : pV (blk b (snL b s) h) b 3 0 (.int x) = some (blk b (snL b (sS s 0 x)) h) := by
  rw [pV_at (at_0 (blk_at b (snL b s) h) rfl) (Nat.le_of_ble_eq_true rfl)]
  exact congrArg some (blk_hup (k := 0) (fun j => by match j with
    | 0 => rfl
    | 1 => rfl | 2 => rfl | 3 => rfl | 4 => rfl | 5 => rfl
    | j + 6 => rfl))
theorem sn_f1 (a : At h b (snL b s)) : gR h b 3 1 = some (b + 1) := gR_at (at_0 a rfl) rfl
theorem sn_f2 (a : At h b (snL b s)) : gR h b 3 2 = some (b + 2) := gR_at (at_0 a rfl) rfl
theorem sn_f3 (a : At h b (snL b s)) : gR h b 3 3 = some (b + 3) := gR_at (at_0 a rfl) rfl
theorem sn_f4 (a : At h b (snL b s)) : gR h b 3 4 = some (b + 4) := gR_at (at_0 a rfl) rfl
theorem sn_f5 (a : At h b (snL b s)) : gR h b 3 5 = some (b + 5) := gR_at (at_0 a rfl) rfl
theorem sn_c0 (a : At h b (snL b s)) : h.2 (b + 1) = some (cI 0 6 (s.2 0)) := a 1 _ rfl
theorem sn_l0 (a : At h b (snL b s)) (hi : inR x 6 = true) : ldI h 0 (b + 1) x = some (s.2 0 x.toNatClampNeg) := ldI_at (a 1 _ rfl) hi
theorem sn_m0 (a : At h b (snL b s)) (hi : i < 6) : ldI h 0 (b + 1) (nI i) = some (s.2 0 i) := ldN_at (a 1 _ rfl) hi (by decide)
theorem sn_w0 (hi : i < 6) : stI (blk b (snL b s) h) 0 (b + 1) (nI i) x = some (blk b (snL b (sA s 0 i x)) h) := by
  rw [stN_at (blk_at b (snL b s) h 1 _ rfl) hi (by decide)]
  exact congrArg some (blk_hup (k := 1) (fun j => by match j with
    | 0 => rfl | 1 => rfl | 2 => rfl | 3 => rfl | 4 => rfl | 5 => rfl
    | j + 6 => rfl))
theorem sn_b0 {f : Nat → Int32} : hup (blk b (snL b s) h) (b + 1) (cI 0 6 f) = blk b (snL b (sB s 0 f)) h := blk_hup (k := 1) (fun j => by match j with
    | 0 => rfl | 1 => rfl | 2 => rfl | 3 => rfl | 4 => rfl | 5 => rfl
    | j + 6 => rfl)
theorem sn_c1 (a : At h b (snL b s)) : h.2 (b + 2) = some (cI 0 6 (s.2 1)) := a 2 _ rfl
theorem sn_l1 (a : At h b (snL b s)) (hi : inR x 6 = true) : ldI h 0 (b + 2) x = some (s.2 1 x.toNatClampNeg) := ldI_at (a 2 _ rfl) hi
theorem sn_m1 (a : At h b (snL b s)) (hi : i < 6) : ldI h 0 (b + 2) (nI i) = some (s.2 1 i) := ldN_at (a 2 _ rfl) hi (by decide)
theorem sn_w1 (hi : i < 6) : stI (blk b (snL b s) h) 0 (b + 2) (nI i) x = some (blk b (snL b (sA s 1 i x)) h) := by
  rw [stN_at (blk_at b (snL b s) h 2 _ rfl) hi (by decide)]
  exact congrArg some (blk_hup (k := 2) (fun j => by match j with
    | 0 => rfl | 1 => rfl | 2 => rfl | 3 => rfl | 4 => rfl | 5 => rfl
    | j + 6 => rfl))
theorem sn_b1 {f : Nat → Int32} : hup (blk b (snL b s) h) (b + 2) (cI 0 6 f) = blk b (snL b (sB s 1 f)) h := blk_hup (k := 2) (fun j => by match j with
    | 0 => rfl | 1 => rfl | 2 => rfl | 3 => rfl | 4 => rfl | 5 => rfl
    | j + 6 => rfl)
theorem sn_c2 (a : At h b (snL b s)) : h.2 (b + 3) = some (cI 0 6 (s.2 2)) := a 3 _ rfl
theorem sn_l2 (a : At h b (snL b s)) (hi : inR x 6 = true) : ldI h 0 (b + 3) x = some (s.2 2 x.toNatClampNeg) := ldI_at (a 3 _ rfl) hi
theorem sn_m2 (a : At h b (snL b s)) (hi : i < 6) : ldI h 0 (b + 3) (nI i) = some (s.2 2 i) := ldN_at (a 3 _ rfl) hi (by decide)
theorem sn_w2 (hi : i < 6) : stI (blk b (snL b s) h) 0 (b + 3) (nI i) x = some (blk b (snL b (sA s 2 i x)) h) := by
  rw [stN_at (blk_at b (snL b s) h 3 _ rfl) hi (by decide)]
  exact congrArg some (blk_hup (k := 3) (fun j => by match j with
    | 0 => rfl | 1 => rfl | 2 => rfl | 3 => rfl | 4 => rfl | 5 => rfl
    | j + 6 => rfl))
theorem sn_b2 {f : Nat → Int32} : hup (blk b (snL b s) h) (b + 3) (cI 0 6 f) = blk b (snL b (sB s 2 f)) h := blk_hup (k := 3) (fun j => by match j with
    | 0 => rfl | 1 => rfl | 2 => rfl | 3 => rfl | 4 => rfl | 5 => rfl
    | j + 6 => rfl)
theorem sn_c3 (a : At h b (snL b s)) : h.2 (b + 4) = some (cI 0 6 (s.2 3)) := a 4 _ rfl
theorem sn_l3 (a : At h b (snL b s)) (hi : inR x 6 = true) : ldI h 0 (b + 4) x = some (s.2 3 x.toNatClampNeg) := ldI_at (a 4 _ rfl) hi
theorem sn_m3 (a : At h b (snL b s)) (hi : i < 6) : ldI h 0 (b + 4) (nI i) = some (s.2 3 i) := ldN_at (a 4 _ rfl) hi (by decide)
theorem sn_w3 (hi : i < 6) : stI (blk b (snL b s) h) 0 (b + 4) (nI i) x = some (blk b (snL b (sA s 3 i x)) h) := by
  rw [stN_at (blk_at b (snL b s) h 4 _ rfl) hi (by decide)]
  exact congrArg some (blk_hup (k := 4) (fun j => by match j with
    | 0 => rfl | 1 => rfl | 2 => rfl | 3 => rfl | 4 => rfl | 5 => rfl
    | j + 6 => rfl))
theorem sn_b3 {f : Nat → Int32} : hup (blk b (snL b s) h) (b + 4) (cI 0 6 f) = blk b (snL b (sB s 3 f)) h := blk_hup (k := 4) (fun j => by match j with
    | 0 => rfl | 1 => rfl | 2 => rfl | 3 => rfl | 4 => rfl | 5 => rfl
    | j + 6 => rfl)
theorem sn_c4 (a : At h b (snL b s)) : h.2 (b + 5) = some (cI 0 6 (s.2 4)) := a 5 _ rfl
theorem sn_l4 (a : At h b (snL b s)) (hi : inR x 6 = true) : ldI h 0 (b + 5) x = some (s.2 4 x.toNatClampNeg) := ldI_at (a 5 _ rfl) hi
theorem sn_m4 (a : At h b (snL b s)) (hi : i < 6) : ldI h 0 (b + 5) (nI i) = some (s.2 4 i) := ldN_at (a 5 _ rfl) hi (by decide)
theorem sn_w4 (hi : i < 6) : stI (blk b (snL b s) h) 0 (b + 5) (nI i) x = some (blk b (snL b (sA s 4 i x)) h) := by
  rw [stN_at (blk_at b (snL b s) h 5 _ rfl) hi (by decide)]
  exact congrArg some (blk_hup (k := 5) (fun j => by match j with
    | 0 => rfl | 1 => rfl | 2 => rfl | 3 => rfl | 4 => rfl | 5 => rfl
    | j + 6 => rfl))
theorem sn_b4 {f : Nat → Int32} : hup (blk b (snL b s) h) (b + 5) (cI 0 6 f) = blk b (snL b (sB s 4 f)) h := blk_hup (k := 5) (fun j => by match j with
    | 0 => rfl | 1 => rfl | 2 => rfl | 3 => rfl | 4 => rfl | 5 => rfl
    | j + 6 => rfl)
theorem sn_none {s' : Blk} : ∀ k, snL b s' k = none → snL b s k = none := fun k => by
  match k with
  | 0 => exact fun e => by cases e
  | 1 => exact fun e => by cases e
  | 2 => exact fun e => by cases e
  | 3 => exact fun e => by cases e
  | 4 => exact fun e => by cases e
  | 5 => exact fun e => by cases e
  | k + 6 => exact fun _ => rfl
theorem sn_over {s' : Blk} : blk b (snL b s') (blk b (snL b s) h) = blk b (snL b s') h := blk_blk sn_none
end
def hoL (b : Nat) (s : Blk) : Nat → Option Cel := fun k => match k with
  | 0 => some (cO 1 [.int (s.1 0), .int (s.1 1), .ref (b + 1), .ref (b + 2), .ref (b + 3), .int (s.1 2), .int (s.1 3), .ref (b + 4), .ref (b + 5), .ref (b + 6), .int (s.1 4), .ref (b + 12), .ref (b + 13), .ref (b + 14)])
  | 1 => some (cI 0 8 (s.2 0))
  | 2 => some (cI 0 64 (s.2 1))
  | 3 => some (cI 0 12 (s.2 2))
  | 4 => some (cI 0 6 (s.2 3))
  | 5 => some (cI 0 6 (s.2 4))
  | 12 => some (cI 0 6 (s.2 5))
  | 13 => some (cI 0 6 (s.2 6))
  | 14 => some (cI 0 6 (s.2 7))
  | _ => none
section
variable {h : Hea} {b : Nat} {s : Blk} {i : Nat} {x : Int32}
theorem ho_sup {k : Nat} (e : (hoL b s k) ≠ none) : k = 0 ∨ k = 1 ∨ k = 2 ∨ k = 3 ∨ k = 4 ∨ k = 5 ∨ k = 12 ∨ k = 13 ∨ k = 14 := by
  by_cases h : k = 0 ∨ k = 1 ∨ k = 2 ∨ k = 3 ∨ k = 4 ∨ k = 5 ∨ k = 12 ∨ k = 13 ∨ k = 14
  · exact h
  · exfalso
    apply e
    unfold hoL
    split <;> first | rfl | (exfalso; omega)
theorem ho_o (a : At h b (hoL b s)) : isO h b 1 = some () := isO_at (at_0 a rfl)
theorem ho_f0 (a : At h b (hoL b s)) : gI h b 1 0 = some (s.1 0) := gI_at (at_0 a rfl) rfl
theorem ho_p0 : pV (blk b (hoL b s) h) b 1 0 (.int x) = some (blk b (hoL b (sS s 0 x)) h) := by
  rw [pV_at (at_0 (blk_at b (hoL b s) h) rfl) (Nat.le_of_ble_eq_true rfl)]
  exact congrArg some (blk_hup (k := 0) (fun j => by match j with
    | 0 => rfl
    | 1 => rfl | 2 => rfl | 3 => rfl | 4 => rfl | 5 => rfl | 6 => rfl | 7 => rfl | 8 => rfl | 9 => rfl | 10 => rfl | 11 => rfl | 12 => rfl | 13 => rfl | 14 => rfl
    | j + 15 => rfl))
theorem ho_f1 (a : At h b (hoL b s)) : gI h b 1 1 = some (s.1 1) := gI_at (at_0 a rfl) rfl
theorem ho_p1 : pV (blk b (hoL b s) h) b 1 1 (.int x) = some (blk b (hoL b (sS s 1 x)) h) := by
  rw [pV_at (at_0 (blk_at b (hoL b s) h) rfl) (Nat.le_of_ble_eq_true rfl)]
  exact congrArg some (blk_hup (k := 0) (fun j => by match j with
    | 0 => rfl
    | 1 => rfl | 2 => rfl | 3 => rfl | 4 => rfl | 5 => rfl | 6 => rfl | 7 => rfl | 8 => rfl | 9 => rfl | 10 => rfl | 11 => rfl | 12 => rfl | 13 => rfl | 14 => rfl
    | j + 15 => rfl))
theorem ho_f2 (a : At h b (hoL b s)) : gR h b 1 2 = some (b + 1) := gR_at (at_0 a rfl) rfl
theorem ho_f3 (a : At h b (hoL b s)) : gR h b 1 3 = some (b + 2) := gR_at (at_0 a rfl) rfl
theorem ho_f4 (a : At h b (hoL b s)) : gR h b 1 4 = some (b + 3) := gR_at (at_0 a rfl) rfl
theorem ho_f5 (a : At h b (hoL b s)) : gI h b 1 5 = some (s.1 2) := gI_at (at_0 a rfl) rfl
theorem ho_p5 : pV (blk b (hoL b s) h) b 1 5 (.int x) = some (blk b (hoL b (sS s 2 x)) h) := by
  rw [pV_at (at_0 (blk_at b (hoL b s) h) rfl) (Nat.le_of_ble_eq_true rfl)]
  exact congrArg some (blk_hup (k := 0) (fun j => by match j with
    | 0 => rfl
    | 1 => rfl | 2 => rfl | 3 => rfl | 4 => rfl | 5 => rfl | 6 => rfl | 7 => rfl | 8 => rfl | 9 => rfl | 10 => rfl | 11 => rfl | 12 => rfl | 13 => rfl | 14 => rfl
    | j + 15 => rfl))
theorem ho_f6 (a : At h b (hoL b s)) : gI h b 1 6 = some (s.1 3) := gI_at (at_0 a rfl) rfl
theorem ho_p6 : pV (blk b (hoL b s) h) b 1 6 (.int x) = some (blk b (hoL b (sS s 3 x)) h) := by
  rw [pV_at (at_0 (blk_at b (hoL b s) h) rfl) (Nat.le_of_ble_eq_true rfl)]
  exact congrArg some (blk_hup (k := 0) (fun j => by match j with
    | 0 => rfl
    | 1 => rfl | 2 => rfl | 3 => rfl | 4 => rfl | 5 => rfl | 6 => rfl | 7 => rfl | 8 => rfl | 9 => rfl | 10 => rfl | 11 => rfl | 12 => rfl | 13 => rfl | 14 => rfl
    | j + 15 => rfl))
theorem ho_f7 (a : At h b (hoL b s)) : gR h b 1 7 = some (b + 4) := gR_at (at_0 a rfl) rfl
theorem ho_f8 (a : At h b (hoL b s)) : gR h b 1 8 = some (b + 5) := gR_at (at_0 a rfl) rfl
theorem ho_f9 (a : At h b (hoL b s)) : gR h b 1 9 = some (b + 6) := gR_at (at_0 a rfl) rfl
theorem ho_f10 (a : At h b (hoL b s)) : gI h b 1 10 = some (s.1 4) := gI_at (at_0 a rfl) rfl
theorem ho_p10 : pV (blk b (hoL b s) h) b 1 10 (.int x) = some (blk b (hoL b (sS s 4 x)) h) := by
  rw [pV_at (at_0 (blk_at b (hoL b s) h) rfl) (Nat.le_of_ble_eq_true rfl)]
  exact congrArg some (blk_hup (k := 0) (fun j => by match j with
    | 0 => rfl
    | 1 => rfl | 2 => rfl | 3 => rfl | 4 => rfl | 5 => rfl | 6 => rfl | 7 => rfl | 8 => rfl | 9 => rfl | 10 => rfl | 11 => rfl | 12 => rfl | 13 => rfl | 14 => rfl
    | j + 15 => rfl))
theorem ho_f11 (a : At h b (hoL b s)) : gR h b 1 11 = some (b + 12) := gR_at (at_0 a rfl) rfl
theorem ho_f12 (a : At h b (hoL b s)) : gR h b 1 12 = some (b + 13) := gR_at (at_0 a rfl) rfl
theorem ho_f13 (a : At h b (hoL b s)) : gR h b 1 13 = some (b + 14) := gR_at (at_0 a rfl) rfl
theorem ho_c0 (a : At h b (hoL b s)) : h.2 (b + 1) = some (cI 0 8 (s.2 0)) := a 1 _ rfl
theorem ho_l0 (a : At h b (hoL b s)) (hi : inR x 8 = true) : ldI h 0 (b + 1) x = some (s.2 0 x.toNatClampNeg) := ldI_at (a 1 _ rfl) hi
theorem ho_m0 (a : At h b (hoL b s)) (hi : i < 8) : ldI h 0 (b + 1) (nI i) = some (s.2 0 i) := ldN_at (a 1 _ rfl) hi (by decide)
theorem ho_w0 (hi : i < 8) : stI (blk b (hoL b s) h) 0 (b + 1) (nI i) x = some (blk b (hoL b (sA s 0 i x)) h) := by
  rw [stN_at (blk_at b (hoL b s) h 1 _ rfl) hi (by decide)]
  exact congrArg some (blk_hup (k := 1) (fun j => by match j with
    | 0 => rfl | 1 => rfl | 2 => rfl | 3 => rfl | 4 => rfl | 5 => rfl | 6 => rfl | 7 => rfl | 8 => rfl | 9 => rfl | 10 => rfl | 11 => rfl | 12 => rfl | 13 => rfl | 14 => rfl
    | j + 15 => rfl))
theorem ho_b0 {f : Nat → Int32} : hup (blk b (hoL b s) h) (b + 1) (cI 0 8 f) = blk b (hoL b (sB s 0 f)) h := blk_hup (k := 1) (fun j => by match j with
    | 0 => rfl | 1 => rfl | 2 => rfl | 3 => rfl | 4 => rfl | 5 => rfl | 6 => rfl | 7 => rfl | 8 => rfl | 9 => rfl | 10 => rfl | 11 => rfl | 12 => rfl | 13 => rfl | 14 => rfl
    | j + 15 => rfl)
theorem ho_c1 (a : At h b (hoL b s)) : h.2 (b + 2) = some (cI 0 64 (s.2 1)) := a 2 _ rfl
theorem ho_l1 (a : At h b (hoL b s)) (hi : inR x 64 = true) : ldI h 0 (b + 2) x = some (s.2 1 x.toNatClampNeg) := ldI_at (a 2 _ rfl) hi
theorem ho_m1 (a : At h b (hoL b s)) (hi : i < 64) : ldI h 0 (b + 2) (nI i) = some (s.2 1 i) := ldN_at (a 2 _ rfl) hi (by decide)
theorem ho_w1 (hi : i < 64) : stI (blk b (hoL b s) h) 0 (b + 2) (nI i) x = some (blk b (hoL b (sA s 1 i x)) h) := by
  rw [stN_at (blk_at b (hoL b s) h 2 _ rfl) hi (by decide)]
  exact congrArg some (blk_hup (k := 2) (fun j => by match j with
    | 0 => rfl | 1 => rfl | 2 => rfl | 3 => rfl | 4 => rfl | 5 => rfl | 6 => rfl | 7 => rfl | 8 => rfl | 9 => rfl | 10 => rfl | 11 => rfl | 12 => rfl | 13 => rfl | 14 => rfl
    | j + 15 => rfl))
theorem ho_b1 {f : Nat → Int32} : hup (blk b (hoL b s) h) (b + 2) (cI 0 64 f) = blk b (hoL b (sB s 1 f)) h := blk_hup (k := 2) (fun j => by match j with
    | 0 => rfl | 1 => rfl | 2 => rfl | 3 => rfl | 4 => rfl | 5 => rfl | 6 => rfl | 7 => rfl | 8 => rfl | 9 => rfl | 10 => rfl | 11 => rfl | 12 => rfl | 13 => rfl | 14 => rfl
    | j + 15 => rfl)
theorem ho_c2 (a : At h b (hoL b s)) : h.2 (b + 3) = some (cI 0 12 (s.2 2)) := a 3 _ rfl
theorem ho_l2 (a : At h b (hoL b s)) (hi : inR x 12 = true) : ldI h 0 (b + 3) x = some (s.2 2 x.toNatClampNeg) := ldI_at (a 3 _ rfl) hi
theorem ho_m2 (a : At h b (hoL b s)) (hi : i < 12) : ldI h 0 (b + 3) (nI i) = some (s.2 2 i) := ldN_at (a 3 _ rfl) hi (by decide)
theorem ho_w2 (hi : i < 12) : stI (blk b (hoL b s) h) 0 (b + 3) (nI i) x = some (blk b (hoL b (sA s 2 i x)) h) := by
  rw [stN_at (blk_at b (hoL b s) h 3 _ rfl) hi (by decide)]
  exact congrArg some (blk_hup (k := 3) (fun j => by match j with
    | 0 => rfl | 1 => rfl | 2 => rfl | 3 => rfl | 4 => rfl | 5 => rfl | 6 => rfl | 7 => rfl | 8 => rfl | 9 => rfl | 10 => rfl | 11 => rfl | 12 => rfl | 13 => rfl | 14 => rfl
    | j + 15 => rfl))
theorem ho_b2 {f : Nat → Int32} : hup (blk b (hoL b s) h) (b + 3) (cI 0 12 f) = blk b (hoL b (sB s 2 f)) h := blk_hup (k := 3) (fun j => by match j with
    | 0 => rfl | 1 => rfl | 2 => rfl | 3 => rfl | 4 => rfl | 5 => rfl | 6 => rfl | 7 => rfl | 8 => rfl | 9 => rfl | 10 => rfl | 11 => rfl | 12 => rfl | 13 => rfl | 14 => rfl
    | j + 15 => rfl)
theorem ho_c3 (a : At h b (hoL b s)) : h.2 (b + 4) = some (cI 0 6 (s.2 3)) := a 4 _ rfl
theorem ho_l3 (a : At h b (hoL b s)) (hi : inR x 6 = true) : ldI h 0 (b + 4) x = some (s.2 3 x.toNatClampNeg) := ldI_at (a 4 _ rfl) hi
theorem ho_m3 (a : At h b (hoL b s)) (hi : i < 6) : ldI h 0 (b + 4) (nI i) = some (s.2 3 i) := ldN_at (a 4 _ rfl) hi (by decide)
theorem ho_w3 (hi : i < 6) : stI (blk b (hoL b s) h) 0 (b + 4) (nI i) x = some (blk b (hoL b (sA s 3 i x)) h) := by
  rw [stN_at (blk_at b (hoL b s) h 4 _ rfl) hi (by decide)]
  exact congrArg some (blk_hup (k := 4) (fun j => by match j with
    | 0 => rfl | 1 => rfl | 2 => rfl | 3 => rfl | 4 => rfl | 5 => rfl | 6 => rfl | 7 => rfl | 8 => rfl | 9 => rfl | 10 => rfl | 11 => rfl | 12 => rfl | 13 => rfl | 14 => rfl
    | j + 15 => rfl))
theorem ho_b3 {f : Nat → Int32} : hup (blk b (hoL b s) h) (b + 4) (cI 0 6 f) = blk b (hoL b (sB s 3 f)) h := blk_hup (k := 4) (fun j => by match j with
    | 0 => rfl | 1 => rfl | 2 => rfl | 3 => rfl | 4 => rfl | 5 => rfl | 6 => rfl | 7 => rfl | 8 => rfl | 9 => rfl | 10 => rfl | 11 => rfl | 12 => rfl | 13 => rfl | 14 => rfl
    | j + 15 => rfl)
theorem ho_c4 (a : At h b (hoL b s)) : h.2 (b + 5) = some (cI 0 6 (s.2 4)) := a 5 _ rfl
theorem ho_l4 (a : At h b (hoL b s)) (hi : inR x 6 = true) : ldI h 0 (b + 5) x = some (s.2 4 x.toNatClampNeg) := ldI_at (a 5 _ rfl) hi
theorem ho_m4 (a : At h b (hoL b s)) (hi : i < 6) : ldI h 0 (b + 5) (nI i) = some (s.2 4 i) := ldN_at (a 5 _ rfl) hi (by decide)
theorem ho_w4 (hi : i < 6) : stI (blk b (hoL b s) h) 0 (b + 5) (nI i) x = some (blk b (hoL b (sA s 4 i x)) h) := by
  rw [stN_at (blk_at b (hoL b s) h 5 _ rfl) hi (by decide)]
  exact congrArg some (blk_hup (k := 5) (fun j => by match j with
    | 0 => rfl | 1 => rfl | 2 => rfl | 3 => rfl | 4 => rfl | 5 => rfl | 6 => rfl | 7 => rfl | 8 => rfl | 9 => rfl | 10 => rfl | 11 => rfl | 12 => rfl | 13 => rfl | 14 => rfl
    | j + 15 => rfl))
theorem ho_b4 {f : Nat → Int32} : hup (blk b (hoL b s) h) (b + 5) (cI 0 6 f) = blk b (hoL b (sB s 4 f)) h := blk_hup (k := 5) (fun j => by match j with
    | 0 => rfl | 1 => rfl | 2 => rfl | 3 => rfl | 4 => rfl | 5 => rfl | 6 => rfl | 7 => rfl | 8 => rfl | 9 => rfl | 10 => rfl | 11 => rfl | 12 => rfl | 13 => rfl | 14 => rfl
    | j + 15 => rfl)
theorem ho_c5 (a : At h b (hoL b s)) : h.2 (b + 12) = some (cI 0 6 (s.2 5)) := a 12 _ rfl
theorem ho_l5 (a : At h b (hoL b s)) (hi : inR x 6 = true) : ldI h 0 (b + 12) x = some (s.2 5 x.toNatClampNeg) := ldI_at (a 12 _ rfl) hi
theorem ho_m5 (a : At h b (hoL b s)) (hi : i < 6) : ldI h 0 (b + 12) (nI i) = some (s.2 5 i) := ldN_at (a 12 _ rfl) hi (by decide)
theorem ho_w5 (hi : i < 6) : stI (blk b (hoL b s) h) 0 (b + 12) (nI i) x = some (blk b (hoL b (sA s 5 i x)) h) := by
  rw [stN_at (blk_at b (hoL b s) h 12 _ rfl) hi (by decide)]
  exact congrArg some (blk_hup (k := 12) (fun j => by match j with
    | 0 => rfl | 1 => rfl | 2 => rfl | 3 => rfl | 4 => rfl | 5 => rfl | 6 => rfl | 7 => rfl | 8 => rfl | 9 => rfl | 10 => rfl | 11 => rfl | 12 => rfl | 13 => rfl | 14 => rfl
    | j + 15 => rfl))
theorem ho_b5 {f : Nat → Int32} : hup (blk b (hoL b s) h) (b + 12) (cI 0 6 f) = blk b (hoL b (sB s 5 f)) h := blk_hup (k := 12) (fun j => by match j with
    | 0 => rfl | 1 => rfl | 2 => rfl | 3 => rfl | 4 => rfl | 5 => rfl | 6 => rfl | 7 => rfl | 8 => rfl | 9 => rfl | 10 => rfl | 11 => rfl | 12 => rfl | 13 => rfl | 14 => rfl
    | j + 15 => rfl)
theorem ho_c6 (a : At h b (hoL b s)) : h.2 (b + 13) = some (cI 0 6 (s.2 6)) := a 13 _ rfl
theorem ho_l6 (a : At h b (hoL b s)) (hi : inR x 6 = true) : ldI h 0 (b + 13) x = some (s.2 6 x.toNatClampNeg) := ldI_at (a 13 _ rfl) hi
theorem ho_m6 (a : At h b (hoL b s)) (hi : i < 6) : ldI h 0 (b + 13) (nI i) = some (s.2 6 i) := ldN_at (a 13 _ rfl) hi (by decide)
theorem ho_w6 (hi : i < 6) : stI (blk b (hoL b s) h) 0 (b + 13) (nI i) x = some (blk b (hoL b (sA s 6 i x)) h) := by
  rw [stN_at (blk_at b (hoL b s) h 13 _ rfl) hi (by decide)]
  exact congrArg some (blk_hup (k := 13) (fun j => by match j with
    | 0 => rfl | 1 => rfl | 2 => rfl | 3 => rfl | 4 => rfl | 5 => rfl | 6 => rfl | 7 => rfl | 8 => rfl | 9 => rfl | 10 => rfl | 11 => rfl | 12 => rfl | 13 => rfl | 14 => rfl
    | j + 15 => rfl))
theorem ho_b6 {f : Nat → Int32} : hup (blk b (hoL b s) h) (b + 13) (cI 0 6 f) = blk b (hoL b (sB s 6 f)) h := blk_hup (k := 13) (fun j => by match j with
    | 0 => rfl | 1 => rfl | 2 => rfl | 3 => rfl | 4 => rfl | 5 => rfl | 6 => rfl | 7 => rfl | 8 => rfl | 9 => rfl | 10 => rfl | 11 => rfl | 12 => rfl | 13 => rfl | 14 => rfl
    | j + 15 => rfl)
theorem ho_c7 (a : At h b (hoL b s)) : h.2 (b + 14) = some (cI 0 6 (s.2 7)) := a 14 _ rfl
theorem ho_l7 (a : At h b (hoL b s)) (hi : inR x 6 = true) : ldI h 0 (b + 14) x = some (s.2 7 x.toNatClampNeg) := ldI_at (a 14 _ rfl) hi
theorem ho_m7 (a : At h b (hoL b s)) (hi : i < 6) : ldI h 0 (b + 14) (nI i) = some (s.2 7 i) := ldN_at (a 14 _ rfl) hi (by decide)
theorem ho_w7 (hi : i < 6) : stI (blk b (hoL b s) h) 0 (b + 14) (nI i) x = some (blk b (hoL b (sA s 7 i x)) h) := by
  rw [stN_at (blk_at b (hoL b s) h 14 _ rfl) hi (by decide)]
  exact congrArg some (blk_hup (k := 14) (fun j => by match j with
    | 0 => rfl | 1 => rfl | 2 => rfl | 3 => rfl | 4 => rfl | 5 => rfl | 6 => rfl | 7 => rfl | 8 => rfl | 9 => rfl | 10 => rfl | 11 => rfl | 12 => rfl | 13 => rfl | 14 => rfl
    | j + 15 => rfl))
theorem ho_b7 {f : Nat → Int32} : hup (blk b (hoL b s) h) (b + 14) (cI 0 6 f) = blk b (hoL b (sB s 7 f)) h := blk_hup (k := 14) (fun j => by match j with
    | 0 => rfl | 1 => rfl | 2 => rfl | 3 => rfl | 4 => rfl | 5 => rfl | 6 => rfl | 7 => rfl | 8 => rfl | 9 => rfl | 10 => rfl | 11 => rfl | 12 => rfl | 13 => rfl | 14 => rfl
    | j + 15 => rfl)
theorem ho_none {s' : Blk} : ∀ k, hoL b s' k = none → hoL b s k = none := fun k => by
  match k with
  | 0 => exact fun e => by cases e
  | 1 => exact fun e => by cases e
  | 2 => exact fun e => by cases e
  | 3 => exact fun e => by cases e
  | 4 => exact fun e => by cases e
  | 5 => exact fun e => by cases e
  | 6 => exact fun e => rfl
  | 7 => exact fun e => rfl
  | 8 => exact fun e => rfl
  | 9 => exact fun e => rfl
  | 10 => exact fun e => rfl
  | 11 => exact fun e => rfl
  | 12 => exact fun e => by cases e
  | 13 => exact fun e => by cases e
  | 14 => exact fun e => by cases e
  | k + 15 => exact fun _ => rfl
theorem ho_over {s' : Blk} : blk b (hoL b s') (blk b (hoL b s) h) = blk b (hoL b s') h := blk_blk ho_none
end
