/-! ===== the rest of the blocks: laid by program ===== -/
def fcL (b : Nat) (s : Blk) (g : Blk) : Nat → Option Cel := fun k => match k with
  | 0 => some (cO 0 [.ref (b + 1), .ref (b + 7)])
  | 1 => some (cO 3 [.int (s.1 0), .ref (b + 2), .ref (b + 3), .ref (b + 4), .ref (b + 5), .ref (b + 6)])
  | 2 => some (cI 0 6 (s.2 0))
  | 3 => some (cI 0 6 (s.2 1))
  | 4 => some (cI 0 6 (s.2 2))
  | 5 => some (cI 0 6 (s.2 3))
  | 6 => some (cI 0 6 (s.2 4))
  | 7 => some (cI 0 4 (g.2 0))
  | _ => none
section
variable {h : Hea} {b : Nat} {s : Blk} {g : Blk} {i : Nat} {x : Int32}
theorem fc_hi {k : Nat} (e : 8 ≤ k) : fcL b s g k = none := by
  obtain ⟨q, rfl⟩ : ∃ q, k = q + 8 := ⟨k - 8, by omega⟩
  rfl
theorem fc_o (a : At h b (fcL b s g)) : isO h b 0 = some () := isO_at (a 0 _ rfl)
theorem fc_f0 (a : At h b (fcL b s g)) : gR h b 0 0 = some (b + 1) := gR_at (a 0 _ rfl) rfl
theorem fc_f1 (a : At h b (fcL b s g)) : gR h b 0 1 = some (b + 7) := gR_at (a 0 _ rfl) rfl
theorem fc_o1 (a : At h b (fcL b s g)) : isO h (b + 1) 3 = some () := isO_at (a 1 _ rfl)
theorem fc_f1_0 (a : At h b (fcL b s g)) : gI h (b + 1) 3 0 = some (s.1 0) := gI_at (a 1 _ rfl) rfl
theorem fc_p1_0 : pV (blk b (fcL b s g) h) (b + 1) 3 0 (.int x) = some (blk b (fcL b (sS s 0 x) g) h) := by
  rw [pV_at (blk_at b (fcL b s g) h 1 _ rfl) (Nat.le_of_ble_eq_true rfl)]
  exact congrArg some (blk_hup (k := 1) (fun j => by match j with
    | 0 => rfl | 1 => rfl | 2 => rfl | 3 => rfl | 4 => rfl | 5 => rfl | 6 => rfl | 7 => rfl
    | j + 8 => rfl))
theorem fc_f1_1 (a : At h b (fcL b s g)) : gR h (b + 1) 3 1 = some (b + 2) := gR_at (a 1 _ rfl) rfl
theorem fc_f1_2 (a : At h b (fcL b s g)) : gR h (b + 1) 3 2 = some (b + 3) := gR_at (a 1 _ rfl) rfl
theorem fc_f1_3 (a : At h b (fcL b s g)) : gR h (b + 1) 3 3 = some (b + 4) := gR_at (a 1 _ rfl) rfl
theorem fc_f1_4 (a : At h b (fcL b s g)) : gR h (b + 1) 3 4 = some (b + 5) := gR_at (a 1 _ rfl) rfl
theorem fc_f1_5 (a : At h b (fcL b s g)) : gR h (b + 1) 3 5 = some (b + 6) := gR_at (a 1 _ rfl) rfl
theorem fc_k2 (a : At h b (fcL b s g)) : h.2 (b + 2) = some (cI 0 6 (s.2 0)) := a 2 _ rfl
theorem fc_l2 (a : At h b (fcL b s g)) (hi : inR x 6 = true) : ldI h 0 (b + 2) x = some (s.2 0 x.toNatClampNeg) := ldI_at (a 2 _ rfl) hi
theorem fc_m2 (a : At h b (fcL b s g)) (hi : i < 6) : ldI h 0 (b + 2) (nI i) = some (s.2 0 i) := ldN_at (a 2 _ rfl) hi (by decide)
theorem fc_b2 {f : Nat → Int32} : hup (blk b (fcL b s g) h) (b + 2) (cI 0 6 f) = blk b (fcL b (sB s 0 f) g) h := blk_hup (k := 2) (fun j => by match j with
    | 0 => rfl | 1 => rfl | 2 => rfl | 3 => rfl | 4 => rfl | 5 => rfl | 6 => rfl | 7 => rfl
    | j + 8 => rfl)
theorem fc_w2 (hi : i < 6) : stI (blk b (fcL b s g) h) 0 (b + 2) (nI i) x = some (blk b (fcL b (sA s 0 i x) g) h) := by
  rw [stN_at (blk_at b (fcL b s g) h 2 _ rfl) hi (by decide)]
  exact congrArg some (blk_hup (k := 2) (fun j => by match j with
    | 0 => rfl | 1 => rfl | 2 => rfl | 3 => rfl | 4 => rfl | 5 => rfl | 6 => rfl | 7 => rfl
    | j + 8 => rfl))
theorem fc_k3 (a : At h b (fcL b s g)) : h.2 (b + 3) = some (cI 0 6 (s.2 1)) := a 3 _ rfl
theorem fc_l3 (a : At h b (fcL b s g)) (hi : inR x 6 = true) : ldI h 0 (b + 3) x = some (s.2 1 x.toNatClampNeg) := ldI_at (a 3 _ rfl) hi
theorem fc_m3 (a : At h b (fcL b s g)) (hi : i < 6) : ldI h 0 (b + 3) (nI i) = some (s.2 1 i) := ldN_at (a 3 _ rfl) hi (by decide)
theorem fc_b3 {f : Nat → Int32} : hup (blk b (fcL b s g) h) (b + 3) (cI 0 6 f) = blk b (fcL b (sB s 1 f) g) h := blk_hup (k := 3) (fun j => by match j with
    | 0 => rfl | 1 => rfl | 2 => rfl | 3 => rfl | 4 => rfl | 5 => rfl | 6 => rfl | 7 => rfl
    | j + 8 => rfl)
theorem fc_w3 (hi : i < 6) : stI (blk b (fcL b s g) h) 0 (b + 3) (nI i) x = some (blk b (fcL b (sA s 1 i x) g) h) := by
  rw [stN_at (blk_at b (fcL b s g) h 3 _ rfl) hi (by decide)]
  exact congrArg some (blk_hup (k := 3) (fun j => by match j with
    | 0 => rfl | 1 => rfl | 2 => rfl | 3 => rfl | 4 => rfl | 5 => rfl | 6 => rfl | 7 => rfl
    | j + 8 => rfl))
theorem fc_k4 (a : At h b (fcL b s g)) : h.2 (b + 4) = some (cI 0 6 (s.2 2)) := a 4 _ rfl
theorem fc_l4 (a : At h b (fcL b s g)) (hi : inR x 6 = true) : ldI h 0 (b + 4) x = some (s.2 2 x.toNatClampNeg) := ldI_at (a 4 _ rfl) hi
theorem fc_m4 (a : At h b (fcL b s g)) (hi : i < 6) : ldI h 0 (b + 4) (nI i) = some (s.2 2 i) := ldN_at (a 4 _ rfl) hi (by decide)
theorem fc_b4 {f : Nat → Int32} : hup (blk b (fcL b s g) h) (b + 4) (cI 0 6 f) = blk b (fcL b (sB s 2 f) g) h := blk_hup (k := 4) (fun j => by match j with
    | 0 => rfl | 1 => rfl | 2 => rfl | 3 => rfl | 4 => rfl | 5 => rfl | 6 => rfl | 7 => rfl
    | j + 8 => rfl)
theorem fc_w4 (hi : i < 6) : stI (blk b (fcL b s g) h) 0 (b + 4) (nI i) x = some (blk b (fcL b (sA s 2 i x) g) h) := by
  rw [stN_at (blk_at b (fcL b s g) h 4 _ rfl) hi (by decide)]
  exact congrArg some (blk_hup (k := 4) (fun j => by match j with
    | 0 => rfl | 1 => rfl | 2 => rfl | 3 => rfl | 4 => rfl | 5 => rfl | 6 => rfl | 7 => rfl
    | j + 8 => rfl))
theorem fc_k5 (a : At h b (fcL b s g)) : h.2 (b + 5) = some (cI 0 6 (s.2 3)) := a 5 _ rfl
theorem fc_l5 (a : At h b (fcL b s g)) (hi : inR x 6 = true) : ldI h 0 (b + 5) x = some (s.2 3 x.toNatClampNeg) := ldI_at (a 5 _ rfl) hi
theorem fc_m5 (a : At h b (fcL b s g)) (hi : i < 6) : ldI h 0 (b + 5) (nI i) = some (s.2 3 i) := ldN_at (a 5 _ rfl) hi (by decide)
theorem fc_b5 {f : Nat → Int32} : hup (blk b (fcL b s g) h) (b + 5) (cI 0 6 f) = blk b (fcL b (sB s 3 f) g) h := blk_hup (k := 5) (fun j => by match j with
    | 0 => rfl | 1 => rfl | 2 => rfl | 3 => rfl | 4 => rfl | 5 => rfl | 6 => rfl | 7 => rfl
    | j + 8 => rfl)
theorem fc_w5 (hi : i < 6) : stI (blk b (fcL b s g) h) 0 (b + 5) (nI i) x = some (blk b (fcL b (sA s 3 i x) g) h) := by
  rw [stN_at (blk_at b (fcL b s g) h 5 _ rfl) hi (by decide)]
  exact congrArg some (blk_hup (k := 5) (fun j => by match j with
    | 0 => rfl | 1 => rfl | 2 => rfl | 3 => rfl | 4 => rfl | 5 => rfl | 6 => rfl | 7 => rfl
    | j + 8 => rfl))
theorem fc_k6 (a : At h b (fcL b s g)) : h.2 (b + 6) = some (cI 0 6 (s.2 4)) := a 6 _ rfl
theorem fc_l6 (a : At h b (fcL b s g)) (hi : inR x 6 = true) : ldI h 0 (b + 6) x = some (s.2 4 x.toNatClampNeg) := ldI_at (a 6 _ rfl) hi
theorem fc_m6 (a : At h b (fcL b s g)) (hi : i < 6) : ldI h 0 (b + 6) (nI i) = some (s.2 4 i) := ldN_at (a 6 _ rfl) hi (by decide)
theorem fc_b6 {f : Nat → Int32} : hup (blk b (fcL b s g) h) (b + 6) (cI 0 6 f) = blk b (fcL b (sB s 4 f) g) h := blk_hup (k := 6) (fun j => by match j with
    | 0 => rfl | 1 => rfl | 2 => rfl | 3 => rfl | 4 => rfl | 5 => rfl | 6 => rfl | 7 => rfl
    | j + 8 => rfl)
theorem fc_w6 (hi : i < 6) : stI (blk b (fcL b s g) h) 0 (b + 6) (nI i) x = some (blk b (fcL b (sA s 4 i x) g) h) := by
  rw [stN_at (blk_at b (fcL b s g) h 6 _ rfl) hi (by decide)]
  exact congrArg some (blk_hup (k := 6) (fun j => by match j with
    | 0 => rfl | 1 => rfl | 2 => rfl | 3 => rfl | 4 => rfl | 5 => rfl | 6 => rfl | 7 => rfl
    | j + 8 => rfl))
theorem fc_k7 (a : At h b (fcL b s g)) : h.2 (b + 7) = some (cI 0 4 (g.2 0)) := a 7 _ rfl
theorem fc_l7 (a : At h b (fcL b s g)) (hi : inR x 4 = true) : ldI h 0 (b + 7) x = some (g.2 0 x.toNatClampNeg) := ldI_at (a 7 _ rfl) hi
theorem fc_m7 (a : At h b (fcL b s g)) (hi : i < 4) : ldI h 0 (b + 7) (nI i) = some (g.2 0 i) := ldN_at (a 7 _ rfl) hi (by decide)
theorem fc_b7 {f : Nat → Int32} : hup (blk b (fcL b s g) h) (b + 7) (cI 0 4 f) = blk b (fcL b s (sB g 0 f)) h := blk_hup (k := 7) (fun j => by match j with
    | 0 => rfl | 1 => rfl | 2 => rfl | 3 => rfl | 4 => rfl | 5 => rfl | 6 => rfl | 7 => rfl
    | j + 8 => rfl)
theorem fc_w7 (hi : i < 4) : stI (blk b (fcL b s g) h) 0 (b + 7) (nI i) x = some (blk b (fcL b s (sA g 0 i x)) h) := by
  rw [stN_at (blk_at b (fcL b s g) h 7 _ rfl) hi (by decide)]
  exact congrArg some (blk_hup (k := 7) (fun j => by match j with
    | 0 => rfl | 1 => rfl | 2 => rfl | 3 => rfl | 4 => rfl | 5 => rfl | 6 => rfl | 7 => rfl
    | j + 8 => rfl))
theorem fc_none {s' : Blk} {g' : Blk} : ∀ k, fcL b s' g' k = none → fcL b s g k = none := fun k => by
  match k with
  | 0 => exact fun e => by cases e
  | 1 => exact fun e => by cases e
  | 2 => exact fun e => by cases e
  | 3 => exact fun e => by cases e
  | 4 => exact fun e => by cases e
  | 5 => exact fun e => by cases e
  | 6 => exact fun e => by cases e
  | 7 => exact fun e => by cases e
  | k + 8 => exact fun _ => rfl
theorem fc_over {s' : Blk} {g' : Blk} : blk b (fcL b s' g') (blk b (fcL b s g) h) = blk b (fcL b s' g') h := blk_blk fc_none
end
def wfL (b : Nat) (s : Blk) (g : Blk) : Nat → Option Cel := fun k => match k with
  | 0 => some (cO 6 [.int (g.1 0), .int (g.1 1), .ref (b + 1), .ref (b + 7), .ref (b + 8)])
  | 1 => some (cO 3 [.int (s.1 0), .ref (b + 2), .ref (b + 3), .ref (b + 4), .ref (b + 5), .ref (b + 6)])
  | 2 => some (cI 0 6 (s.2 0))
  | 3 => some (cI 0 6 (s.2 1))
  | 4 => some (cI 0 6 (s.2 2))
  | 5 => some (cI 0 6 (s.2 3))
  | 6 => some (cI 0 6 (s.2 4))
  | 7 => some (cI 0 48 (g.2 0))
  | 8 => some (cI 0 48 (g.2 1))
  | _ => none
section
variable {h : Hea} {b : Nat} {s : Blk} {g : Blk} {i : Nat} {x : Int32}
theorem wf_hi {k : Nat} (e : 9 ≤ k) : wfL b s g k = none := by
  obtain ⟨q, rfl⟩ : ∃ q, k = q + 9 := ⟨k - 9, by omega⟩
  rfl
theorem wf_o (a : At h b (wfL b s g)) : isO h b 6 = some () := isO_at (a 0 _ rfl)
theorem wf_f0 (a : At h b (wfL b s g)) : gI h b 6 0 = some (g.1 0) := gI_at (a 0 _ rfl) rfl
theorem wf_p0 : pV (blk b (wfL b s g) h) b 6 0 (.int x) = some (blk b (wfL b s (sS g 0 x)) h) := by
  rw [pV_at (at_0 (blk_at b (wfL b s g) h) rfl) (Nat.le_of_ble_eq_true rfl)]
  exact congrArg some (blk_hup (k := 0) (fun j => by match j with
    | 0 => rfl | 1 => rfl | 2 => rfl | 3 => rfl | 4 => rfl | 5 => rfl | 6 => rfl | 7 => rfl | 8 => rfl
    | j + 9 => rfl))
theorem wf_f1 (a : At h b (wfL b s g)) : gI h b 6 1 = some (g.1 1) := gI_at (a 0 _ rfl) rfl
theorem wf_p1 : pV (blk b (wfL b s g) h) b 6 1 (.int x) = some (blk b (wfL b s (sS g 1 x)) h) := by
  rw [pV_at (at_0 (blk_at b (wfL b s g) h) rfl) (Nat.le_of_ble_eq_true rfl)]
  exact congrArg some (blk_hup (k := 0) (fun j => by match j with
    | 0 => rfl | 1 => rfl | 2 => rfl | 3 => rfl | 4 => rfl | 5 => rfl | 6 => rfl | 7 => rfl | 8 => rfl
    | j + 9 => rfl))
theorem wf_f2 (a : At h b (wfL b s g)) : gR h b 6 2 = some (b + 1) := gR_at (a 0 _ rfl) rfl
theorem wf_f3 (a : At h b (wfL b s g)) : gR h b 6 3 = some (b + 7) := gR_at (a 0 _ rfl) rfl
theorem wf_f4 (a : At h b (wfL b s g)) : gR h b 6 4 = some (b + 8) := gR_at (a 0 _ rfl) rfl
theorem wf_o1 (a : At h b (wfL b s g)) : isO h (b + 1) 3 = some () := isO_at (a 1 _ rfl)
theorem wf_f1_0 (a : At h b (wfL b s g)) : gI h (b + 1) 3 0 = some (s.1 0) := gI_at (a 1 _ rfl) rfl
theorem wf_p1_0 : pV (blk b (wfL b s g) h) (b + 1) 3 0 (.int x) = some (blk b (wfL b (sS s 0 x) g) h) := by
  rw [pV_at (blk_at b (wfL b s g) h 1 _ rfl) (Nat.le_of_ble_eq_true rfl)]
  exact congrArg some (blk_hup (k := 1) (fun j => by match j with
    | 0 => rfl | 1 => rfl | 2 => rfl | 3 => rfl | 4 => rfl | 5 => rfl | 6 => rfl | 7 => rfl | 8 => rfl
    | j + 9 => rfl))
theorem wf_f1_1 (a : At h b (wfL b s g)) : gR h (b + 1) 3 1 = some (b + 2) := gR_at (a 1 _ rfl) rfl
theorem wf_f1_2 (a : At h b (wfL b s g)) : gR h (b + 1) 3 2 = some (b + 3) := gR_at (a 1 _ rfl) rfl
theorem wf_f1_3 (a : At h b (wfL b s g)) : gR h (b + 1) 3 3 = some (b + 4) := gR_at (a 1 _ rfl) rfl
theorem wf_f1_4 (a : At h b (wfL b s g)) : gR h (b + 1) 3 4 = some (b + 5) := gR_at (a 1 _ rfl) rfl
theorem wf_f1_5 (a : At h b (wfL b s g)) : gR h (b + 1) 3 5 = some (b + 6) := gR_at (a 1 _ rfl) rfl
theorem wf_k2 (a : At h b (wfL b s g)) : h.2 (b + 2) = some (cI 0 6 (s.2 0)) := a 2 _ rfl
theorem wf_l2 (a : At h b (wfL b s g)) (hi : inR x 6 = true) : ldI h 0 (b + 2) x = some (s.2 0 x.toNatClampNeg) := ldI_at (a 2 _ rfl) hi
theorem wf_m2 (a : At h b (wfL b s g)) (hi : i < 6) : ldI h 0 (b + 2) (nI i) = some (s.2 0 i) := ldN_at (a 2 _ rfl) hi (by decide)
theorem wf_b2 {f : Nat → Int32} : hup (blk b (wfL b s g) h) (b + 2) (cI 0 6 f) = blk b (wfL b (sB s 0 f) g) h := blk_hup (k := 2) (fun j => by match j with
    | 0 => rfl | 1 => rfl | 2 => rfl | 3 => rfl | 4 => rfl | 5 => rfl | 6 => rfl | 7 => rfl | 8 => rfl
    | j + 9 => rfl)
theorem wf_w2 (hi : i < 6) : stI (blk b (wfL b s g) h) 0 (b + 2) (nI i) x = some (blk b (wfL b (sA s 0 i x) g) h) := by
  rw [stN_at (blk_at b (wfL b s g) h 2 _ rfl) hi (by decide)]
  exact congrArg some (blk_hup (k := 2) (fun j => by match j with
    | 0 => rfl | 1 => rfl | 2 => rfl | 3 => rfl | 4 => rfl | 5 => rfl | 6 => rfl | 7 => rfl | 8 => rfl
    | j + 9 => rfl))
theorem wf_k3 (a : At h b (wfL b s g)) : h.2 (b + 3) = some (cI 0 6 (s.2 1)) := a 3 _ rfl
theorem wf_l3 (a : At h b (wfL b s g)) (hi : inR x 6 = true) : ldI h 0 (b + 3) x = some (s.2 1 x.toNatClampNeg) := ldI_at (a 3 _ rfl) hi
theorem wf_m3 (a : At h b (wfL b s g)) (hi : i < 6) : ldI h 0 (b + 3) (nI i) = some (s.2 1 i) := ldN_at (a 3 _ rfl) hi (by decide)
theorem wf_b3 {f : Nat → Int32} : hup (blk b (wfL b s g) h) (b + 3) (cI 0 6 f) = blk b (wfL b (sB s 1 f) g) h := blk_hup (k := 3) (fun j => by match j with
    | 0 => rfl | 1 => rfl | 2 => rfl | 3 => rfl | 4 => rfl | 5 => rfl | 6 => rfl | 7 => rfl | 8 => rfl
    | j + 9 => rfl)
theorem wf_w3 (hi : i < 6) : stI (blk b (wfL b s g) h) 0 (b + 3) (nI i) x = some (blk b (wfL b (sA s 1 i x) g) h) := by
  rw [stN_at (blk_at b (wfL b s g) h 3 _ rfl) hi (by decide)]
  exact congrArg some (blk_hup (k := 3) (fun j => by match j with
    | 0 => rfl | 1 => rfl | 2 => rfl | 3 => rfl | 4 => rfl | 5 => rfl | 6 => rfl | 7 => rfl | 8 => rfl
    | j + 9 => rfl))
theorem wf_k4 (a : At h b (wfL b s g)) : h.2 (b + 4) = some (cI 0 6 (s.2 2)) := a 4 _ rfl
theorem wf_l4 (a : At h b (wfL b s g)) (hi : inR x 6 = true) : ldI h 0 (b + 4) x = some (s.2 2 x.toNatClampNeg) := ldI_at (a 4 _ rfl) hi
theorem wf_m4 (a : At h b (wfL b s g)) (hi : i < 6) : ldI h 0 (b + 4) (nI i) = some (s.2 2 i) := ldN_at (a 4 _ rfl) hi (by decide)
theorem wf_b4 {f : Nat → Int32} : hup (blk b (wfL b s g) h) (b + 4) (cI 0 6 f) = blk b (wfL b (sB s 2 f) g) h := blk_hup (k := 4) (fun j => by match j with
    | 0 => rfl | 1 => rfl | 2 => rfl | 3 => rfl | 4 => rfl | 5 => rfl | 6 => rfl | 7 => rfl | 8 => rfl
    | j + 9 => rfl)
theorem wf_w4 (hi : i < 6) : stI (blk b (wfL b s g) h) 0 (b + 4) (nI i) x = some (blk b (wfL b (sA s 2 i x) g) h) := by
  rw [stN_at (blk_at b (wfL b s g) h 4 _ rfl) hi (by decide)]
  exact congrArg some (blk_hup (k := 4) (fun j => by match j with
    | 0 => rfl | 1 => rfl | 2 => rfl | 3 => rfl | 4 => rfl | 5 => rfl | 6 => rfl | 7 => rfl | 8 => rfl
    | j + 9 => rfl))
theorem wf_k5 (a : At h b (wfL b s g)) : h.2 (b + 5) = some (cI 0 6 (s.2 3)) := a 5 _ rfl
theorem wf_l5 (a : At h b (wfL b s g)) (hi : inR x 6 = true) : ldI h 0 (b + 5) x = some (s.2 3 x.toNatClampNeg) := ldI_at (a 5 _ rfl) hi
theorem wf_m5 (a : At h b (wfL b s g)) (hi : i < 6) : ldI h 0 (b + 5) (nI i) = some (s.2 3 i) := ldN_at (a 5 _ rfl) hi (by decide)
theorem wf_b5 {f : Nat → Int32} : hup (blk b (wfL b s g) h) (b + 5) (cI 0 6 f) = blk b (wfL b (sB s 3 f) g) h := blk_hup (k := 5) (fun j => by match j with
    | 0 => rfl | 1 => rfl | 2 => rfl | 3 => rfl | 4 => rfl | 5 => rfl | 6 => rfl | 7 => rfl | 8 => rfl
    | j + 9 => rfl)
theorem wf_w5 (hi : i < 6) : stI (blk b (wfL b s g) h) 0 (b + 5) (nI i) x = some (blk b (wfL b (sA s 3 i x) g) h) := by
  rw [stN_at (blk_at b (wfL b s g) h 5 _ rfl) hi (by decide)]
  exact congrArg some (blk_hup (k := 5) (fun j => by match j with
    | 0 => rfl | 1 => rfl | 2 => rfl | 3 => rfl | 4 => rfl | 5 => rfl | 6 => rfl | 7 => rfl | 8 => rfl
    | j + 9 => rfl))
theorem wf_k6 (a : At h b (wfL b s g)) : h.2 (b + 6) = some (cI 0 6 (s.2 4)) := a 6 _ rfl
theorem wf_l6 (a : At h b (wfL b s g)) (hi : inR x 6 = true) : ldI h 0 (b + 6) x = some (s.2 4 x.toNatClampNeg) := ldI_at (a 6 _ rfl) hi
theorem wf_m6 (a : At h b (wfL b s g)) (hi : i < 6) : ldI h 0 (b + 6) (nI i) = some (s.2 4 i) := ldN_at (a 6 _ rfl) hi (by decide)
theorem wf_b6 {f : Nat → Int32} : hup (blk b (wfL b s g) h) (b + 6) (cI 0 6 f) = blk b (wfL b (sB s 4 f) g) h := blk_hup (k := 6) (fun j => by match j with
    | 0 => rfl | 1 => rfl | 2 => rfl | 3 => rfl | 4 => rfl | 5 => rfl | 6 => rfl | 7 => rfl | 8 => rfl
    | j + 9 => rfl)
theorem wf_w6 (hi : i < 6) : stI (blk b (wfL b s g) h) 0 (b + 6) (nI i) x = some (blk b (wfL b (sA s 4 i x) g) h) := by
  rw [stN_at (blk_at b (wfL b s g) h 6 _ rfl) hi (by decide)]
  exact congrArg some (blk_hup (k := 6) (fun j => by match j with
    | 0 => rfl | 1 => rfl | 2 => rfl | 3 => rfl | 4 => rfl | 5 => rfl | 6 => rfl | 7 => rfl | 8 => rfl
    | j + 9 => rfl))
theorem wf_k7 (a : At h b (wfL b s g)) : h.2 (b + 7) = some (cI 0 48 (g.2 0)) := a 7 _ rfl
theorem wf_l7 (a : At h b (wfL b s g)) (hi : inR x 48 = true) : ldI h 0 (b + 7) x = some (g.2 0 x.toNatClampNeg) := ldI_at (a 7 _ rfl) hi
theorem wf_m7 (a : At h b (wfL b s g)) (hi : i < 48) : ldI h 0 (b + 7) (nI i) = some (g.2 0 i) := ldN_at (a 7 _ rfl) hi (by decide)
theorem wf_b7 {f : Nat → Int32} : hup (blk b (wfL b s g) h) (b + 7) (cI 0 48 f) = blk b (wfL b s (sB g 0 f)) h := blk_hup (k := 7) (fun j => by match j with
    | 0 => rfl | 1 => rfl | 2 => rfl | 3 => rfl | 4 => rfl | 5 => rfl | 6 => rfl | 7 => rfl | 8 => rfl
    | j + 9 => rfl)
theorem wf_w7 (hi : i < 48) : stI (blk b (wfL b s g) h) 0 (b + 7) (nI i) x = some (blk b (wfL b s (sA g 0 i x)) h) := by
  rw [stN_at (blk_at b (wfL b s g) h 7 _ rfl) hi (by decide)]
  exact congrArg some (blk_hup (k := 7) (fun j => by match j with
    | 0 => rfl | 1 => rfl | 2 => rfl | 3 => rfl | 4 => rfl | 5 => rfl | 6 => rfl | 7 => rfl | 8 => rfl
    | j + 9 => rfl))
theorem wf_k8 (a : At h b (wfL b s g)) : h.2 (b + 8) = some (cI 0 48 (g.2 1)) := a 8 _ rfl
theorem wf_l8 (a : At h b (wfL b s g)) (hi : inR x 48 = true) : ldI h 0 (b + 8) x = some (g.2 1 x.toNatClampNeg) := ldI_at (a 8 _ rfl) hi
theorem wf_m8 (a : At h b (wfL b s g)) (hi : i < 48) : ldI h 0 (b + 8) (nI i) = some (g.2 1 i) := ldN_at (a 8 _ rfl) hi (by decide)
theorem wf_b8 {f : Nat → Int32} : hup (blk b (wfL b s g) h) (b + 8) (cI 0 48 f) = blk b (wfL b s (sB g 1 f)) h := blk_hup (k := 8) (fun j => by match j with
    | 0 => rfl | 1 => rfl | 2 => rfl | 3 => rfl | 4 => rfl | 5 => rfl | 6 => rfl | 7 => rfl | 8 => rfl
    | j + 9 => rfl)
theorem wf_w8 (hi : i < 48) : stI (blk b (wfL b s g) h) 0 (b + 8) (nI i) x = some (blk b (wfL b s (sA g 1 i x)) h) := by
  rw [stN_at (blk_at b (wfL b s g) h 8 _ rfl) hi (by decide)]
  exact congrArg some (blk_hup (k := 8) (fun j => by match j with
    | 0 => rfl | 1 => rfl | 2 => rfl | 3 => rfl | 4 => rfl | 5 => rfl | 6 => rfl | 7 => rfl | 8 => rfl
    | j + 9 => rfl))
theorem wf_none {s' : Blk} {g' : Blk} : ∀ k, wfL b s' g' k = none → wfL b s g k = none := fun k => by
  match k with
  | 0 => exact fun e => by cases e
  | 1 => exact fun e => by cases e
  | 2 => exact fun e => by cases e
  | 3 => exact fun e => by cases e
  | 4 => exact fun e => by cases e
  | 5 => exact fun e => by cases e
  | 6 => exact fun e => by cases e
  | 7 => exact fun e => by cases e
  | 8 => exact fun e => by cases e
  | k + 9 => exact fun _ => rfl
theorem wf_over {s' : Blk} {g' : Blk} : blk b (wfL b s' g') (blk b (wfL b s g) h) = blk b (wfL b s' g') h := blk_blk wf_none
end
def wkL (b : Nat) (r : Nat → Nat → Int64) : Nat → Option Cel := fun k => match k with
  | 0 => some (cO 5 [.ref (b + 1), .ref (b + 2), .ref (b + 3), .ref (b + 4)])
  | 1 => some (cJ 8 (r 0))
  | 2 => some (cJ 8 (r 1))
  | 3 => some (cJ 8 (r 2))
  | 4 => some (cJ 8 (r 3))
  | _ => none
section
variable {h : Hea} {b : Nat} {r : Nat → Nat → Int64} {i : Nat} {x : Int32}
theorem wk_hi {k : Nat} (e : 5 ≤ k) : wkL b r k = none := by
  obtain ⟨q, rfl⟩ : ∃ q, k = q + 5 := ⟨k - 5, by omega⟩
  rfl
theorem wk_o (a : At h b (wkL b r)) : isO h b 5 = some () := isO_at (a 0 _ rfl)
theorem wk_f0 (a : At h b (wkL b r)) : gR h b 5 0 = some (b + 1) := gR_at (a 0 _ rfl) rfl
theorem wk_f1 (a : At h b (wkL b r)) : gR h b 5 1 = some (b + 2) := gR_at (a 0 _ rfl) rfl
theorem wk_f2 (a : At h b (wkL b r)) : gR h b 5 2 = some (b + 3) := gR_at (a 0 _ rfl) rfl
theorem wk_f3 (a : At h b (wkL b r)) : gR h b 5 3 = some (b + 4) := gR_at (a 0 _ rfl) rfl
theorem wk_k1 (a : At h b (wkL b r)) : h.2 (b + 1) = some (cJ 8 (r 0)) := a 1 _ rfl
theorem wk_m1 (a : At h b (wkL b r)) (hi : i < 8) : ldJ h (b + 1) (nI i) = some (r 0 i) := ldJN_at (a 1 _ rfl) hi (by decide)
theorem wk_b1 {f : Nat → Int64} : hup (blk b (wkL b r) h) (b + 1) (cJ 8 f) = blk b (wkL b (sK r 0 f)) h := blk_hup (k := 1) (fun j => by match j with
    | 0 => rfl | 1 => rfl | 2 => rfl | 3 => rfl | 4 => rfl
    | j + 5 => rfl)
theorem wk_w1 {x : Int64} (hi : i < 8) : stJ (blk b (wkL b r) h) (b + 1) (nI i) x = some (blk b (wkL b (sJ r 0 i x)) h) := by
  rw [stJN_at (blk_at b (wkL b r) h 1 _ rfl) hi (by decide)]
  exact congrArg some (blk_hup (k := 1) (fun j => by match j with
    | 0 => rfl | 1 => rfl | 2 => rfl | 3 => rfl | 4 => rfl
    | j + 5 => rfl))
theorem wk_k2 (a : At h b (wkL b r)) : h.2 (b + 2) = some (cJ 8 (r 1)) := a 2 _ rfl
theorem wk_m2 (a : At h b (wkL b r)) (hi : i < 8) : ldJ h (b + 2) (nI i) = some (r 1 i) := ldJN_at (a 2 _ rfl) hi (by decide)
theorem wk_b2 {f : Nat → Int64} : hup (blk b (wkL b r) h) (b + 2) (cJ 8 f) = blk b (wkL b (sK r 1 f)) h := blk_hup (k := 2) (fun j => by match j with
    | 0 => rfl | 1 => rfl | 2 => rfl | 3 => rfl | 4 => rfl
    | j + 5 => rfl)
theorem wk_w2 {x : Int64} (hi : i < 8) : stJ (blk b (wkL b r) h) (b + 2) (nI i) x = some (blk b (wkL b (sJ r 1 i x)) h) := by
  rw [stJN_at (blk_at b (wkL b r) h 2 _ rfl) hi (by decide)]
  exact congrArg some (blk_hup (k := 2) (fun j => by match j with
    | 0 => rfl | 1 => rfl | 2 => rfl | 3 => rfl | 4 => rfl
    | j + 5 => rfl))
theorem wk_k3 (a : At h b (wkL b r)) : h.2 (b + 3) = some (cJ 8 (r 2)) := a 3 _ rfl
theorem wk_m3 (a : At h b (wkL b r)) (hi : i < 8) : ldJ h (b + 3) (nI i) = some (r 2 i) := ldJN_at (a 3 _ rfl) hi (by decide)
theorem wk_b3 {f : Nat → Int64} : hup (blk b (wkL b r) h) (b + 3) (cJ 8 f) = blk b (wkL b (sK r 2 f)) h := blk_hup (k := 3) (fun j => by match j with
    | 0 => rfl | 1 => rfl | 2 => rfl | 3 => rfl | 4 => rfl
    | j + 5 => rfl)
theorem wk_w3 {x : Int64} (hi : i < 8) : stJ (blk b (wkL b r) h) (b + 3) (nI i) x = some (blk b (wkL b (sJ r 2 i x)) h) := by
  rw [stJN_at (blk_at b (wkL b r) h 3 _ rfl) hi (by decide)]
  exact congrArg some (blk_hup (k := 3) (fun j => by match j with
    | 0 => rfl | 1 => rfl | 2 => rfl | 3 => rfl | 4 => rfl
    | j + 5 => rfl))
theorem wk_k4 (a : At h b (wkL b r)) : h.2 (b + 4) = some (cJ 8 (r 3)) := a 4 _ rfl
theorem wk_m4 (a : At h b (wkL b r)) (hi : i < 8) : ldJ h (b + 4) (nI i) = some (r 3 i) := ldJN_at (a 4 _ rfl) hi (by decide)
theorem wk_b4 {f : Nat → Int64} : hup (blk b (wkL b r) h) (b + 4) (cJ 8 f) = blk b (wkL b (sK r 3 f)) h := blk_hup (k := 4) (fun j => by match j with
    | 0 => rfl | 1 => rfl | 2 => rfl | 3 => rfl | 4 => rfl
    | j + 5 => rfl)
theorem wk_w4 {x : Int64} (hi : i < 8) : stJ (blk b (wkL b r) h) (b + 4) (nI i) x = some (blk b (wkL b (sJ r 3 i x)) h) := by
  rw [stJN_at (blk_at b (wkL b r) h 4 _ rfl) hi (by decide)]
  exact congrArg some (blk_hup (k := 4) (fun j => by match j with
    | 0 => rfl | 1 => rfl | 2 => rfl | 3 => rfl | 4 => rfl
    | j + 5 => rfl))
theorem wk_none {r' : Nat → Nat → Int64} : ∀ k, wkL b r' k = none → wkL b r k = none := fun k => by
  match k with
  | 0 => exact fun e => by cases e
  | 1 => exact fun e => by cases e
  | 2 => exact fun e => by cases e
  | 3 => exact fun e => by cases e
  | 4 => exact fun e => by cases e
  | k + 5 => exact fun _ => rfl
theorem wk_over {r' : Nat → Nat → Int64} : blk b (wkL b r') (blk b (wkL b r) h) = blk b (wkL b r') h := blk_blk wk_none
end
def rdL (b : Nat) (t : Nat) (g : Blk) : Nat → Option Cel := fun k => match k with
  | 0 => some (cO 4 [.ref (t), .int (g.1 0), .int (g.1 1), .int (g.1 2), .int (g.1 3), .int (g.1 4), .int (g.1 5), .int (g.1 6)])
  | _ => none
section
variable {h : Hea} {b : Nat} {t : Nat} {g : Blk} {i : Nat} {x : Int32}
theorem rd_hi {k : Nat} (e : 1 ≤ k) : rdL b t g k = none := by
  obtain ⟨q, rfl⟩ : ∃ q, k = q + 1 := ⟨k - 1, by omega⟩
  rfl
theorem rd_o (a : At h b (rdL b t g)) : isO h b 4 = some () := isO_at (a 0 _ rfl)
theorem rd_f0 (a : At h b (rdL b t g)) : gR h b 4 0 = some (t) := gR_at (a 0 _ rfl) rfl
theorem rd_f1 (a : At h b (rdL b t g)) : gI h b 4 1 = some (g.1 0) := gI_at (a 0 _ rfl) rfl
theorem rd_p1 : pV (blk b (rdL b t g) h) b 4 1 (.int x) = some (blk b (rdL b t (sS g 0 x)) h) := by
  rw [pV_at (at_0 (blk_at b (rdL b t g) h) rfl) (Nat.le_of_ble_eq_true rfl)]
  exact congrArg some (blk_hup (k := 0) (fun j => by match j with
    | 0 => rfl
    | j + 1 => rfl))
theorem rd_f2 (a : At h b (rdL b t g)) : gI h b 4 2 = some (g.1 1) := gI_at (a 0 _ rfl) rfl
theorem rd_p2 : pV (blk b (rdL b t g) h) b 4 2 (.int x) = some (blk b (rdL b t (sS g 1 x)) h) := by
  rw [pV_at (at_0 (blk_at b (rdL b t g) h) rfl) (Nat.le_of_ble_eq_true rfl)]
  exact congrArg some (blk_hup (k := 0) (fun j => by match j with
    | 0 => rfl
    | j + 1 => rfl))
theorem rd_f3 (a : At h b (rdL b t g)) : gI h b 4 3 = some (g.1 2) := gI_at (a 0 _ rfl) rfl
theorem rd_p3 : pV (blk b (rdL b t g) h) b 4 3 (.int x) = some (blk b (rdL b t (sS g 2 x)) h) := by
  rw [pV_at (at_0 (blk_at b (rdL b t g) h) rfl) (Nat.le_of_ble_eq_true rfl)]
  exact congrArg some (blk_hup (k := 0) (fun j => by match j with
    | 0 => rfl
    | j + 1 => rfl))
theorem rd_f4 (a : At h b (rdL b t g)) : gI h b 4 4 = some (g.1 3) := gI_at (a 0 _ rfl) rfl
theorem rd_p4 : pV (blk b (rdL b t g) h) b 4 4 (.int x) = some (blk b (rdL b t (sS g 3 x)) h) := by
  rw [pV_at (at_0 (blk_at b (rdL b t g) h) rfl) (Nat.le_of_ble_eq_true rfl)]
  exact congrArg some (blk_hup (k := 0) (fun j => by match j with
    | 0 => rfl
    | j + 1 => rfl))
theorem rd_f5 (a : At h b (rdL b t g)) : gI h b 4 5 = some (g.1 4) := gI_at (a 0 _ rfl) rfl
theorem rd_p5 : pV (blk b (rdL b t g) h) b 4 5 (.int x) = some (blk b (rdL b t (sS g 4 x)) h) := by
  rw [pV_at (at_0 (blk_at b (rdL b t g) h) rfl) (Nat.le_of_ble_eq_true rfl)]
  exact congrArg some (blk_hup (k := 0) (fun j => by match j with
    | 0 => rfl
    | j + 1 => rfl))
theorem rd_f6 (a : At h b (rdL b t g)) : gI h b 4 6 = some (g.1 5) := gI_at (a 0 _ rfl) rfl
theorem rd_p6 : pV (blk b (rdL b t g) h) b 4 6 (.int x) = some (blk b (rdL b t (sS g 5 x)) h) := by
  rw [pV_at (at_0 (blk_at b (rdL b t g) h) rfl) (Nat.le_of_ble_eq_true rfl)]
  exact congrArg some (blk_hup (k := 0) (fun j => by match j with
    | 0 => rfl
    | j + 1 => rfl))
theorem rd_f7 (a : At h b (rdL b t g)) : gI h b 4 7 = some (g.1 6) := gI_at (a 0 _ rfl) rfl
theorem rd_p7 : pV (blk b (rdL b t g) h) b 4 7 (.int x) = some (blk b (rdL b t (sS g 6 x)) h) := by
  rw [pV_at (at_0 (blk_at b (rdL b t g) h) rfl) (Nat.le_of_ble_eq_true rfl)]
  exact congrArg some (blk_hup (k := 0) (fun j => by match j with
    | 0 => rfl
    | j + 1 => rfl))
theorem rd_none {t' : Nat} {g' : Blk} : ∀ k, rdL b t' g' k = none → rdL b t g k = none := fun k => by
  match k with
  | 0 => exact fun e => by cases e
  | k + 1 => exact fun _ => rfl
theorem rd_over {t' : Nat} {g' : Blk} : blk b (rdL b t' g') (blk b (rdL b t g) h) = blk b (rdL b t' g') h := blk_blk rd_none
end
def txL (b : Nat) (g : Blk) : Nat → Option Cel := fun k => match k with
  | 0 => some (cI 1 150 (g.2 0))
  | _ => none
section
variable {h : Hea} {b : Nat} {g : Blk} {i : Nat} {x : Int32}
theorem tx_hi {k : Nat} (e : 1 ≤ k) : txL b g k = none := by
  obtain ⟨q, rfl⟩ : ∃ q, k = q + 1 := ⟨k - 1, by omega⟩
  rfl
theorem tx_k0 (a : At h b (txL b g)) : h.2 b = some (cI 1 150 (g.2 0)) := a 0 _ rfl
theorem tx_l0 (a : At h b (txL b g)) (hi : inR x 150 = true) : ldI h 1 b x = some (g.2 0 x.toNatClampNeg) := ldI_at (a 0 _ rfl) hi
theorem tx_m0 (a : At h b (txL b g)) (hi : i < 150) : ldI h 1 b (nI i) = some (g.2 0 i) := ldN_at (a 0 _ rfl) hi (by decide)
theorem tx_b0 {f : Nat → Int32} : hup (blk b (txL b g) h) b (cI 1 150 f) = blk b (txL b (sB g 0 f)) h := blk_hup (k := 0) (fun j => by match j with
    | 0 => rfl
    | j + 1 => rfl)
theorem tx_none {g' : Blk} : ∀ k, txL b g' k = none → txL b g k = none := fun k => by
  match k with
  | 0 => exact fun e => by cases e
  | k + 1 => exact fun _ => rfl
theorem tx_over {g' : Blk} : blk b (txL b g') (blk b (txL b g) h) = blk b (txL b g') h := blk_blk tx_none
end
def flL (b : Nat) (g : Blk) (l : Nat → Int64) : Nat → Option Cel := fun k => match k with
  | 0 => some (cO 7 [.ref (b + 1), .ref (b + 16), .ref (b + 66), .ref (b + 81), .ref (b + 82), .ref (b + 83), .ref (b + 84), .ref (b + 92), .ref (b + 101), .ref (b + 106), .ref (b + 108), .int (g.1 0), .long (l 0), .long (l 1), .int (g.1 1), .int (g.1 2), .int (g.1 3)])
  | _ => none
section
variable {h : Hea} {b : Nat} {g : Blk} {l : Nat → Int64} {i : Nat} {x : Int32}
theorem fl_hi {k : Nat} (e : 1 ≤ k) : flL b g l k = none := by
  obtain ⟨q, rfl⟩ : ∃ q, k = q + 1 := ⟨k - 1, by omega⟩
  rfl
theorem fl_o (a : At h b (flL b g l)) : isO h b 7 = some () := isO_at (a 0 _ rfl)
theorem fl_f0 (a : At h b (flL b g l)) : gR h b 7 0 = some (b + 1) := gR_at (a 0 _ rfl) rfl
theorem fl_f1 (a : At h b (flL b g l)) : gR h b 7 1 = some (b + 16) := gR_at (a 0 _ rfl) rfl
theorem fl_f2 (a : At h b (flL b g l)) : gR h b 7 2 = some (b + 66) := gR_at (a 0 _ rfl) rfl
theorem fl_f3 (a : At h b (flL b g l)) : gR h b 7 3 = some (b + 81) := gR_at (a 0 _ rfl) rfl
theorem fl_f4 (a : At h b (flL b g l)) : gR h b 7 4 = some (b + 82) := gR_at (a 0 _ rfl) rfl
theorem fl_f5 (a : At h b (flL b g l)) : gR h b 7 5 = some (b + 83) := gR_at (a 0 _ rfl) rfl
theorem fl_f6 (a : At h b (flL b g l)) : gR h b 7 6 = some (b + 84) := gR_at (a 0 _ rfl) rfl
theorem fl_f7 (a : At h b (flL b g l)) : gR h b 7 7 = some (b + 92) := gR_at (a 0 _ rfl) rfl
theorem fl_f8 (a : At h b (flL b g l)) : gR h b 7 8 = some (b + 101) := gR_at (a 0 _ rfl) rfl
theorem fl_f9 (a : At h b (flL b g l)) : gR h b 7 9 = some (b + 106) := gR_at (a 0 _ rfl) rfl
theorem fl_f10 (a : At h b (flL b g l)) : gR h b 7 10 = some (b + 108) := gR_at (a 0 _ rfl) rfl
theorem fl_f11 (a : At h b (flL b g l)) : gI h b 7 11 = some (g.1 0) := gI_at (a 0 _ rfl) rfl
theorem fl_p11 : pV (blk b (flL b g l) h) b 7 11 (.int x) = some (blk b (flL b (sS g 0 x) l) h) := by
  rw [pV_at (at_0 (blk_at b (flL b g l) h) rfl) (Nat.le_of_ble_eq_true rfl)]
  exact congrArg some (blk_hup (k := 0) (fun j => by match j with
    | 0 => rfl
    | j + 1 => rfl))
theorem fl_f12 (a : At h b (flL b g l)) : gJ h b 7 12 = some (l 0) := gJ_at (a 0 _ rfl) rfl
theorem fl_p12 {x : Int64} : pV (blk b (flL b g l) h) b 7 12 (.long x) = some (blk b (flL b g (vp_updL l 0 x)) h) := by
  rw [pV_at (at_0 (blk_at b (flL b g l) h) rfl) (Nat.le_of_ble_eq_true rfl)]
  exact congrArg some (blk_hup (k := 0) (fun j => by match j with
    | 0 => rfl
    | j + 1 => rfl))
theorem fl_f13 (a : At h b (flL b g l)) : gJ h b 7 13 = some (l 1) := gJ_at (a 0 _ rfl) rfl
theorem fl_p13 {x : Int64} : pV (blk b (flL b g l) h) b 7 13 (.long x) = some (blk b (flL b g (vp_updL l 1 x)) h) := by
  rw [pV_at (at_0 (blk_at b (flL b g l) h) rfl) (Nat.le_of_ble_eq_true rfl)]
  exact congrArg some (blk_hup (k := 0) (fun j => by match j with
    | 0 => rfl
    | j + 1 => rfl))
theorem fl_f14 (a : At h b (flL b g l)) : gI h b 7 14 = some (g.1 1) := gI_at (a 0 _ rfl) rfl
theorem fl_p14 : pV (blk b (flL b g l) h) b 7 14 (.int x) = some (blk b (flL b (sS g 1 x) l) h) := by
  rw [pV_at (at_0 (blk_at b (flL b g l) h) rfl) (Nat.le_of_ble_eq_true rfl)]
  exact congrArg some (blk_hup (k := 0) (fun j => by match j with
    | 0 => rfl
    | j + 1 => rfl))
theorem fl_f15 (a : At h b (flL b g l)) : gI h b 7 15 = some (g.1 2) := gI_at (a 0 _ rfl) rfl
theorem fl_p15 : pV (blk b (flL b g l) h) b 7 15 (.int x) = some (blk b (flL b (sS g 2 x) l) h) := by
  rw [pV_at (at_0 (blk_at b (flL b g l) h) rfl) (Nat.le_of_ble_eq_true rfl)]
  exact congrArg some (blk_hup (k := 0) (fun j => by match j with
    | 0 => rfl
    | j + 1 => rfl))
theorem fl_f16 (a : At h b (flL b g l)) : gI h b 7 16 = some (g.1 3) := gI_at (a 0 _ rfl) rfl
theorem fl_p16 : pV (blk b (flL b g l) h) b 7 16 (.int x) = some (blk b (flL b (sS g 3 x) l) h) := by
  rw [pV_at (at_0 (blk_at b (flL b g l) h) rfl) (Nat.le_of_ble_eq_true rfl)]
  exact congrArg some (blk_hup (k := 0) (fun j => by match j with
    | 0 => rfl
    | j + 1 => rfl))
theorem fl_none {g' : Blk} {l' : Nat → Int64} : ∀ k, flL b g' l' k = none → flL b g l k = none := fun k => by
  match k with
  | 0 => exact fun e => by cases e
  | k + 1 => exact fun _ => rfl
theorem fl_over {g' : Blk} {l' : Nat → Int64} : blk b (flL b g' l') (blk b (flL b g l) h) = blk b (flL b g' l') h := blk_blk fl_none
end
def kfL (b : Nat) (g : Blk) : Nat → Option Cel := fun k => match k with
  | 0 => some (cR 4 2 (va_up (va_up (fun _ => none) 0 (some (b + 28))) 1 (some (b + 93))))
  | 1 => some (cR 5 2 (va_up (va_up (fun _ => none) 0 (some (b + 43))) 1 (some (b + 108))))
  | 2 => some (cI 2 2 (g.2 0))
  | _ => none
section
variable {h : Hea} {b : Nat} {g : Blk} {i : Nat} {x : Int32}
theorem kf_hi {k : Nat} (e : 3 ≤ k) : kfL b g k = none := by
  obtain ⟨q, rfl⟩ : ∃ q, k = q + 3 := ⟨k - 3, by omega⟩
  rfl
theorem kf_k2 (a : At h b (kfL b g)) : h.2 (b + 2) = some (cI 2 2 (g.2 0)) := a 2 _ rfl
theorem kf_l2 (a : At h b (kfL b g)) (hi : inR x 2 = true) : ldI h 2 (b + 2) x = some (g.2 0 x.toNatClampNeg) := ldI_at (a 2 _ rfl) hi
theorem kf_m2 (a : At h b (kfL b g)) (hi : i < 2) : ldI h 2 (b + 2) (nI i) = some (g.2 0 i) := ldN_at (a 2 _ rfl) hi (by decide)
theorem kf_b2 {f : Nat → Int32} : hup (blk b (kfL b g) h) (b + 2) (cI 2 2 f) = blk b (kfL b (sB g 0 f)) h := blk_hup (k := 2) (fun j => by match j with
    | 0 => rfl | 1 => rfl | 2 => rfl
    | j + 3 => rfl)
theorem kf_none {g' : Blk} : ∀ k, kfL b g' k = none → kfL b g k = none := fun k => by
  match k with
  | 0 => exact fun e => by cases e
  | 1 => exact fun e => by cases e
  | 2 => exact fun e => by cases e
  | k + 3 => exact fun _ => rfl
theorem kf_over {g' : Blk} : blk b (kfL b g') (blk b (kfL b g) h) = blk b (kfL b g') h := blk_blk kf_none
end
