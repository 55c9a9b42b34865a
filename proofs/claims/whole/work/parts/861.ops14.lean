/-! ===== digest ===== -/
def dgF (v : Nat → Int32) : Nat → Nat → Int64 → Int64
  | 0, _, a => a
  | k + 1, j, a => dgF v k (j + 1) (31 * a + (v j).toInt64)
theorem dgF_s (v : Nat → Int32) (k j : Nat) (a : Int64) : dgF v (k + 1) j a = dgF v k (j + 1) (31 * a + (v j).toInt64) := rfl
theorem dgF_eq {v v' : Nat → Int32} : ∀ (k j : Nat) (a : Int64), (∀ q, j ≤ q → q < j + k → v q = v' q) → dgF v k j a = dgF v' k j a := by
  intro k
  induction k with
  | zero => intro j a _; rfl
  | succ k ih =>
    intro j a hv
    rw [dgF_s, dgF_s, hv j (by omega) (by omega)]
    exact ih (j + 1) _ (fun q h1 h2 => hv q (by omega) (by omega))
theorem dgF_7 (v : Nat → Int32) (k j : Nat) (a : Int64) : dgF v (k + 7) j a = dgF v k (j + 7) (31 * (31 * (31 * (31 * (31 * (31 * (31 * a + (v j).toInt64) + (v (j + 1)).toInt64) + (v (j + 2)).toInt64) + (v (j + 3)).toInt64) + (v (j + 4)).toInt64) + (v (j + 5)).toInt64) + (v (j + 6)).toInt64) := rfl
theorem dgF_3 (v : Nat → Int32) (k j : Nat) (a : Int64) : dgF v (k + 3) j a = dgF v k (j + 3) (31 * (31 * (31 * a + (v j).toInt64) + (v (j + 1)).toInt64) + (v (j + 2)).toInt64) := rfl
/-- the doors, row by row -/
def dgO (H : Blk) : Nat → Nat → Int64 → Int64
  | 0, _, a => a
  | k + 1, j, a => dgO H k (j + 1) (dgF (fun q => H.2 1 (j * 8 + q)) (7 - j) (j + 1) a)
def dgH (H s : Blk) : Nat → Nat → Int64 → Int64
  | 0, _, a => a
  | k + 1, j, a => dgH H s k (j + 1) (31 * (31 * (31 * (31 * (31 * (31 * (31 * a + (H.2 3 j).toInt64) + (s.2 0 j).toInt64) + (H.2 4 j).toInt64) + (s.2 1 j).toInt64) + (s.2 2 j).toInt64) + (s.2 3 j).toInt64) + (s.2 4 j).toInt64)
def dgS (H : Blk) : Nat → Nat → Int64 → Int64
  | 0, _, a => a
  | k + 1, j, a => dgS H k (j + 1) (31 * (31 * (31 * a + (H.2 5 j).toInt64) + (H.2 6 j).toInt64) + (H.2 7 j).toInt64)
theorem dgO_s (H : Blk) (k j : Nat) (a : Int64) : dgO H (k + 1) j a = dgO H k (j + 1) (dgF (fun q => H.2 1 (j * 8 + q)) (7 - j) (j + 1) a) := rfl
theorem dgH_s (H s : Blk) (k j : Nat) (a : Int64) : dgH H s (k + 1) j a = dgH H s k (j + 1) (31 * (31 * (31 * (31 * (31 * (31 * (31 * a + (H.2 3 j).toInt64) + (s.2 0 j).toInt64) + (H.2 4 j).toInt64) + (s.2 1 j).toInt64) + (s.2 2 j).toInt64) + (s.2 3 j).toInt64) + (s.2 4 j).toInt64) := rfl
theorem dgS_s (H : Blk) (k j : Nat) (a : Int64) : dgS H (k + 1) j a = dgS H k (j + 1) (31 * (31 * (31 * a + (H.2 5 j).toInt64) + (H.2 6 j).toInt64) + (H.2 7 j).toInt64) := rfl
theorem dgH_v {H s : Blk} {N : Nat → Int32} (hN : hR H N) (hs : sR H s N) : ∀ (k j : Nat) (a : Int64), j + k = hM H → dgF (fun q => N (91 + q)) (7 * k) (7 * j) a = dgH H s k j a := by
  intro k
  induction k with
  | zero => intro j a _; rfl
  | succ k ih =>
    intro j a hj
    obtain ⟨e0, e2⟩ := hN.2.2.2.2.2.2.2.2.1 j (by omega)
    obtain ⟨e1, e3, e4, e5, e6⟩ := hs.2 j (by omega)
    rw [Nat.add_assoc] at e1 e2 e3 e4 e5 e6
    rw [show 7 * (k + 1) = 7 * k + 7 by omega, dgF_7, dgH_s, show 7 * j + 7 = 7 * (j + 1) by omega, ih (j + 1) _ (by omega)]
    simp only [e0, e1, e2, e3, e4, e5, e6]
theorem dgS_v {H : Blk} {N : Nat → Int32} (hN : hR H N) : ∀ (k j : Nat) (a : Int64), j + k = hS H → dgF (fun q => N (133 + q)) (3 * k) (3 * j) a = dgS H k j a := by
  intro k
  induction k with
  | zero => intro j a _; rfl
  | succ k ih =>
    intro j a hj
    obtain ⟨e0, e1, e2⟩ := hN.2.2.2.2.2.2.2.2.2 j (by omega)
    rw [Nat.add_assoc] at e1 e2
    rw [show 3 * (k + 1) = 3 * k + 3 by omega, dgF_3, dgS_s, show 3 * j + 3 = 3 * (j + 1) by omega, ih (j + 1) _ (by omega)]
    simp only [e0, e1, e2]
section
variable {h : Hea} {b : Nat} {H s : Blk}
theorem g_dR5 (a : At h b (hhL b H s)) : ∀ (k j n : Nat) (v : Int64), j + k = 8 → k < n → f_X1_digestRooms_5 n h b v (nI j) = some (dgF (H.2 0) k j v) := by
  intro k
  induction k with
  | zero =>
    intro j n v hj hn
    obtain ⟨n, rfl⟩ : ∃ q, n = q + 1 := ⟨n - 1, by omega⟩
    rw [f_X1_digestRooms_5, if_pos (show (8 : Int32) ≤ nI j from nI_le (a := 8) (by omega) (by omega))]; rfl
  | succ k ih =>
    intro j n v hj hn
    obtain ⟨n, rfl⟩ : ∃ q, n = q + 1 := ⟨n - 1, by omega⟩
    rw [f_X1_digestRooms_5, if_neg (show ¬ (8 : Int32) ≤ nI j from nI_ge (b := 8) (by omega) (by omega)), hh_f2 a, b_some, hh_m1 a (by omega), b_some, nI_1, ih (j + 1) n _ (by omega) (by omega), dgF_s]
theorem g_dR49 (a : At h b (hhL b H s)) {i : Nat} (hi : i < 8) : ∀ (k j n : Nat) (v : Int64), j + k = 8 → k < n → f_X1_digestRooms_49 n h b v (nI i) (nI j) = some (dgF (fun q => H.2 1 (i * 8 + q)) k j v) := by
  intro k
  induction k with
  | zero =>
    intro j n v hj hn
    obtain ⟨n, rfl⟩ : ∃ q, n = q + 1 := ⟨n - 1, by omega⟩
    rw [f_X1_digestRooms_49, if_pos (show (8 : Int32) ≤ nI j from nI_le (a := 8) (by omega) (by omega))]; rfl
  | succ k ih =>
    intro j n v hj hn
    obtain ⟨n, rfl⟩ : ∃ q, n = q + 1 := ⟨n - 1, by omega⟩
    rw [f_X1_digestRooms_49, if_neg (show ¬ (8 : Int32) ≤ nI j from nI_ge (b := 8) (by omega) (by omega)), hh_o a, b_some, g_creaks (hh_ho a) hi (by omega), b_some, nI_1, ih (j + 1) n _ (by omega) (by omega), dgF_s]
theorem g_dR36 (a : At h b (hhL b H s)) : ∀ (k j n : Nat) (v : Int64), j + k = 8 → k < n → f_X1_digestRooms_36 n h b v (nI j) = some (dgO H k j v) := by
  intro k
  induction k with
  | zero =>
    intro j n v hj hn
    obtain ⟨n, rfl⟩ : ∃ q, n = q + 1 := ⟨n - 1, by omega⟩
    rw [f_X1_digestRooms_36, if_pos (show (8 : Int32) ≤ nI j from nI_le (a := 8) (by omega) (by omega))]; rfl
  | succ k ih =>
    intro j n v hj hn
    obtain ⟨n, rfl⟩ : ∃ q, n = q + 1 := ⟨n - 1, by omega⟩
    rw [f_X1_digestRooms_36, if_neg (show ¬ (8 : Int32) ≤ nI j from nI_ge (b := 8) (by omega) (by omega)), nI_1, g_dR49 a (show j < 8 by omega) (7 - j) (j + 1) lots v (by omega) (by simp only [lots]; omega), b_some, ih (j + 1) n _ (by omega) (by omega), dgO_s]
theorem g_dR87 (a : At h b (hhL b H s)) (wH : wfH H) : ∀ (k j n : Nat) (v : Int64), j + k = hL H → k < n → f_X1_digestRooms_87 n h b v (nI j) = some (dgF (H.2 2) k j v) := by
  have h12 := wH.2.2.2.2
  intro k
  induction k with
  | zero =>
    intro j n v hj hn
    obtain ⟨n, rfl⟩ : ∃ q, n = q + 1 := ⟨n - 1, by omega⟩
    rw [f_X1_digestRooms_87, hh_f5 a, b_some, wH.2.2.1, if_pos (nI_le (by omega) (by omega))]; rfl
  | succ k ih =>
    intro j n v hj hn
    obtain ⟨n, rfl⟩ : ∃ q, n = q + 1 := ⟨n - 1, by omega⟩
    rw [f_X1_digestRooms_87, hh_f5 a, b_some, wH.2.2.1, if_neg (nI_ge (by omega) (by omega)), hh_f4 a, b_some, hh_m3 a (by omega), b_some, nI_1, ih (j + 1) n _ (by omega) (by omega), dgF_s]
theorem g_dRooms (a : At h b (hhL b H s)) (wH : wfH H) (v : Int64) : f_X1_digestRooms h b v = some (dgF (H.2 2) (hL H) 0 (dgO H 8 0 (dgF (H.2 0) 8 0 v))) := by
  have h12 := wH.2.2.2.2
  have e1 := g_dR5 a 8 0 lots v (by omega) (by simp only [lots]; omega)
  have e2 := g_dR36 a 8 0 lots (dgF (H.2 0) 8 0 v) (by omega) (by simp only [lots]; omega)
  have e3 := g_dR87 a wH (hL H) 0 lots (dgO H 8 0 (dgF (H.2 0) 8 0 v)) (by omega) (by simp only [lots]; omega)
  rw [nI_0] at e1 e2 e3
  rw [f_X1_digestRooms, e1, b_some, e2, b_some, e3, b_some]
theorem g_dH5 (a : At h b (hhL b H s)) (wH : wfH H) : ∀ (k j n : Nat) (v : Int64), j + k = hM H → k < n → f_X1_digestHeirs_5 n h b v (nI j) = some (dgH H s k j v) := by
  have hm := wH.2.1
  intro k
  induction k with
  | zero =>
    intro j n v hj hn
    obtain ⟨n, rfl⟩ : ∃ q, n = q + 1 := ⟨n - 1, by omega⟩
    rw [f_X1_digestHeirs_5, hh_f6 a, b_some, wH.1, if_pos (nI_le (by omega) (by omega))]; rfl
  | succ k ih =>
    intro j n v hj hn
    obtain ⟨n, rfl⟩ : ∃ q, n = q + 1 := ⟨n - 1, by omega⟩
    have hj6 : j < 6 := by omega
    rw [f_X1_digestHeirs_5, hh_f6 a, b_some, wH.1, if_neg (nI_ge (by omega) (by omega)), hh_f7 a, b_some, hh_m4 a hj6, b_some, hh_f9 a, b_some, hh_f6_1 a, b_some, hh_m7 a hj6, b_some, hh_f8 a, b_some, hh_m5 a hj6, b_some, b_some, hh_f6_2 a, b_some, hh_m8 a hj6, b_some, b_some, hh_f6_3 a, b_some, hh_m9 a hj6, b_some, b_some, hh_f6_4 a, b_some, hh_m10 a hj6, b_some, b_some, hh_f6_5 a, b_some, hh_m11 a hj6, b_some, nI_1, ih (j + 1) n _ (by omega) (by omega), dgH_s]
theorem g_dS5 (a : At h b (hhL b H s)) (wE : wfE H) : ∀ (k j n : Nat) (v : Int64), j + k = hS H → k < n → f_X1_digestSeen_5 n h b v (nI j) = some (dgS H k j v) := by
  have hm := wE.2
  intro k
  induction k with
  | zero =>
    intro j n v hj hn
    obtain ⟨n, rfl⟩ : ∃ q, n = q + 1 := ⟨n - 1, by omega⟩
    rw [f_X1_digestSeen_5, hh_f10 a, b_some, wE.1, if_pos (nI_le (by omega) (by omega))]; rfl
  | succ k ih =>
    intro j n v hj hn
    obtain ⟨n, rfl⟩ : ∃ q, n = q + 1 := ⟨n - 1, by omega⟩
    have hj6 : j < 6 := by omega
    rw [f_X1_digestSeen_5, hh_f10 a, b_some, wE.1, if_neg (nI_ge (by omega) (by omega)), hh_f11 a, b_some, hh_m12 a hj6, b_some, hh_f12 a, b_some, hh_m13 a hj6, b_some, hh_f13 a, b_some, hh_m14 a hj6, b_some, nI_1, ih (j + 1) n _ (by omega) (by omega), dgS_s]
variable {m : Blk} {l : Nat → Int64} {r : Nat → Nat → Int64}
theorem g8_sums6 (a : At h b (mdL b m l r)) {p z : Nat} (hp : p + z ≤ 399) : ∀ (k j n : Nat) (v : Int64), j + k = z → k < n → f_X8_sums_6 n h b (nI p) (nI z) v (nI j) = some (dgF (fun q => m.2 0 (p + q)) k j v) := by
  intro k
  induction k with
  | zero =>
    intro j n v hj hn
    obtain ⟨n, rfl⟩ : ∃ q, n = q + 1 := ⟨n - 1, by omega⟩
    rw [f_X8_sums_6, if_pos (nI_le (by omega) (by omega))]; rfl
  | succ k ih =>
    intro j n v hj hn
    obtain ⟨n, rfl⟩ : ∃ q, n = q + 1 := ⟨n - 1, by omega⟩
    rw [f_X8_sums_6, if_neg (nI_ge (by omega) (by omega)), md_f0 a, b_some, nI_add, md_m1 a (by omega), b_some, nI_1, ih (j + 1) n _ (by omega) (by omega), dgF_s]
theorem g8_sums (a : At h b (mdL b m l r)) {p z : Nat} (hp : p + z ≤ 399) (v : Int64) : f_X8_sums h b v (nI p) (nI z) = some (dgF (fun q => m.2 0 (p + q)) z 0 v) := by
  have e := g8_sums6 a hp z 0 lots v (by omega) (by simp only [lots]; omega)
  rw [nI_0] at e
  rw [f_X8_sums, e, b_some]
theorem g8_d54 (a : At h b (mdL b m l r)) (hN : hR H (m.2 0)) {i : Nat} (hi : i < 8) : ∀ (k j n : Nat) (v : Int64), j + k = 8 → k < n → f_X8_digest_54 n h b v (nI i) (nI j) = some (dgF (fun q => H.2 1 (i * 8 + q)) k j v) := by
  intro k
  induction k with
  | zero =>
    intro j n v hj hn
    obtain ⟨n, rfl⟩ : ∃ q, n = q + 1 := ⟨n - 1, by omega⟩
    rw [f_X8_digest_54, if_pos (show (8 : Int32) ≤ nI j from nI_le (a := 8) (by omega) (by omega))]; rfl
  | succ k ih =>
    intro j n v hj hn
    obtain ⟨n, rfl⟩ : ∃ q, n = q + 1 := ⟨n - 1, by omega⟩
    rw [f_X8_digest_54, if_neg (show ¬ (8 : Int32) ≤ nI j from nI_ge (b := 8) (by omega) (by omega)), md_o a, b_some, g8_creaks a hN hi (by omega), b_some, nI_1, ih (j + 1) n _ (by omega) (by omega), dgF_s]
theorem g8_d43 (a : At h b (mdL b m l r)) (hN : hR H (m.2 0)) : ∀ (k j n : Nat) (v : Int64), j + k = 8 → k < n → f_X8_digest_43 n h b v (nI j) = some (dgO H k j v) := by
  intro k
  induction k with
  | zero =>
    intro j n v hj hn
    obtain ⟨n, rfl⟩ : ∃ q, n = q + 1 := ⟨n - 1, by omega⟩
    rw [f_X8_digest_43, if_pos (show (8 : Int32) ≤ nI j from nI_le (a := 8) (by omega) (by omega))]; rfl
  | succ k ih =>
    intro j n v hj hn
    obtain ⟨n, rfl⟩ : ∃ q, n = q + 1 := ⟨n - 1, by omega⟩
    rw [f_X8_digest_43, if_neg (show ¬ (8 : Int32) ≤ nI j from nI_ge (b := 8) (by omega) (by omega)), nI_1, g8_d54 a hN (show j < 8 by omega) (7 - j) (j + 1) lots v (by omega) (by simp only [lots]; omega), b_some, ih (j + 1) n _ (by omega) (by omega), dgO_s]
end
section
variable {B k : Nat} {h : Hea} {X : Nat → Blk} {P : Nat → Pst} {L : Nat → Nat → Int64} {R : Nat → Nat → Nat → Int64} {t : Nat} {q : Nat → Nat → Nat}
theorem g_dig6 (w : Wd B X P L R t h) (wH : wfH (X 1)) : ∀ (k j n : Nat) (v : Int64), j + k = 9 → k < n → f_X7_digest_6 n h B v (nI j) = some (dgF (cvF X (P 0).1) k j v) := by
  intro k
  induction k with
  | zero =>
    intro j n v hj hn
    obtain ⟨n, rfl⟩ : ∃ q, n = q + 1 := ⟨n - 1, by omega⟩
    rw [f_X7_digest_6, if_pos (show (8 : Int32) < nI j from nI_lt (a := 8) (by omega) (by omega))]; rfl
  | succ k ih =>
    intro j n v hj hn
    obtain ⟨n, rfl⟩ : ∃ q, n = q + 1 := ⟨n - 1, by omega⟩
    rw [f_X7_digest_6, if_neg (show ¬ (8 : Int32) < nI j from nI_nlt (a := 8) (by omega) (by omega)), fl_o (wd_fl w), b_some, g_counted w wH (by omega), b_some, nI_1, ih (j + 1) n _ (by omega) (by omega), dgF_s]
theorem g8_dig6 {l : Nat → Int64} {r : Nat → Nat → Int64} (aM : At h (B + 239) (mdL (B + 239) (X 16) l r)) {c : Nat} (i : InvX B c X P L q) : ∀ (k j n : Nat) (v : Int64), j + k = 9 → k < n → f_X8_digest_6 n h (B + 239) v (nI j) = some (dgF (cvF X (P 0).1) k j v) := by
  intro k
  induction k with
  | zero =>
    intro j n v hj hn
    obtain ⟨n, rfl⟩ : ∃ q, n = q + 1 := ⟨n - 1, by omega⟩
    rw [f_X8_digest_6, if_pos (show (9 : Int32) ≤ nI j from nI_le (a := 9) (by omega) (by omega))]; rfl
  | succ k ih =>
    intro j n v hj hn
    obtain ⟨n, rfl⟩ : ∃ q, n = q + 1 := ⟨n - 1, by omega⟩
    rw [f_X8_digest_6, if_neg (show ¬ (9 : Int32) ≤ nI j from nI_ge (b := 9) (by omega) (by omega)), md_o aM, b_some, g8_counted aM i (by omega), b_some, nI_1, ih (j + 1) n _ (by omega) (by omega), dgF_s]
theorem op_digest (a : Inv B k h) : ∃ x, f_X7_digest h B = some x ∧ f_X8_digest h (B + 239) = some x ∧ isO h B 7 = some () ∧ isO h (B + 239) 8 = some () ∧ Inv B (k + 1) h := by
  obtain ⟨X, P, L, R, t, q, w, i⟩ := a
  obtain ⟨wo, ws, wt, rH, rs, rp⟩ := i.2.2.1
  have hm := wo.1.2.1
  have h12 := wo.1.2.2.2.2
  have hs6 := wo.2.1.2
  have aM := wd_md w
  have aL := wd_fl w
  have aH := wd_ho w
  have i9 := i.2.2.2.2.2.2.2.2
  have e1 := g_dig6 w wo.1 9 0 lots 1033 (by omega) (by simp only [lots]; omega)
  have f1 := g8_dig6 aM i 9 0 lots 1033 (by omega) (by simp only [lots]; omega)
  rw [nI_0] at e1 f1
  generalize dgF (cvF X (P 0).1) 9 0 1033 = v1 at e1 f1
  have e2 := g_dRooms aH wo.1 v1
  have f2 := g8_sums aM (p := 7) (z := 8) (by omega) v1
  rw [show nI 7 = 7 from rfl, show nI 8 = 8 from rfl, dgF_eq (v := fun q => (X 16).2 0 (7 + q)) (v' := (X 1).2 0) 8 0 v1 (fun q _ hq => rH.2.2.2.2.2.1 q (by omega))] at f2
  generalize dgF ((X 1).2 0) 8 0 v1 = v2 at e2 f2
  have f3 := g8_d43 aM rH 8 0 lots v2 (by omega) (by simp only [lots]; omega)
  rw [nI_0] at f3
  generalize dgO (X 1) 8 0 v2 = v3 at e2 f3
  have f4 := g8_sums aM (p := 79) (z := hL (X 1)) (by omega) v3
  rw [show nI 79 = 79 from rfl, dgF_eq (v := fun q => (X 16).2 0 (79 + q)) (v' := (X 1).2 2) (hL (X 1)) 0 v3 (fun q _ hq => rH.2.2.2.2.2.2.2.1 q (by omega))] at f4
  generalize dgF ((X 1).2 2) (hL (X 1)) 0 v3 = v4 at e2 f4
  have e5 := g_dH5 aH wo.1 (hM (X 1)) 0 lots v4 (by omega) (by simp only [lots]; omega)
  have f5 := g8_sums aM (p := 91) (z := 7 * hM (X 1)) (by omega) v4
  have v5 := dgH_v rH rs (hM (X 1)) 0 v4 (by omega)
  rw [Nat.mul_zero] at v5
  rw [nI_0] at e5
  rw [show nI 91 = 91 from rfl, v5] at f5
  generalize dgH (X 1) (X 2) (hM (X 1)) 0 v4 = v6 at e5 f5
  have e6 := g_dS5 aH wo.2.1 (hS (X 1)) 0 lots v6 (by omega) (by simp only [lots]; omega)
  have f6 := g8_sums aM (p := 133) (z := 3 * hS (X 1)) (by omega) v6
  have v7 := dgS_v rH (hS (X 1)) 0 v6 (by omega)
  rw [Nat.mul_zero] at v7
  rw [nI_0] at e6
  rw [show nI 133 = 133 from rfl, v7] at f6
  generalize dgS (X 1) (hS (X 1)) 0 v6 = v8 at e6 f6
  have x7 : (7 : Int32) * nI (hM (X 1)) = nI (7 * hM (X 1)) := pk_mul 7 _
  have x3 : (3 : Int32) * nI (hS (X 1)) = nI (3 * hS (X 1)) := pk_mul 3 _
  refine ⟨31 * (31 * v8 + L 0 0) + L 0 1, ?_, ?_, fl_o aL, md_o aM, ⟨X, P, L, R, t, q, w, i.up⟩⟩
  · rw [f_X7_digest, e1, b_some, fl_f0 aL, b_some, hh_o aH, b_some, e2, b_some, b_some, hh_o aH, b_some, f_X1_digestHeirs, e5, b_some, b_some, b_some, hh_o aH, b_some, f_X1_digestSeen, e6, b_some, b_some, fl_f12 aL, b_some, fl_f13 aL, b_some]
  · rw [f_X8_digest, f1, b_some, md_o aM, b_some, f2, b_some, f3, b_some, md_f0 aM, b_some, ln_4 aM, b_some, rH.2.2.2.1, wo.1.2.2.1, b_some, f4, b_some, b_some, g8_heirs aM, b_some, rH.1, wo.1.1, x7, b_some, f5, b_some, b_some, ln_5 aM, b_some, rH.2.2.2.2.1, wo.2.1.1, x3, b_some, f6, b_some, md_f4 aM, b_some, md_f5 aM, b_some, i9.1, i9.2]
end
