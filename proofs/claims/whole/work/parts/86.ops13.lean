/-! ===== operations that only read: status, part, count, of ===== -/
theorem nl0 {T : Nat} (hT : T < 100) (h : ¬ T = 0) : ¬ nI T = 0 := fun e => h ((nI_eq (b := 0) (by omega) (by omega)).mp e)
theorem nl1 {T : Nat} (hT : T < 100) (h : ¬ T = 1) : ¬ nI T = 1 := fun e => h ((nI_eq (b := 1) (by omega) (by omega)).mp e)
theorem nl2 {T : Nat} (hT : T < 100) (h : ¬ T = 2) : ¬ nI T = 2 := fun e => h ((nI_eq (b := 2) (by omega) (by omega)).mp e)
theorem nl3 {T : Nat} (hT : T < 100) (h : ¬ T = 3) : ¬ nI T = 3 := fun e => h ((nI_eq (b := 3) (by omega) (by omega)).mp e)
theorem nl4 {T : Nat} (hT : T < 100) (h : ¬ T = 4) : ¬ nI T = 4 := fun e => h ((nI_eq (b := 4) (by omega) (by omega)).mp e)
theorem nl5 {T : Nat} (hT : T < 100) (h : ¬ T = 5) : ¬ nI T = 5 := fun e => h ((nI_eq (b := 5) (by omega) (by omega)).mp e)
theorem nl6 {T : Nat} (hT : T < 100) (h : ¬ T = 6) : ¬ nI T = 6 := fun e => h ((nI_eq (b := 6) (by omega) (by omega)).mp e)
theorem nl7 {T : Nat} (hT : T < 100) (h : ¬ T = 7) : ¬ nI T = 7 := fun e => h ((nI_eq (b := 7) (by omega) (by omega)).mp e)
theorem nl8 {T : Nat} (hT : T < 100) (h : ¬ T = 8) : ¬ nI T = 8 := fun e => h ((nI_eq (b := 8) (by omega) (by omega)).mp e)
section
variable {B k : Nat} {h : Hea}
theorem op_status (a : Inv B k h) (x : Int32) : Both B k h (fun h => f_X7_status h B x) (fun h => f_X8_status h (B + 239) x) := by
  obtain ⟨X, P, L, R, t, q, w, i⟩ := a
  by_cases c1 : x < 0 ∨ 2 < x
  · obtain ⟨h1, h2, e1, e2, o1, o2, iv, aM⟩ := inv_bad w i
    have n0 : ¬ x = 0 := by rintro rfl; revert c1; decide
    have n1 : ¬ x = 1 := by rintro rfl; revert c1; decide
    have n2 : ¬ x = 2 := by rintro rfl; revert c1; decide
    refine ⟨-1, h1, h2, ?_, ?_, o2, iv⟩
    · show f_X7_status h B x = _
      rw [f_X7_status, if_neg n0, if_neg n1, if_neg n2, o1, b_some, e1, b2_some]
    · show f_X8_status h1 (B + 239) x = _
      rw [f_X8_status, L01 x 0 2 0 2 rfl rfl, b_some, if_pos c1, if_pos rfl, o2, b_some, e2, b2_some, b2_some]
  obtain ⟨T, hT, rfl⟩ := wi_n (hi := 2) (by omega) c1
  have aM := wd_md w
  have aL := wd_fl w
  have i7 := i.2.2.2.2.2.2.1
  have e8 : ∀ v, (X 16).2 3 T = v → f_X8_status h (B + 239) (nI T) = some (v, h) := by
    rintro v rfl
    rw [f_X8_status, L01 (nI T) 0 2 0 2 rfl rfl, b_some, if_neg c1, if_neg n10, md_f3 aM, b_some, md_m4 aM (by omega), b_some, b2_some]
  rcases (show T = 0 ∨ T = 1 ∨ T = 2 by omega) with rfl | rfl | rfl
  · refine ⟨(X 0).1 1, h, h, ?_, e8 _ i7.1, md_o aM, ⟨X, P, L, R, t, q, w, i.up⟩⟩
    show f_X7_status h B (nI 0) = _
    rw [f_X7_status, if_pos (show nI 0 = 0 from rfl), fl_f14 aL, b_some]
  · refine ⟨(X 0).1 2, h, h, ?_, e8 _ i7.2.1, md_o aM, ⟨X, P, L, R, t, q, w, i.up⟩⟩
    show f_X7_status h B (nI 1) = _
    rw [f_X7_status, if_neg (show ¬ nI 1 = 0 by decide), if_pos (show nI 1 = 1 from rfl), fl_f15 aL, b_some]
  · refine ⟨(X 0).1 3, h, h, ?_, e8 _ i7.2.2, md_o aM, ⟨X, P, L, R, t, q, w, i.up⟩⟩
    show f_X7_status h B (nI 2) = _
    rw [f_X7_status, if_neg (show ¬ nI 2 = 0 by decide), if_neg (show ¬ nI 2 = 1 by decide), if_pos (show nI 2 = 2 from rfl), fl_f16 aL, b_some]
theorem op_part (a : Inv B k h) (x : Int32) : BothL B k h (fun h => f_X7_part h B x) (fun h => f_X8_part h (B + 239) x) := by
  obtain ⟨X, P, L, R, t, q, w, i⟩ := a
  by_cases c1 : x < 0 ∨ 1 < x
  · obtain ⟨h1, h2, e1, e2, o1, o2, iv, aM⟩ := inv_bad w i
    have n0 : ¬ x = 0 := by rintro rfl; revert c1; decide
    have n1 : ¬ x = 1 := by rintro rfl; revert c1; decide
    refine ⟨(-2 : Int32).toInt64, h1, h2, ?_, ?_, o2, iv⟩
    · show f_X7_part h B x = _
      rw [f_X7_part, wi_v, b_some, if_pos c1, if_pos rfl, o1, b_some, e1, b2_some]
    · show f_X8_part h1 (B + 239) x = _
      rw [f_X8_part, if_neg n0, if_neg n1, o2, b_some, e2, b2_some, b2_some]
  have c1' := c1
  obtain ⟨T, hT, rfl⟩ := wi_n (hi := 1) (by omega) c1
  have aM := wd_md w
  have aL := wd_fl w
  have i9 := i.2.2.2.2.2.2.2.2
  rcases (show T = 0 ∨ T = 1 by omega) with rfl | rfl
  · refine ⟨L 0 0, h, h, ?_, ?_, md_o aM, ⟨X, P, L, R, t, q, w, i.up⟩⟩
    · show f_X7_part h B (nI 0) = _
      rw [f_X7_part, wi_v, b_some, if_neg c1', if_neg n10, if_pos (show nI 0 = 0 from rfl), fl_f12 aL, b_some, b_some]
    · show f_X8_part h (B + 239) (nI 0) = _
      rw [f_X8_part, if_pos (show nI 0 = 0 from rfl), md_f4 aM, b_some, b2_some, i9.1]
  · refine ⟨L 0 1, h, h, ?_, ?_, md_o aM, ⟨X, P, L, R, t, q, w, i.up⟩⟩
    · show f_X7_part h B (nI 1) = _
      rw [f_X7_part, wi_v, b_some, if_neg c1', if_neg n10, if_neg (show ¬ nI 1 = 0 by decide), fl_f13 aL, b_some, b_some]
    · show f_X8_part h (B + 239) (nI 1) = _
      rw [f_X8_part, if_neg (show ¬ nI 1 = 0 by decide), if_pos (show nI 1 = 1 from rfl), md_f5 aM, b_some, b2_some, i9.2]
theorem g8_many4 {b : Nat} {m : Blk} {l : Nat → Int64} {r : Nat → Nat → Int64} {H s : Blk} (aM : At h b (mdL b m l r)) (wH : wfH H) (hN : hR H (m.2 0)) (hs : sR H s (m.2 0)) : ∀ (k j n : Nat), j + k = hM H → k < n → f_X8_manyIn_4 n h b (nI (cntF (fun q => decide (s.2 2 q = 0)) j)) (nI j) = some (nI (cntF (fun q => decide (s.2 2 q = 0)) (hM H))) := by
  have hm := wH.2.1
  intro k
  induction k with
  | zero =>
    intro j n hj hn
    obtain ⟨n, rfl⟩ : ∃ q, n = q + 1 := ⟨n - 1, by omega⟩
    rw [f_X8_manyIn_4, md_o aM, b_some, g8_heirs aM, b_some, hN.1, wH.1, if_pos (nI_le (by omega) (by omega)), show j = hM H by omega]
  | succ k ih =>
    intro j n hj hn
    obtain ⟨n, rfl⟩ : ∃ q, n = q + 1 := ⟨n - 1, by omega⟩
    rw [f_X8_manyIn_4, md_o aM, b_some, g8_heirs aM, b_some, hN.1, wH.1, if_neg (nI_ge (by omega) (by omega)), b_some, g8_get4 aM (by omega), b_some, (hs.2 j (by omega)).2.2.1]
    have step : ∀ v : Int32, (if s.2 2 j = 0 then some (1 : Int32) else some 0) = some v → nI (cntF (fun q => decide (s.2 2 q = 0)) j) + v = nI (cntF (fun q => decide (s.2 2 q = 0)) (j + 1)) := by
      intro v hv
      by_cases h0 : s.2 2 j = 0
      · rw [if_pos h0] at hv
        cases hv
        rw [show (1 : Int32) = nI 1 from rfl, nI_add]
        simp [cntF, h0]
      · rw [if_neg h0] at hv
        cases hv
        simp [cntF, h0]
    by_cases h0 : s.2 2 j = 0
    · have e := step 1 (if_pos h0)
      rw [if_pos h0, b_some, e, nI_1]
      exact ih (j + 1) n (by omega) (by omega)
    · have e := step 0 (if_neg h0)
      rw [if_neg h0, b_some, e, nI_1]
      exact ih (j + 1) n (by omega) (by omega)
theorem g8_many {b : Nat} {m : Blk} {l : Nat → Int64} {r : Nat → Nat → Int64} {H s : Blk} (aM : At h b (mdL b m l r)) (wH : wfH H) (hN : hR H (m.2 0)) (hs : sR H s (m.2 0)) : f_X8_manyIn h b = some (nI (cntF (fun q => decide (s.2 2 q = 0)) (hM H))) := by
  have := g8_many4 aM wH hN hs (hM H) 0 lots (by omega) (by have := wH.2.1; simp only [lots]; omega)
  rw [show nI (cntF (fun q => decide (s.2 2 q = 0)) 0) = 0 from rfl, nI_0] at this
  rw [f_X8_manyIn, this, b_some]
/-- what is counted, by its number -/
def cvF (X : Nat → Blk) (z T : Nat) : Int32 := if T = 0 then (X 1).1 3 else if T = 1 then (X 1).1 0 else if T = 2 then (X 1).1 1 else if T = 3 then (X 2).1 0 else if T = 4 then nI (cntF (fun q => decide ((X 2).2 2 q = 0)) (hM (X 1))) else if T = 5 then (X 1).1 2 else if T = 6 then (X 1).1 4 else if T = 7 then nI z else (X 0).1 0
theorem g_counted {X : Nat → Blk} {P : Nat → Pst} {L : Nat → Nat → Int64} {R : Nat → Nat → Nat → Int64} {t : Nat} (w : Wd B X P L R t h) (wH : wfH (X 1)) {T : Nat} (hT : T ≤ 8) : f_X7_counted h B (nI T) = some (cvF X (P 0).1 T) := by
  have aL := wd_fl w
  have aH := wd_ho w
  by_cases t0 : T = 0
  · subst t0
    rw [f_X7_counted, if_pos (show nI 0 = 0 from rfl), fl_f0 aL, b_some, hh_f6 aH, b_some]; rfl
  by_cases t1 : T = 1
  · subst t1
    rw [f_X7_counted, if_neg (nl0 (by omega) (by omega)), if_pos (show nI 1 = 1 from rfl), fl_f0 aL, b_some, hh_f0 aH, b_some]; rfl
  by_cases t2 : T = 2
  · subst t2
    rw [f_X7_counted, if_neg (nl0 (by omega) (by omega)), if_neg (nl1 (by omega) (by omega)), if_pos (show nI 2 = 2 from rfl), fl_f0 aL, b_some, hh_f1 aH, b_some]; rfl
  by_cases t3 : T = 3
  · subst t3
    rw [f_X7_counted, if_neg (nl0 (by omega) (by omega)), if_neg (nl1 (by omega) (by omega)), if_neg (nl2 (by omega) (by omega)), if_pos (show nI 3 = 3 from rfl), fl_f0 aL, b_some, hh_f9 aH, b_some, hh_f6_0 aH, b_some]; rfl
  by_cases t4 : T = 4
  · subst t4
    rw [f_X7_counted, if_neg (nl0 (by omega) (by omega)), if_neg (nl1 (by omega) (by omega)), if_neg (nl2 (by omega) (by omega)), if_neg (nl3 (by omega) (by omega)), if_pos (show nI 4 = 4 from rfl), fl_f0 aL, b_some, b_some, hh_f9 aH, b_some, hh_o aH, b_some, g_heirsThat (hh_ho aH) (hh_sn aH) wH, b_some]; rfl
  by_cases t5 : T = 5
  · subst t5
    rw [f_X7_counted, if_neg (nl0 (by omega) (by omega)), if_neg (nl1 (by omega) (by omega)), if_neg (nl2 (by omega) (by omega)), if_neg (nl3 (by omega) (by omega)), if_neg (nl4 (by omega) (by omega)), if_pos (show nI 5 = 5 from rfl), fl_f0 aL, b_some, hh_f5 aH, b_some]; rfl
  by_cases t6 : T = 6
  · subst t6
    rw [f_X7_counted, if_neg (nl0 (by omega) (by omega)), if_neg (nl1 (by omega) (by omega)), if_neg (nl2 (by omega) (by omega)), if_neg (nl3 (by omega) (by omega)), if_neg (nl4 (by omega) (by omega)), if_neg (nl5 (by omega) (by omega)), if_pos (show nI 6 = 6 from rfl), fl_f0 aL, b_some, hh_f10 aH, b_some]; rfl
  by_cases t7 : T = 7
  · subst t7
    rw [f_X7_counted, if_neg (nl0 (by omega) (by omega)), if_neg (nl1 (by omega) (by omega)), if_neg (nl2 (by omega) (by omega)), if_neg (nl3 (by omega) (by omega)), if_neg (nl4 (by omega) (by omega)), if_neg (nl5 (by omega) (by omega)), if_neg (nl6 (by omega) (by omega)), if_pos (show nI 7 = 7 from rfl), fl_f1 aL, b_some, past_f1 (wd_pa w), b_some]; rfl
  rw [f_X7_counted, if_neg (nl0 (by omega) (by omega)), if_neg (nl1 (by omega) (by omega)), if_neg (nl2 (by omega) (by omega)), if_neg (nl3 (by omega) (by omega)), if_neg (nl4 (by omega) (by omega)), if_neg (nl5 (by omega) (by omega)), if_neg (nl6 (by omega) (by omega)), if_neg (nl7 (by omega) (by omega)), fl_f11 aL, b_some, cvF, if_neg t0, if_neg t1, if_neg t2, if_neg t3, if_neg t4, if_neg t5, if_neg t6, if_neg t7]
theorem g8_counted {X : Nat → Blk} {P : Nat → Pst} {L : Nat → Nat → Int64} {q : Nat → Nat → Nat} {l : Nat → Int64} {r : Nat → Nat → Int64} (aM : At h (B + 239) (mdL (B + 239) (X 16) l r)) (i : InvX B k X P L q) {T : Nat} (hT : T ≤ 8) : f_X8_counted h (B + 239) (nI T) = some (cvF X (P 0).1 T) := by
  obtain ⟨wo, ws, wt, rH, rs, rp⟩ := i.2.2.1
  have i8 := i.2.2.2.2.2.2.2.1
  by_cases t4 : T = 4
  · subst t4
    rw [f_X8_counted, if_pos (show nI 4 = 4 from rfl), md_o aM, b_some, g8_many aM wo.1 rH rs, b_some]; rfl
  by_cases t5 : T = 5
  · subst t5
    rw [f_X8_counted, if_neg (nl4 (by omega) (by omega)), if_pos (show nI 5 = 5 from rfl), md_f0 aM, b_some, ln_4 aM, b_some, rH.2.2.2.1]; rfl
  by_cases t6 : T = 6
  · subst t6
    rw [f_X8_counted, if_neg (nl4 (by omega) (by omega)), if_neg (nl5 (by omega) (by omega)), if_pos (show nI 6 = 6 from rfl), md_f0 aM, b_some, ln_5 aM, b_some, rH.2.2.2.2.1]; rfl
  by_cases t7 : T = 7
  · subst t7
    rw [f_X8_counted, if_neg (nl4 (by omega) (by omega)), if_neg (nl5 (by omega) (by omega)), if_neg (nl6 (by omega) (by omega)), if_pos (show nI 7 = 7 from rfl), md_f0 aM, b_some, ln_6 aM, b_some, rp.1]; rfl
  by_cases t8 : T = 8
  · subst t8
    rw [f_X8_counted, if_neg (nl4 (by omega) (by omega)), if_neg (nl5 (by omega) (by omega)), if_neg (nl6 (by omega) (by omega)), if_neg (nl7 (by omega) (by omega)), if_pos (show nI 8 = 8 from rfl), md_f20 aM, b_some, i8.1]; rfl
  rw [f_X8_counted, if_neg (nl4 (by omega) (by omega)), if_neg (nl5 (by omega) (by omega)), if_neg (nl6 (by omega) (by omega)), if_neg (nl7 (by omega) (by omega)), if_neg (nl8 (by omega) (by omega)), md_f0 aM, b_some, md_m1 aM (by omega), b_some]
  rcases (show T = 0 ∨ T = 1 ∨ T = 2 ∨ T = 3 by omega) with rfl | rfl | rfl | rfl
  · rw [rH.1]; rfl
  · rw [rH.2.1]; rfl
  · rw [rH.2.2.1]; rfl
  · rw [rs.1]; rfl
theorem op_count (a : Inv B k h) (x : Int32) : Both B k h (fun h => f_X7_count h B x) (fun h => f_X8_count h (B + 239) x) := by
  obtain ⟨X, P, L, R, t, q, w, i⟩ := a
  by_cases c1 : x < 0 ∨ 8 < x
  · obtain ⟨h1, h2, e1, e2, o1, o2, iv, aM⟩ := inv_bad w i
    refine ⟨-2, h1, h2, ?_, ?_, o2, iv⟩
    · show f_X7_count h B x = _
      rw [f_X7_count, wi_v, b_some, if_pos c1, if_pos rfl, o1, b_some, e1, b2_some]
    · show f_X8_count h1 (B + 239) x = _
      rw [f_X8_count, L01 x 0 8 0 8 rfl rfl, b_some, if_pos c1, if_pos rfl, o2, b_some, e2, b2_some, b2_some]
  obtain ⟨T, hT, rfl⟩ := wi_n (hi := 8) (by omega) c1
  have aM := wd_md w
  refine ⟨cvF X (P 0).1 T, h, h, ?_, ?_, md_o aM, ⟨X, P, L, R, t, q, w, i.up⟩⟩
  · show f_X7_count h B (nI T) = _
    rw [f_X7_count, wi_v, b_some, if_neg c1, if_neg n10, fl_o (wd_fl w), b_some, g_counted w i.2.2.1.1.1 hT, b_some]
  · show f_X8_count h (B + 239) (nI T) = _
    rw [f_X8_count, L01 (nI T) 0 8 0 8 rfl rfl, b_some, if_neg c1, if_neg n10, md_o aM, b_some, g8_counted aM i hT, b_some, b2_some]
theorem op_of (a : Inv B k h) (hk : k ≤ 64) (x y : Int32) : Both B k h (fun h => f_X7_of h B x y) (fun h => f_X8_of h (B + 239) x y) := by
  obtain ⟨X, P, L, R, t, q, w, i⟩ := a
  obtain ⟨wo, ws, wt, rH, rs, rp⟩ := i.2.2.1
  by_cases c1 : x < 0 ∨ (X 1).1 3 - 1 < x
  · obtain ⟨h1, h2, e1, e2, o1, o2, iv, aM⟩ := inv_bad w i
    refine ⟨-2, h1, h2, ?_, ?_, o2, iv⟩
    · show f_X7_of h B x y = _
      rw [f_X7_of, o1, b_some, ih_v w, b_some, if_pos c1, if_pos rfl, b_some, e1, b2_some]
    · show f_X8_of h1 (B + 239) x y = _
      rw [f_X8_of, o2, b_some, ih8_v aM rH, b_some, if_pos c1, if_pos rfl, b_some, e2, b2_some]
  by_cases c2 : y < 0 ∨ 6 < y
  · obtain ⟨h1, h2, e1, e2, o1, o2, iv, aM⟩ := inv_bad w i
    have n0 : ¬ y = 0 := by rintro rfl; revert c2; decide
    have n1 : ¬ y = 1 := by rintro rfl; revert c2; decide
    have n2 : ¬ y = 2 := by rintro rfl; revert c2; decide
    have n3 : ¬ y = 3 := by rintro rfl; revert c2; decide
    have n4 : ¬ y = 4 := by rintro rfl; revert c2; decide
    have n5 : ¬ y = 5 := by rintro rfl; revert c2; decide
    have n6 : ¬ y = 6 := by rintro rfl; revert c2; decide
    refine ⟨-2, h1, h2, ?_, ?_, o2, iv⟩
    · show f_X7_of h B x y = _
      rw [f_X7_of, o1, b_some, ih_v w, b_some, if_neg c1, if_neg n10, fl_f0 (wd_fl w), b_some, hh_f9 (wd_ho w), b_some, if_neg n0, if_neg n1, if_neg n2, if_neg n3, if_neg n4, if_neg n5, if_neg n6, b_some, e1, b2_some]
    · show f_X8_of h1 (B + 239) x y = _
      rw [f_X8_of, o2, b_some, ih8_v aM rH, b_some, if_neg c1, if_neg n10, L01 y 0 6 0 6 rfl rfl, b_some, if_pos c2, if_pos rfl, b_some, e2, b2_some]
  obtain ⟨i0, hi, rfl⟩ := ih_n wo.1 c1
  obtain ⟨T, hT, rfl⟩ := wi_n (hi := 6) (by omega) c2
  have hm := wo.1.2.1
  have hi6 : i0 < 6 := by omega
  have aM := wd_md w
  have aL := wd_fl w
  have aH := wd_ho w
  have wS := (scN ws hk).S
  obtain ⟨m1, e1, d1, s1, y1⟩ := g8_hand (h := h) (b := B + 239) (l := L 1) (r := R 1) wo.1 rH rs
  rw [aM.eq] at e1
  have hN1 : hR (X 1) (m1.2 0) := by rw [s1.now]; exact rH
  have hs1 : sR (X 1) (X 2) (m1.2 0) := by rw [s1.now]; exact rs
  obtain ⟨r0, r2⟩ := hN1.2.2.2.2.2.2.2.2.1 i0 hi
  obtain ⟨u1, u3, u4, u5, u6⟩ := hs1.2 i0 hi
  have fin : ∀ v, f_X7_of h B (nI i0) (nI T) = some (v, h) → (if 4 ≤ nI T then (if nI T = 4 then f_X8_hiddenOf (blk (B + 239) (mdL (B + 239) m1 (L 1) (R 1)) h) (B + 239) (nI i0) else f_X8_get (blk (B + 239) (mdL (B + 239) m1 (L 1) (R 1)) h) (B + 239) (nI i0) (nI T - 1)) else f_X8_get (blk (B + 239) (mdL (B + 239) m1 (L 1) (R 1)) h) (B + 239) (nI i0) (nI T)) = some v → Both B k h (fun h => f_X7_of h B (nI i0) (nI T)) (fun h => f_X8_of h (B + 239) (nI i0) (nI T)) := by
    intro v e7 e8
    refine ⟨v, h, _, e7, ?_, md_o aM, inv_q (r' := R 1) w i.up s1.Q⟩
    show f_X8_of h (B + 239) (nI i0) (nI T) = some (v, blk (B + 239) (mdL (B + 239) m1 (L 1) (R 1)) h)
    rw [f_X8_of, md_o aM, b_some, ih8_v aM rH, b_some, if_neg c1, if_neg n10, L01 (nI T) 0 6 0 6 rfl rfl, b_some, if_neg c2, if_neg n10, b_some, e1, b_some, md_o (blk_at _ _ _)]
    revert e8
    split
    · split
      · intro e8; rw [b_some, e8, b_some, b_some]
      · intro e8; rw [b_some, e8, b_some, b_some]
    · intro e8; rw [b_some, e8, b_some, b_some]
  by_cases t0 : T = 0
  · subst t0
    refine fin ((X 1).2 3 i0) ?_ ?_
    · rw [f_X7_of, fl_o aL, b_some, ih_v w, b_some, if_neg c1, if_neg n10, fl_f0 aL, b_some, hh_f9 aH, b_some, if_pos (show nI 0 = 0 from rfl), b_some, hh_f7 aH, b_some, hh_m4 aH hi6, b_some]
    · rw [if_neg (show ¬ 4 ≤ nI 0 by decide), g8_getN (blk_at _ _ _) hi6 (by omega)]
      exact congrArg some r0
  by_cases t1 : T = 1
  · subst t1
    refine fin ((X 2).2 0 i0) ?_ ?_
    · rw [f_X7_of, fl_o aL, b_some, ih_v w, b_some, if_neg c1, if_neg n10, fl_f0 aL, b_some, hh_f9 aH, b_some, if_neg (nl0 (by omega) (by omega)), if_pos (show nI 1 = 1 from rfl), hh_f6_1 aH, b_some, hh_m7 aH hi6, b_some]
    · rw [if_neg (show ¬ 4 ≤ nI 1 by decide), g8_getN (blk_at _ _ _) hi6 (by omega), u1]
  by_cases t2 : T = 2
  · subst t2
    refine fin ((X 1).2 4 i0) ?_ ?_
    · rw [f_X7_of, fl_o aL, b_some, ih_v w, b_some, if_neg c1, if_neg n10, fl_f0 aL, b_some, hh_f9 aH, b_some, if_neg (nl0 (by omega) (by omega)), if_neg (nl1 (by omega) (by omega)), if_pos (show nI 2 = 2 from rfl), b_some, hh_f8 aH, b_some, hh_m5 aH hi6, b_some]
    · rw [if_neg (show ¬ 4 ≤ nI 2 by decide), g8_getN (blk_at _ _ _) hi6 (by omega), r2]
  by_cases t3 : T = 3
  · subst t3
    refine fin ((X 2).2 1 i0) ?_ ?_
    · rw [f_X7_of, fl_o aL, b_some, ih_v w, b_some, if_neg c1, if_neg n10, fl_f0 aL, b_some, hh_f9 aH, b_some, if_neg (nl0 (by omega) (by omega)), if_neg (nl1 (by omega) (by omega)), if_neg (nl2 (by omega) (by omega)), if_pos (show nI 3 = 3 from rfl), hh_f6_2 aH, b_some, hh_m8 aH hi6, b_some]
    · rw [if_neg (show ¬ 4 ≤ nI 3 by decide), g8_getN (blk_at _ _ _) hi6 (by omega), u3]
  by_cases t4 : T = 4
  · subst t4
    refine fin (hid (X 1) (X 2) i0) ?_ ?_
    · rw [f_X7_of, fl_o aL, b_some, ih_v w, b_some, if_neg c1, if_neg n10, fl_f0 aL, b_some, hh_f9 aH, b_some, if_neg (nl0 (by omega) (by omega)), if_neg (nl1 (by omega) (by omega)), if_neg (nl2 (by omega) (by omega)), if_neg (nl3 (by omega) (by omega)), if_pos (show nI 4 = 4 from rfl), b_some, hh_o aH, b_some, g_hidden (hh_ho aH) (hh_sn aH) wo.1 hi6 (wS.2.2 i0 hi), b_some]
    · rw [if_pos (show 4 ≤ nI 4 by decide), if_pos (show nI 4 = 4 from rfl), g8_hidden hN1 d1 wo.1 hi (wS.2.2 i0 hi)]
  by_cases t5 : T = 5
  · subst t5
    refine fin ((X 2).2 2 i0) ?_ ?_
    · rw [f_X7_of, fl_o aL, b_some, ih_v w, b_some, if_neg c1, if_neg n10, fl_f0 aL, b_some, hh_f9 aH, b_some, if_neg (nl0 (by omega) (by omega)), if_neg (nl1 (by omega) (by omega)), if_neg (nl2 (by omega) (by omega)), if_neg (nl3 (by omega) (by omega)), if_neg (nl4 (by omega) (by omega)), if_pos (show nI 5 = 5 from rfl), hh_f6_3 aH, b_some, hh_m9 aH hi6, b_some]
    · rw [if_pos (show 4 ≤ nI 5 by decide), if_neg (nl4 (by omega) (by omega)), show nI 5 - 1 = nI 4 from rfl, g8_getN (blk_at _ _ _) hi6 (by omega), u4]
  have t6 : T = 6 := by omega
  subst t6
  refine fin ((X 2).2 3 i0) ?_ ?_
  · rw [f_X7_of, fl_o aL, b_some, ih_v w, b_some, if_neg c1, if_neg n10, fl_f0 aL, b_some, hh_f9 aH, b_some, if_neg (nl0 (by omega) (by omega)), if_neg (nl1 (by omega) (by omega)), if_neg (nl2 (by omega) (by omega)), if_neg (nl3 (by omega) (by omega)), if_neg (nl4 (by omega) (by omega)), if_neg (nl5 (by omega) (by omega)), if_pos (show nI 6 = 6 from rfl), hh_f6_4 aH, b_some, hh_m10 aH hi6, b_some]
  · rw [if_pos (show 4 ≤ nI 6 by decide), if_neg (nl4 (by omega) (by omega)), show nI 6 - 1 = nI 5 from rfl, g8_getN (blk_at _ _ _) hi6 (by omega), u5]
end
