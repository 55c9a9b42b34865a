/-! ===== operations: nights, choose, odds ===== -/
section
variable {B k : Nat} {h : Hea}
theorem op_nights (a : Inv B k h) (hk : k ≤ 64) (x y : Int32) : Both B k h (fun h => f_X7_nights h B x y) (fun h => f_X8_nights h (B + 239) x y) := by
  obtain ⟨X, P, L, R, t, q, w, i⟩ := a
  obtain ⟨wo, ws, wt, rH, rs, rp⟩ := i.2.2.1
  by_cases c1 : x < 0 ∨ 999999 < x
  · obtain ⟨h1, h2, e1, e2, o1, o2, iv, aM⟩ := inv_bad w i
    refine ⟨-2, h1, h2, ?_, ?_, o2, iv⟩
    · show f_X7_nights h B x y = _
      rw [f_X7_nights, wi_v, b_some, if_pos c1, if_pos rfl, o1, b_some, e1, b2_some]
    · show f_X8_nights h1 (B + 239) x y = _
      rw [f_X8_nights, L01 x 0 999999 0 999999 rfl rfl, b_some, if_pos c1, if_pos rfl, o2, b_some, e2, b2_some]
  by_cases c2 : y < 0 ∨ 30 < y
  · obtain ⟨h1, h2, e1, e2, o1, o2, iv, aM⟩ := inv_bad w i
    refine ⟨-2, h1, h2, ?_, ?_, o2, iv⟩
    · show f_X7_nights h B x y = _
      rw [f_X7_nights, wi_v, b_some, if_neg c1, if_neg n10, wi_v, b_some, if_pos c2, if_pos rfl, o1, b_some, e1, b2_some]
    · show f_X8_nights h1 (B + 239) x y = _
      rw [f_X8_nights, L01 x 0 999999 0 999999 rfl rfl, b_some, if_neg c1, if_neg n10, L01 y 0 30 0 30 rfl rfl, b_some, if_pos c2, if_pos rfl, o2, b_some, e2, b2_some]
  obtain ⟨z, hz, rfl⟩ := wi_n (hi := 999999) (by omega) c1
  obtain ⟨T, hT, rfl⟩ := wi_n (hi := 30) (by omega) c2
  have hm := wo.1.2.1
  have aF := wd_fc w
  obtain ⟨s', e⟩ := g_seed (h := h) (b := B + 84) (bh := B + 1) (s := X 6) (g := X 7) (wd_ho w) (by omega) wo.1 (scN ws hk) (show z < 2147483648 by omega) hT
  rw [aF.eq] at e
  have w1 := wu_fc w s' (X 7)
  generalize hh1 : blk (B + 84) (fcL (B + 84) s' (X 7)) h = h1 at e w1
  have aM : At h1 (B + 239) (mdL (B + 239) (X 16) (L 1) (R 1)) := by
    have q := wd_md w1
    exact q
  have te : EqS (X 1) (X 2) (takeS (X 2) (X 6)) := (takeS_eq hm).symm
  obtain ⟨m1, e1, d1, s1, y1⟩ := g8_hand (h := h1) (b := B + 239) (l := L 1) (r := R 1) wo.1 rH rs
  rw [aM.eq] at e1
  obtain ⟨m2, e2, d2, s2⟩ := g8_seed41 (h := h1) (b := B + 239) (l := L 1) (r := R 1) wo.1 rH hT T 0 lots z m1 (takeS (X 2) (X 6)) (by omega) (by simp only [lots]; omega) (((scN ws hk).eq te).le (by omega)) (ws.2.2.eq te) (d1.eq te) s1 y1 (by omega)
  have e3 := g8_cnt152 (h := h1) (b := B + 239) (l := L 1) (r := R 1) wo.1 (s := seedN (X 1) ((X 1).1 0) T z (takeS (X 2) (X 6))) (m := m2) (by rw [s2.now]; exact rH) d2 (hM (X 1)) 0 lots (by omega) (by simp only [lots]; omega)
  rw [cntF, nI_0] at e3
  rw [nI_0] at e2
  refine ⟨nI (cntF (fun q => decide ((seedN (X 1) ((X 1).1 0) T z (takeS (X 2) (X 6))).2 2 q = 2)) (hM (X 1))), h1, _, ?_, ?_, md_o aM, inv_q (r' := R 1) w1 i.up s2.Q⟩
  · show f_X7_nights h B (nI z) (nI T) = _
    rw [f_X7_nights, wi_v, b_some, if_neg c1, if_neg n10, wi_v, b_some, if_neg c2, if_neg n10, fl_f6 (wd_fl w), b_some, fl_f0 (wd_fl w), b_some, fc_o aF, b_some, e, b2_some]
  · show f_X8_nights h1 (B + 239) (nI z) (nI T) = _
    rw [f_X8_nights, L01 (nI z) 0 999999 0 999999 rfl rfl, b_some, if_neg c1, if_neg n10, L01 (nI T) 0 30 0 30 rfl rfl, b_some, if_neg c2, if_neg n10, md_o aM, b_some, e1, b_some, nI_l (by omega), e2, b_some, e3, b_some]
theorem op_choose (a : Inv B k h) (hk : k ≤ 64) (x y : Int32) : Both B k h (fun h => f_X7_choose h B x y) (fun h => f_X8_choose h (B + 239) x y) := by
  obtain ⟨X, P, L, R, t, q, w, i⟩ := a
  obtain ⟨wo, ws, wt, rH, rs, rp⟩ := i.2.2.1
  have bad : (x < 0 ∨ (X 1).1 3 - 1 < x) ∨ (y < 0 ∨ (X 1).1 3 - 1 < y) ∨ x = y → Both B k h (fun h => f_X7_choose h B x y) (fun h => f_X8_choose h (B + 239) x y) := by
    intro hb
    obtain ⟨h1, h2, e1, e2, o1, o2, iv, aM⟩ := inv_bad w i
    refine ⟨-2, h1, h2, ?_, ?_, o2, iv⟩
    · show f_X7_choose h B x y = _
      rw [f_X7_choose, o1, b_some, ih_v w, b_some]
      by_cases c1 : x < 0 ∨ (X 1).1 3 - 1 < x
      · rw [if_pos c1, if_pos rfl, b_some, e1, b2_some]
      · rw [if_neg c1, if_neg n10, b_some, ih_v w, b_some]
        by_cases c2 : y < 0 ∨ (X 1).1 3 - 1 < y
        · rw [if_pos c2, if_pos rfl, b_some, e1, b2_some]
        · have c3 : x = y := hb.elim (fun e => absurd e c1) (fun e => e.elim (fun e => absurd e c2) id)
          rw [if_neg c2, if_neg n10, if_pos c3, b_some, e1, b2_some]
    · show f_X8_choose h1 (B + 239) x y = _
      rw [f_X8_choose, o2, b_some, ih8_v aM rH, b_some]
      by_cases c1 : x < 0 ∨ (X 1).1 3 - 1 < x
      · rw [if_pos c1, if_pos rfl, b_some, e2, b2_some]
      · rw [if_neg c1, if_neg n10, b_some, ih8_v aM rH, b_some]
        by_cases c2 : y < 0 ∨ (X 1).1 3 - 1 < y
        · rw [if_pos c2, if_pos rfl, b_some, e2, b2_some]
        · have c3 : x = y := hb.elim (fun e => absurd e c1) (fun e => e.elim (fun e => absurd e c2) id)
          rw [if_neg c2, if_neg n10, if_pos c3, b_some, e2, b2_some]
  by_cases c1 : x < 0 ∨ (X 1).1 3 - 1 < x
  · exact bad (Or.inl c1)
  by_cases c2 : y < 0 ∨ (X 1).1 3 - 1 < y
  · exact bad (Or.inr (Or.inl c2))
  by_cases c3 : x = y
  · exact bad (Or.inr (Or.inr c3))
  obtain ⟨i0, hi, rfl⟩ := ih_n wo.1 c1
  obtain ⟨j0, hj, rfl⟩ := ih_n wo.1 c2
  have hm := wo.1.2.1
  have hi6 : i0 < 6 := by omega
  have hj6 : j0 < 6 := by omega
  by_cases c4 : (X 2).2 2 i0 = 0
  · by_cases c5 : (X 2).2 2 j0 = 0
    · have aF := wd_fc w
      obtain ⟨s', g', e⟩ := g_pairs (h := h) (b := B + 84) (bh := B + 1) (s := X 6) (g := X 7) (wd_ho w) (by omega) wo.1 (scN ws hk) hi hj
      rw [aF.eq, pt_eq hi hj (scN ws hk) c4 c5] at e
      have w1 := wu_fc w s' g'
      generalize hh1 : blk (B + 84) (fcL (B + 84) s' g') h = h1 at e w1
      have aM : At h1 (B + 239) (mdL (B + 239) (X 16) (L 1) (R 1)) := by
        have q := wd_md w1
        exact q
      obtain ⟨m1, e1, s1, p1⟩ := g8_has2 (h := h1) (b := B + 239) (l := L 1) (r := R 1) wo.1 (scN ws hk) ws.2.2 rH rs hi hj (fun e => c3 (by rw [e])) 4 0 lots (X 16) (by omega) (by simp only [lots]; omega) ((SmH.refl _).P) (fun p hp => by omega)
      rw [nI_0, aM.eq] at e1
      have e2 := g8_ch62 (h := h1) (b := B + 239) (l := L 1) (r := R 1) p1 (fun p => hasV_3 p) 4 0 lots 0 (by omega) (by simp only [lots]; omega)
      rw [nI_0] at e2
      refine ⟨chL (hasV (X 1) (X 2) i0 j0) 4 0 0, h1, _, ?_, ?_, md_o aM, inv_q (r' := R 1) w1 i.up s1.Q⟩
      · show f_X7_choose h B (nI i0) (nI j0) = _
        rw [f_X7_choose, fl_o (wd_fl w), b_some, ih_v w, b_some, if_neg c1, if_neg n10, b_some, ih_v w, b_some, if_neg c2, if_neg n10, if_neg c3, b_some, ii_v w hi6, b_some, if_pos c4, if_neg n10, b_some, ii_v w hj6, b_some, if_pos c5, if_neg n10, fl_f6 (wd_fl w), b_some, fl_f0 (wd_fl w), b_some, fc_o aF, b_some, e, b2_some]
      · show f_X8_choose h1 (B + 239) (nI i0) (nI j0) = _
        rw [f_X8_choose, md_o aM, b_some, ih8_v aM rH, b_some, if_neg c1, if_neg n10, b_some, ih8_v aM rH, b_some, if_neg c2, if_neg n10, if_neg c3, b_some, g8_get4 aM hi6, b_some, (rs.2 i0 hi).2.2.1, if_pos c4, b_some, g8_get4 aM hj6, b_some, (rs.2 j0 hj).2.2.1, if_pos c5, b_some, f_X8_layHas, e1, b_some, b_some, e2, b_some]
    · obtain ⟨h1, h2, e1, e2, o1, o2, iv, aM⟩ := inv_no w i
      refine ⟨-3, h1, h2, ?_, ?_, o2, iv⟩
      · show f_X7_choose h B (nI i0) (nI j0) = _
        rw [f_X7_choose, o1, b_some, ih_v w, b_some, if_neg c1, if_neg n10, b_some, ih_v w, b_some, if_neg c2, if_neg n10, if_neg c3, b_some, ii_v w hi6, b_some, if_pos c4, if_neg n10, b_some, ii_v w hj6, b_some, if_neg c5, if_pos rfl, b_some, e1, b2_some]
      · show f_X8_choose h1 (B + 239) (nI i0) (nI j0) = _
        rw [f_X8_choose, o2, b_some, ih8_v aM rH, b_some, if_neg c1, if_neg n10, b_some, ih8_v aM rH, b_some, if_neg c2, if_neg n10, if_neg c3, b_some, g8_get4 aM hi6, b_some, (rs.2 i0 hi).2.2.1, if_pos c4, b_some, g8_get4 aM hj6, b_some, (rs.2 j0 hj).2.2.1, if_neg c5, b_some, e2, b2_some]
  · obtain ⟨h1, h2, e1, e2, o1, o2, iv, aM⟩ := inv_no w i
    refine ⟨-3, h1, h2, ?_, ?_, o2, iv⟩
    · show f_X7_choose h B (nI i0) (nI j0) = _
      rw [f_X7_choose, o1, b_some, ih_v w, b_some, if_neg c1, if_neg n10, b_some, ih_v w, b_some, if_neg c2, if_neg n10, if_neg c3, b_some, ii_v w hi6, b_some, if_neg c4, if_pos rfl, b_some, e1, b2_some]
    · show f_X8_choose h1 (B + 239) (nI i0) (nI j0) = _
      rw [f_X8_choose, o2, b_some, ih8_v aM rH, b_some, if_neg c1, if_neg n10, b_some, ih8_v aM rH, b_some, if_neg c2, if_neg n10, if_neg c3, b_some, g8_get4 aM hi6, b_some, (rs.2 i0 hi).2.2.1, if_neg c4, b_some, e2, b2_some]
end
