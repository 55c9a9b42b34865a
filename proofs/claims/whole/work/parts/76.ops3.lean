/-! ===== operations: hide, odds, way, choose, nights ===== -/
section
variable {B k : Nat} {h : Hea}
theorem n10 : ¬ (1 : Int32) = 0 := by decide
theorem op_hide (a : Inv B k h) (hk : k ≤ 64) (x : Int32) : Both B k h (fun h => f_X7_hide h B x) (fun h => f_X8_hide h (B + 239) x) := by
  obtain ⟨X, P, L, R, t, q, w, i⟩ := a
  obtain ⟨wo, ws, wt, rH, rs, rp⟩ := i.2.2.1
  by_cases c1 : x < 0 ∨ (X 1).1 3 - 1 < x
  · obtain ⟨h1, h2, e1, e2, o1, o2, iv, aM⟩ := inv_bad w i
    refine ⟨-2, h1, h2, ?_, ?_, o2, iv⟩
    · show f_X7_hide h B x = _
      rw [f_X7_hide, o1, b_some, ih_v w, b_some, if_pos c1, if_pos rfl, b_some, e1, b2_some]
    · show f_X8_hide h1 (B + 239) x = _
      rw [f_X8_hide, o2, b_some, ih8_v aM rH, b_some, if_pos c1, if_pos rfl, b_some, e2, b2_some]
  obtain ⟨i0, hi, rfl⟩ := ih_n wo.1 c1
  have hm := wo.1.2.1
  have hi6 : i0 < 6 := by omega
  by_cases c2 : (X 2).2 2 i0 = 0
  · have aF := wd_fc w
    obtain ⟨s', e⟩ := g_best (h := h) (b := B + 84) (bh := B + 1) (s := X 6) (g := X 7) (wd_ho w) (by omega) wo.1 (scN ws hk) hi
    rw [aF.eq, hide_eq hi (scN ws hk) c2] at e
    have w1 := wu_fc w s' (X 7)
    generalize hh1 : blk (B + 84) (fcL (B + 84) s' (X 7)) h = h1 at e w1
    have aM : At h1 (B + 239) (mdL (B + 239) (X 16) (L 1) (R 1)) := by
      have q := wd_md w1
      exact q
    obtain ⟨m1, e1, s1⟩ := g8_hide37 (h := h1) (b := B + 239) (l := L 1) (r := R 1) wo.1 (scN ws hk) ws.2.2 rH rs hi 8 0 lots (X 16) (-1) 1000000 (by omega) (by simp only [lots]; omega) (SmH.refl _)
    rw [nI_0, aM.eq] at e1
    refine ⟨bestL (fun r => encO 1000000 0 (fiN (X 1) ((X 1).1 0) i0 60 0 (sA (X 2) 0 i0 (nI r)))) 8 0 (-1) 1000000, h1, _, ?_, ?_, md_o aM, inv_q (r' := R 1) w1 i.up s1.Q⟩
    · show f_X7_hide h B (nI i0) = _
      rw [f_X7_hide, fl_o (wd_fl w), b_some, ih_v w, b_some, if_neg c1, if_neg n10, b_some, ii_v w hi6, b_some, if_pos c2, if_neg n10, fl_f6 (wd_fl w), b_some, fl_f0 (wd_fl w), b_some, fc_o aF, b_some, e, b2_some]
    · show f_X8_hide h1 (B + 239) (nI i0) = _
      rw [f_X8_hide, md_o aM, b_some, ih8_v aM rH, b_some, if_neg c1, if_neg n10, b_some, g8_get4 aM hi6, b_some, (rs.2 i0 hi).2.2.1, if_pos c2, e1, b2_some]
  · obtain ⟨h1, h2, e1, e2, o1, o2, iv, aM⟩ := inv_no w i
    refine ⟨-3, h1, h2, ?_, ?_, o2, iv⟩
    · show f_X7_hide h B (nI i0) = _
      rw [f_X7_hide, o1, b_some, ih_v w, b_some, if_neg c1, if_neg n10, b_some, ii_v w hi6, b_some, if_neg c2, if_pos rfl, b_some, e1, b2_some]
    · show f_X8_hide h1 (B + 239) (nI i0) = _
      rw [f_X8_hide, o2, b_some, ih8_v aM rH, b_some, if_neg c1, if_neg n10, b_some, g8_get4 aM hi6, b_some, (rs.2 i0 hi).2.2.1, if_neg c2, b_some, e2, b2_some]
theorem op_way (a : Inv B k h) (hk : k ≤ 64) (x y : Int32) : Both B k h (fun h => f_X7_way h B x y) (fun h => f_X8_way h (B + 239) x y) := by
  obtain ⟨X, P, L, R, t, q, w, i⟩ := a
  obtain ⟨wo, ws, wt, rH, rs, rp⟩ := i.2.2.1
  by_cases c1 : x < 0 ∨ (X 1).1 3 - 1 < x
  · obtain ⟨h1, h2, e1, e2, o1, o2, iv, aM⟩ := inv_bad w i
    refine ⟨-2, h1, h2, ?_, ?_, o2, iv⟩
    · show f_X7_way h B x y = _
      rw [f_X7_way, o1, b_some, ih_v w, b_some, if_pos c1, if_pos rfl, b_some, e1, b2_some]
    · show f_X8_way h1 (B + 239) x y = _
      rw [f_X8_way, o2, b_some, ih8_v aM rH, b_some, if_pos c1, if_pos rfl, b_some, e2, b2_some]
  by_cases c3 : y < 0 ∨ 1 < y
  · obtain ⟨h1, h2, e1, e2, o1, o2, iv, aM⟩ := inv_bad w i
    refine ⟨-2, h1, h2, ?_, ?_, o2, iv⟩
    · show f_X7_way h B x y = _
      rw [f_X7_way, o1, b_some, ih_v w, b_some, if_neg c1, if_neg n10, wi_v, b_some, if_pos c3, if_pos rfl, b_some, e1, b2_some]
    · show f_X8_way h1 (B + 239) x y = _
      rw [f_X8_way, o2, b_some, ih8_v aM rH, b_some, if_neg c1, if_neg n10, L01 y 0 1 0 1 rfl rfl, b_some, if_pos c3, if_pos rfl, b_some, e2, b2_some]
  obtain ⟨i0, hi, rfl⟩ := ih_n wo.1 c1
  have hm := wo.1.2.1
  have hi6 : i0 < 6 := by omega
  by_cases c2 : (X 2).2 2 i0 = 0
  · have aF := wd_wf w
    obtain ⟨s', g', e, ev⟩ := g_search (h := h) (b := B + 92) (bh := B + 1) (s := X 8) (g := X 9) (wd_ho w) (by omega) wo.1 wo.2.2.2.2 (scN ws hk) (ws.2.1.le (by omega)) hi
    rw [aF.eq] at e
    have w1 := wu_wf w s' g'
    generalize hh1 : blk (B + 92) (wfL (B + 92) s' g') h = h1 at e w1
    have aM : At h1 (B + 239) (mdL (B + 239) (X 16) (L 1) (R 1)) := by
      have q := wd_md w1
      exact q
    have aL : At h1 B (flL B (X 0) (L 0)) := by
      have q := wd_fl w1
      exact q
    have aF1 : At h1 (B + 92) (wfL (B + 92) s' g') := by
      have q := wd_wf w1
      exact q
    obtain ⟨m1, e1, d1, s1, y1⟩ := g8_hand (h := h1) (b := B + 239) (l := L 1) (r := R 1) wo.1 rH rs
    rw [aM.eq] at e1
    obtain ⟨m2, e2, x2⟩ := g8_way (h := h1) (b := B + 239) (l := L 1) (r := R 1) (m0 := m1) (a2 := y) wo.1 wo.2.2.2.2 (by rw [s1.now]; exact rH) (by rw [s1.now]; exact rs) d1 (scN ws hk) (ws.2.1.le (by omega)) hi
    refine ⟨if y = 0 then (wayV (wayL (X 1) (X 2) i0 12 0 (way0 (X 2) i0))).1 else (wayV (wayL (X 1) (X 2) i0 12 0 (way0 (X 2) i0))).2, h1, _, ?_, ?_, md_o aM, inv_q (r' := R 1) w1 i.up (s1.Q.trans x2.Q)⟩
    · show f_X7_way h B (nI i0) y = _
      rw [f_X7_way, fl_o (wd_fl w), b_some, ih_v w, b_some, if_neg c1, if_neg n10, wi_v, b_some, if_neg c3, if_neg n10, b_some, ii_v w hi6, b_some, if_pos c2, if_neg n10, fl_f7 (wd_fl w), b_some, fl_f0 (wd_fl w), b_some, wf_o aF, b_some, e, b_some, fl_f7 aL, b_some, wf_f0 aF1, b_some, b_some, wf_f1 aF1, b_some, ← ev]
      split <;> rfl
    · show f_X8_way h1 (B + 239) (nI i0) y = _
      rw [f_X8_way, md_o aM, b_some, ih8_v aM rH, b_some, if_neg c1, if_neg n10, L01 y 0 1 0 1 rfl rfl, b_some, if_neg c3, if_neg n10, b_some, g8_get4 aM hi6, b_some, (rs.2 i0 hi).2.2.1, if_pos c2, b_some, e1, b_some]
      exact e2
  · obtain ⟨h1, h2, e1, e2, o1, o2, iv, aM⟩ := inv_no w i
    refine ⟨-3, h1, h2, ?_, ?_, o2, iv⟩
    · show f_X7_way h B (nI i0) y = _
      rw [f_X7_way, o1, b_some, ih_v w, b_some, if_neg c1, if_neg n10, wi_v, b_some, if_neg c3, if_neg n10, b_some, ii_v w hi6, b_some, if_neg c2, if_pos rfl, b_some, e1, b2_some]
    · show f_X8_way h1 (B + 239) (nI i0) y = _
      rw [f_X8_way, o2, b_some, ih8_v aM rH, b_some, if_neg c1, if_neg n10, L01 y 0 1 0 1 rfl rfl, b_some, if_neg c3, if_neg n10, b_some, g8_get4 aM hi6, b_some, (rs.2 i0 hi).2.2.1, if_neg c2, b_some, e2, b2_some]
end
