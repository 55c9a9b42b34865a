/-! ===== operations: may, peek, ways, passed, odds ===== -/
section
variable {B k : Nat} {h : Hea}
/-- one call on both sides, answers of 64 bits -/
def BothL (B k : Nat) (h : Hea) (F : Hea → Option (Int64 × Hea)) (G : Hea → Option (Int64 × Hea)) : Prop := ∃ x h1 h2, F h = some (x, h1) ∧ G h1 = some (x, h2) ∧ (isO h1 (B + 239) 8 = some ()) ∧ Inv B (k + 1) h2
theorem op_may (a : Inv B k h) (x : Int32) : Both B k h (fun h => f_X7_may h B x) (fun h => f_X8_may h (B + 239) x) := by
  obtain ⟨X, P, L, R, t, q, w, i⟩ := a
  obtain ⟨wo, ws, wt, rH, rs, rp⟩ := i.2.2.1
  by_cases c1 : x < 0 ∨ 12 < x
  · obtain ⟨h1, h2, e1, e2, o1, o2, iv, aM⟩ := inv_bad w i
    refine ⟨-2, h1, h2, ?_, ?_, o2, iv⟩
    · show f_X7_may h B x = _
      rw [f_X7_may, wi_v, b_some, if_pos c1, if_pos rfl, o1, b_some, e1, b2_some]
    · show f_X8_may h1 (B + 239) x = _
      rw [f_X8_may, L01 x 0 12 0 12 rfl rfl, b_some, if_pos c1, if_pos rfl, o2, b_some, e2, b2_some]
  obtain ⟨T, hT, rfl⟩ := wi_n (hi := 12) (by omega) c1
  have aF := wd_wk w
  obtain ⟨r1, e, hr⟩ := g_count (h := h) (b := B + 101) (bh := B + 1) (r := R 0) (wd_ho w) (by omega) wo.2.1 wo.2.2.2.1 hT
  rw [aF.eq] at e
  have e2 := g_poss (h := h) (b := B + 101) hr (fun q => by have := thr_le (H := X 1) (r := q) hT; omega)
  have w1 := wu_wk w r1
  generalize hh1 : blk (B + 101) (wkL (B + 101) r1) h = h1 at e w1 e2
  have aM : At h1 (B + 239) (mdL (B + 239) (X 16) (L 1) (R 1)) := by
    have q := wd_md w1
    exact q
  have aL : At h1 B (flL B (X 0) (L 0)) := by
    have q := wd_fl w1
    exact q
  have aF1 : At h1 (B + 101) (wkL (B + 101) r1) := by
    have q := wd_wk w1
    exact q
  obtain ⟨r2, f1, hr2⟩ := g8_lay (h := h1) (b := B + 239) (m := X 16) (l := L 1) (r := R 1) rH wo.2.1
  rw [aM.eq] at f1
  have f2 := g8_may27 (h := h1) (b := B + 239) (m := X 16) (l := L 1) hT hr2 8 0 lots (by omega) (by simp only [lots]; omega)
  rw [nI_0, show bitsF (fun q => decide (0 < cw (X 1) T q * gw (X 1) (12 - T) q)) 0 = 0 from rfl] at f2
  refine ⟨bitsF (fun q => decide (0 < cw (X 1) T q * gw (X 1) (12 - T) q)) 8, h1, _, ?_, ?_, md_o aM, inv_q (r' := r2) w1 i.up (SmQ.refl _)⟩
  · show f_X7_may h B (nI T) = _
    rw [f_X7_may, wi_v, b_some, if_neg c1, if_neg n10, fl_f8 (wd_fl w), b_some, fl_f0 (wd_fl w), b_some, wk_o aF, b_some, e, b_some, fl_f8 aL, b_some, wk_o aF1, b_some, e2, b_some]
  · show f_X8_may h1 (B + 239) (nI T) = _
    rw [f_X8_may, L01 (nI T) 0 12 0 12 rfl rfl, b_some, if_neg c1, if_neg n10, md_o aM, b_some, f1, b_some, f2, b_some]
theorem op_peek (a : Inv B k h) (x : Int32) : Both B k h (fun h => f_X7_peek h B x) (fun h => f_X8_peek h (B + 239) x) := by
  obtain ⟨X, P, L, R, t, q, w, i⟩ := a
  obtain ⟨wo, ws, wt, rH, rs, rp⟩ := i.2.2.1
  by_cases c1 : x < 0 ∨ 12 < x
  · obtain ⟨h1, h2, e1, e2, o1, o2, iv, aM⟩ := inv_bad w i
    refine ⟨-2, h1, h2, ?_, ?_, o2, iv⟩
    · show f_X7_peek h B x = _
      rw [f_X7_peek, wi_v, b_some, if_pos c1, if_pos rfl, o1, b_some, e1, b2_some]
    · show f_X8_peek h1 (B + 239) x = _
      rw [f_X8_peek, L01 x 0 12 0 12 rfl rfl, b_some, if_pos c1, if_pos rfl, o2, b_some, e2, b2_some]
  obtain ⟨T, hT, rfl⟩ := wi_n (hi := 12) (by omega) c1
  have aF := wd_wk w
  obtain ⟨r1, e, hr⟩ := g_count (h := h) (b := B + 101) (bh := B + 1) (r := R 0) (wd_ho w) (by omega) wo.2.1 wo.2.2.2.1 hT
  rw [aF.eq] at e
  have tl := tot_le (H := X 1) hT
  have e2 := g_tells (h := h) (b := B + 101) hr (by rw [show sumK (fun q => cw (X 1) T q * gw (X 1) (12 - T) q) 8 = totW (X 1) T from rfl]; omega)
  rw [show sumK (fun q => cw (X 1) T q * gw (X 1) (12 - T) q) 8 = totW (X 1) T from rfl] at e2
  have w1 := wu_wk w r1
  generalize hh1 : blk (B + 101) (wkL (B + 101) r1) h = h1 at e w1 e2
  have aM : At h1 (B + 239) (mdL (B + 239) (X 16) (L 1) (R 1)) := by
    have q := wd_md w1
    exact q
  have aL : At h1 B (flL B (X 0) (L 0)) := by
    have q := wd_fl w1
    exact q
  have aF1 : At h1 (B + 101) (wkL (B + 101) r1) := by
    have q := wd_wk w1
    exact q
  obtain ⟨r2, f1, hr2⟩ := g8_lay (h := h1) (b := B + 239) (m := X 16) (l := L 1) (r := R 1) rH wo.2.1
  rw [aM.eq] at f1
  have f2 := g8_peek (h := h1) (b := B + 239) (m := X 16) (l := L 1) hT hr2
  have f3 := g8_all (h := h1) (b := B + 239) (m := X 16) (l := L 1) hr2
  refine ⟨if totW (X 1) T = 0 then -1 else tellL (fun q => cw (X 1) T q * gw (X 1) (12 - T) q) (totW (X 1) T) 8 0 (-1) (totW (X 1) T + 1), h1, _, ?_, ?_, md_o aM, inv_q (r' := r2) w1 i.up (SmQ.refl _)⟩
  · show f_X7_peek h B (nI T) = _
    rw [f_X7_peek, wi_v, b_some, if_neg c1, if_neg n10, fl_f8 (wd_fl w), b_some, fl_f0 (wd_fl w), b_some, wk_o aF, b_some, e, b_some, fl_f8 aL, b_some, wk_o aF1, b_some, e2, b_some]
  · show f_X8_peek h1 (B + 239) (nI T) = _
    rw [f_X8_peek, L01 (nI T) 0 12 0 12 rfl rfl, b_some, if_neg c1, if_neg n10, md_o aM, b_some, f1, b_some, md_o (blk_at _ _ _), b_some, f3, b_some, f2, b_some]
theorem op_ways (a : Inv B k h) : BothL B k h (fun h => f_X7_ways h B) (fun h => f_X8_ways h (B + 239)) := by
  obtain ⟨X, P, L, R, t, q, w, i⟩ := a
  obtain ⟨wo, ws, wt, rH, rs, rp⟩ := i.2.2.1
  have aF := wd_wk w
  obtain ⟨r1, e, hr⟩ := g_count (h := h) (b := B + 101) (bh := B + 1) (r := R 0) (m := 0) (wd_ho w) (by omega) wo.2.1 wo.2.2.2.1 (by omega)
  rw [aF.eq, nI_0] at e
  have e2 := g_tot (h := h) (b := B + 101) hr
  rw [show sumK (fun q => cw (X 1) 0 q * gw (X 1) (12 - 0) q) 8 = totW (X 1) 0 from rfl] at e2
  have w1 := wu_wk w r1
  generalize hh1 : blk (B + 101) (wkL (B + 101) r1) h = h1 at e w1 e2
  have aM : At h1 (B + 239) (mdL (B + 239) (X 16) (L 1) (R 1)) := by
    have q := wd_md w1
    exact q
  have aL : At h1 B (flL B (X 0) (L 0)) := by
    have q := wd_fl w1
    exact q
  have aF1 : At h1 (B + 101) (wkL (B + 101) r1) := by
    have q := wd_wk w1
    exact q
  obtain ⟨r2, f1, hr2⟩ := g8_lay (h := h1) (b := B + 239) (m := X 16) (l := L 1) (r := R 1) rH wo.2.1
  rw [aM.eq] at f1
  have f3 := g8_all (h := h1) (b := B + 239) (m := X 16) (l := L 1) hr2
  refine ⟨lN (totW (X 1) 0), h1, _, ?_, ?_, md_o aM, inv_q (r' := r2) w1 i.up (SmQ.refl _)⟩
  · show f_X7_ways h B = _
    rw [f_X7_ways, fl_f8 (wd_fl w), b_some, fl_f0 (wd_fl w), b_some, wk_o aF, b_some, e, b_some, fl_f8 aL, b_some, wk_o aF1, b_some, e2, b_some]
  · show f_X8_ways h1 (B + 239) = _
    rw [f_X8_ways, md_o aM, b_some, f1, b_some, md_o (blk_at _ _ _), b_some, f3, b_some]
end
