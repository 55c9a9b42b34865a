/-! ===== operations: looks, status, clear ===== -/
section
variable {B k : Nat} {h : Hea}
theorem op_looks (a : Inv B k h) (x : Int32) : Both B k h (fun h => f_X7_looks h B x) (fun h => f_X8_looks h (B + 239) x) := by
  obtain ⟨X, P, L, R, t, q, w, i⟩ := a
  obtain ⟨wo, ws, wt, rH, rs, rp⟩ := i.2.2.1
  by_cases c1 : x < 0 ∨ 99 < x
  · obtain ⟨h1, h2, e1, e2, o1, o2, iv, aM⟩ := inv_bad w i
    refine ⟨-2, h1, h2, ?_, ?_, o2, iv⟩
    · show f_X7_looks h B x = _
      rw [f_X7_looks, wi_v, b_some, if_pos c1, if_pos rfl, o1, b_some, e1, b2_some]
    · show f_X8_looks h1 (B + 239) x = _
      rw [f_X8_looks, L01 x 0 99 0 99 rfl rfl, b_some, if_pos c1, if_pos rfl, o2, b_some, e2, b2_some, b2_some]
  obtain ⟨T, hT, rfl⟩ := wi_n (hi := 99) (by omega) c1
  have aM := wd_md w
  refine ⟨lk (X 1) T, h, h, ?_, ?_, md_o aM, ⟨X, P, L, R, t, q, w, i.up⟩⟩
  · show f_X7_looks h B (nI T) = _
    rw [f_X7_looks, wi_v, b_some, if_neg c1, if_neg n10, fl_f0 (wd_fl w), b_some, hh_o (wd_ho w), b_some, g_looked (hh_ho (wd_ho w)) wo.1 (by omega), b_some]
  · show f_X8_looks h (B + 239) (nI T) = _
    rw [f_X8_looks, L01 (nI T) 0 99 0 99 rfl rfl, b_some, if_neg c1, if_neg n10, md_o aM, b_some, g8_looks aM rH wo.1 (by omega), b_some, b2_some]
theorem op_clear (a : Inv B k h) : Both B k h (fun h => f_X7_clear h B) (fun h => f_X8_clear h (B + 239)) := by
  obtain ⟨X, P, L, R, t, q, w, i⟩ := a
  have w1 := wu_fl w (sS (X 0) 0 0) (L 0)
  have aM : At (blk B (flL B (sS (X 0) 0 0) (L 0)) h) (B + 239) (mdL (B + 239) (X 16) (L 1) (R 1)) := by
    have q := wd_md w1
    exact q
  have w2 := wu_md w1 (sS (X 16) 2 0) (L 1) (R 1)
  have p := fl_p11 (h := h) (b := B) (g := X 0) (l := L 0) (x := 0)
  rw [(wd_fl w).eq] at p
  have p2 := md_p20 (h := blk B (flL B (sS (X 0) 0 0) (L 0)) h) (b := B + 239) (s := X 16) (l := L 1) (r := R 1) (x := 0)
  rw [aM.eq] at p2
  obtain ⟨i1, i2, i3, i4, i5, i6, i7, i8, i9⟩ := i.up
  refine ⟨(X 0).1 0, _, _, ?_, ?_, md_o aM, ⟨_, _, _, _, _, q, w2, ⟨i1, i2, i3, i4, i5, i6, i7, ⟨rfl, 0, by omega, rfl, fun j hj => by omega⟩, i9⟩⟩⟩
  · show f_X7_clear h B = _
    rw [f_X7_clear, fl_f11 (wd_fl w), b_some, pI, p, b_some]
  · show f_X8_clear _ (B + 239) = _
    rw [f_X8_clear, md_f20 aM, b_some, pI, p2, b_some, i8.1]
end
