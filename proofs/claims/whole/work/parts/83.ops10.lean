/-! ===== operations: only ===== -/
section
variable {B k : Nat} {h : Hea}
theorem op_only (a : Inv B k h) (x : Int32) : Both B k h (fun h => f_X7_only h B x) (fun h => f_X8_only h (B + 239) x) := by
  obtain ⟨X, P, L, R, t, q, w, i⟩ := a
  obtain ⟨wo, ws, wt, rH, rs, rp⟩ := i.2.2.1
  by_cases c1 : x < 0 ∨ 7 < x
  · obtain ⟨h1, h2, e1, e2, o1, o2, iv, aM⟩ := inv_bad w i
    refine ⟨-2, h1, h2, ?_, ?_, o2, iv⟩
    · show f_X7_only h B x = _
      rw [f_X7_only, rm_v, b_some, if_pos c1, if_pos rfl, o1, b_some, e1, b2_some]
    · show f_X8_only h1 (B + 239) x = _
      rw [f_X8_only, rm8_v, b_some, if_pos c1, if_pos rfl, o2, b_some, e2, b2_some]
  have w1 := wu_ho w (sS (sA (X 1) 2 0 x) 2 1) (X 2)
  have aM : At (blk (B + 1) (hhL (B + 1) (sS (sA (X 1) 2 0 x) 2 1) (X 2)) h) (B + 239) (mdL (B + 239) (X 16) (L 1) (R 1)) := by
    have q := wd_md w1
    exact q
  have w2 := wu_md w1 (sA (sA (X 16) 0 79 x) 0 4 1) (L 1) (R 1)
  have p0 := hh_w3 (h := h) (b := B + 1) (H := X 1) (s := X 2) (i := 0) (x := x) (by omega)
  rw [(wd_ho w).eq, nI_0] at p0
  have p := hh_p5 (h := h) (b := B + 1) (H := sA (X 1) 2 0 x) (s := X 2) (x := 1)
  have p2 := wn_79 (h := blk (B + 1) (hhL (B + 1) (sS (sA (X 1) 2 0 x) 2 1) (X 2)) h) (b := B + 239) (m := X 16) (l := L 1) (r := R 1) (x := x)
  rw [aM.eq] at p2
  have aL : At (blk (B + 1) (hhL (B + 1) (sA (X 1) 2 0 x) (X 2)) h) B (flL B (X 0) (L 0)) := by
    have q := wd_fl (wu_ho w (sA (X 1) 2 0 x) (X 2))
    exact q
  obtain ⟨i1, i2, -, i4, i5, i6, i7, i8, i9⟩ := i.up
  have ne : ∀ j, ¬ j = 79 → ¬ j = 4 → (sA (sA (X 16) 0 79 x) 0 4 1).2 0 j = (X 16).2 0 j := fun j hj h4 => by rw [sA_2, if_neg (fun e => h4 e.2), sA_2, if_neg (fun e => hj e.2)]
  refine ⟨(X 1).1 2, _, _, ?_, ?_, md_o aM, ⟨_, _, _, _, _, q, w2, ⟨i1, i2, ?_, i4, i5, i6, i7, i8, i9⟩⟩⟩
  · show f_X7_only h B x = _
    rw [f_X7_only, rm_v, b_some, if_neg c1, if_neg n10, fl_f0 (wd_fl w), b_some, hh_f5 (wd_ho w), b_some, b_some, hh_f4 (wd_ho w), b_some, p0, b_some, fl_f0 aL, b_some, pI, p, b_some]
  · show f_X8_only _ (B + 239) x = _
    rw [f_X8_only, rm8_v, b_some, if_neg c1, if_neg n10, md_f0 aM, b_some, ln_4 aM, b_some, b_some, p2, b_some, md_f0 (blk_at _ _ _), b_some, wn_4, b_some, rH.2.2.2.1]
  · show ST (k + 1) (sS (sA (X 1) 2 0 x) 2 1) (X 2) (P 0).1 (fun i => (P 0).2.2 (q 0 i)) ((sA (sA (X 16) 0 79 x) 0 4 1).2 0)
    have hl : hL (sS (sA (X 1) 2 0 x) 2 1) = 1 := by show (1 : Int32).toNatClampNeg = 1; decide
    refine ⟨⟨⟨wo.1.1, wo.1.2.1, by rw [hl]; rfl, by rw [hl]; omega, by rw [hl]; omega⟩, wo.2.1, wo.2.2.1, wo.2.2.2.1, wo.2.2.2.2⟩, ws.up, fun j hj => (wt j hj).up, ⟨?_, ?_, ?_, ?_, ?_, ?_, ?_, ?_, ?_, ?_⟩, ⟨?_, ?_⟩, ⟨?_, ?_⟩⟩
    · rw [ne 0 (by omega) (by omega)]; exact rH.1
    · rw [ne 1 (by omega) (by omega)]; exact rH.2.1
    · rw [ne 2 (by omega) (by omega)]; exact rH.2.2.1
    · rw [sA_2, if_pos ⟨rfl, rfl⟩]; rfl
    · rw [ne 5 (by omega) (by omega)]; exact rH.2.2.2.2.1
    · intro j hj; rw [ne _ (by omega) (by omega)]; exact rH.2.2.2.2.2.1 j hj
    · intro j hj; rw [ne _ (by omega) (by omega)]; exact rH.2.2.2.2.2.2.1 j hj
    · intro j hj
      rw [hl] at hj
      rw [show j = 0 by omega]
      rfl
    · intro j hj; rw [ne _ (by omega) (by omega), ne _ (by omega) (by omega)]; exact rH.2.2.2.2.2.2.2.2.1 j hj
    · intro j hj; rw [ne _ (by omega) (by omega), ne _ (by omega) (by omega), ne _ (by omega) (by omega)]; exact rH.2.2.2.2.2.2.2.2.2 j hj
    · rw [ne 3 (by omega) (by omega)]; exact rs.1
    · intro j hj; rw [ne _ (by omega) (by omega), ne _ (by omega) (by omega), ne _ (by omega) (by omega), ne _ (by omega) (by omega), ne _ (by omega) (by omega)]; exact rs.2 j hj
    · rw [ne 6 (by omega) (by omega)]; exact rp.1
    · intro j hj
      refine ⟨by rw [ne _ (by omega) (by omega)]; exact (rp.2 j hj).1, fun c hc => ?_⟩
      rw [ne _ (by omega) (by omega), ne _ (by omega) (by omega), ne _ (by omega) (by omega), ne _ (by omega) (by omega), ne _ (by omega) (by omega)]
      exact (rp.2 j hj).2 c hc
end
