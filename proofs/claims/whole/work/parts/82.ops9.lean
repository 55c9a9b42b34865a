/-! ===== operations: forget ===== -/
section
variable {B k : Nat} {h : Hea}
theorem op_forget (a : Inv B k h) : Both B k h (fun h => f_X7_forget h B) (fun h => f_X8_forget h (B + 239)) := by
  obtain ⟨X, P, L, R, t, q, w, i⟩ := a
  obtain ⟨wo, ws, wt, rH, rs, rp⟩ := i.2.2.1
  have w1 := wu_ho w (sS (X 1) 4 0) (X 2)
  have aM : At (blk (B + 1) (hhL (B + 1) (sS (X 1) 4 0) (X 2)) h) (B + 239) (mdL (B + 239) (X 16) (L 1) (R 1)) := by
    have q := wd_md w1
    exact q
  have w2 := wu_md w1 (sA (X 16) 0 5 0) (L 1) (R 1)
  have p := hh_p10 (h := h) (b := B + 1) (H := X 1) (s := X 2) (x := 0)
  rw [(wd_ho w).eq] at p
  have p2 := wn_5 (h := blk (B + 1) (hhL (B + 1) (sS (X 1) 4 0) (X 2)) h) (b := B + 239) (m := X 16) (l := L 1) (r := R 1) (x := 0)
  rw [aM.eq] at p2
  obtain ⟨i1, i2, -, i4, i5, i6, i7, i8, i9⟩ := i.up
  have ne : ∀ j, ¬ j = 5 → (sA (X 16) 0 5 0).2 0 j = (X 16).2 0 j := fun j hj => by rw [sA_2, if_neg (fun e => hj e.2)]
  refine ⟨(X 1).1 4, _, _, ?_, ?_, md_o aM, ⟨_, _, _, _, _, q, w2, ⟨i1, i2, ?_, i4, i5, i6, i7, i8, i9⟩⟩⟩
  · show f_X7_forget h B = _
    rw [f_X7_forget, fl_f0 (wd_fl w), b_some, hh_f10 (wd_ho w), b_some, b_some, pI, p, b_some]
  · show f_X8_forget _ (B + 239) = _
    rw [f_X8_forget, md_f0 aM, b_some, ln_5 aM, b_some, b_some, p2, b_some, rH.2.2.2.2.1]
  · show ST (k + 1) (sS (X 1) 4 0) (X 2) (P 0).1 (fun i => (P 0).2.2 (q 0 i)) ((sA (X 16) 0 5 0).2 0)
    refine ⟨⟨wo.1, ⟨rfl, by show (0 : Int32).toNatClampNeg ≤ 6; decide⟩, wo.2.2.1, wo.2.2.2.1, wo.2.2.2.2⟩, ws.up, fun j hj => (wt j hj).up, ⟨?_, ?_, ?_, ?_, ?_, ?_, ?_, ?_, ?_, ?_⟩, ⟨?_, ?_⟩, ⟨?_, ?_⟩⟩
    · rw [ne 0 (by omega)]; exact rH.1
    · rw [ne 1 (by omega)]; exact rH.2.1
    · rw [ne 2 (by omega)]; exact rH.2.2.1
    · rw [ne 4 (by omega)]; exact rH.2.2.2.1
    · rw [sA_2, if_pos ⟨rfl, rfl⟩]; rfl
    · intro j hj; rw [ne _ (by omega)]; exact rH.2.2.2.2.2.1 j hj
    · intro j hj; rw [ne _ (by omega)]; exact rH.2.2.2.2.2.2.1 j hj
    · intro j hj; rw [ne _ (by omega)]; exact rH.2.2.2.2.2.2.2.1 j hj
    · intro j hj; rw [ne _ (by omega), ne _ (by omega)]; exact rH.2.2.2.2.2.2.2.2.1 j hj
    · intro j hj; exact absurd hj (by show ¬ j < (0 : Int32).toNatClampNeg; rw [show (0 : Int32).toNatClampNeg = 0 from by decide]; omega)
    · rw [ne 3 (by omega)]; exact rs.1
    · intro j hj; rw [ne _ (by omega), ne _ (by omega), ne _ (by omega), ne _ (by omega), ne _ (by omega)]; exact rs.2 j hj
    · rw [ne 6 (by omega)]; exact rp.1
    · intro j hj
      refine ⟨by rw [ne _ (by omega)]; exact (rp.2 j hj).1, fun c hc => ?_⟩
      rw [ne _ (by omega), ne _ (by omega), ne _ (by omega), ne _ (by omega), ne _ (by omega)]
      exact (rp.2 j hj).2 c hc
end
