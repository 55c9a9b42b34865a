/-! ===== operations: list ===== -/
section
variable {B k : Nat} {h : Hea}
theorem op_list (a : Inv B k h) (x : Int32) : Both B k h (fun h => f_X7_list h B x) (fun h => f_X8_list h (B + 239) x) := by
  obtain ⟨X, P, L, R, t, q, w, i⟩ := a
  obtain ⟨wo, ws, wt, rH, rs, rp⟩ := i.2.2.1
  have h12 := wo.1.2.2.2.2
  by_cases c1 : x < 0 ∨ 7 < x
  · obtain ⟨h1, h2, e1, e2, o1, o2, iv, aM⟩ := inv_bad w i
    refine ⟨-2, h1, h2, ?_, ?_, o2, iv⟩
    · show f_X7_list h B x = _
      rw [f_X7_list, rm_v, b_some, if_pos c1, if_pos rfl, o1, b_some, e1, b2_some]
    · show f_X8_list h1 (B + 239) x = _
      rw [f_X8_list, rm8_v, b_some, if_pos c1, if_pos rfl, o2, b_some, e2, b2_some]
  by_cases c2 : hL (X 1) = 12
  · obtain ⟨h1, h2, e1, e2, o1, o2, iv, aM⟩ := inv_full w i
    refine ⟨-4, h1, h2, ?_, ?_, o2, iv⟩
    · show f_X7_list h B x = _
      rw [f_X7_list, rm_v, b_some, if_neg c1, if_neg n10, fl_f0 (wd_fl w), b_some, hh_f5 (wd_ho w), b_some, wo.1.2.2.1, c2, if_neg (show ¬ nI 12 < 12 by decide), o1, b_some, e1, b2_some]
    · show f_X8_list h1 (B + 239) x = _
      rw [f_X8_list, rm8_v, b_some, if_neg c1, if_neg n10, md_f0 aM, b_some, ln_4 aM, b_some, rH.2.2.2.1, wo.1.2.2.1, c2, if_pos (show nI 12 = 12 from rfl), o2, b_some, e2, b2_some]
  generalize hn : hL (X 1) = n0 at *
  have w3 : (X 1).1 2 = nI n0 := by rw [wo.1.2.2.1, hn]
  have w0 := wu_ho w (sA (X 1) 2 n0 x) (X 2)
  have w1 := wu_ho w (sS (sA (X 1) 2 n0 x) 2 (nI (n0 + 1))) (X 2)
  have aM : At (blk (B + 1) (hhL (B + 1) (sS (sA (X 1) 2 n0 x) 2 (nI (n0 + 1))) (X 2)) h) (B + 239) (mdL (B + 239) (X 16) (L 1) (R 1)) := by
    have q := wd_md w1
    exact q
  have w2 := wu_md w1 (sA (sA (X 16) 0 (79 + n0) x) 0 4 (nI (n0 + 1))) (L 1) (R 1)
  have p0 := hh_w3 (h := h) (b := B + 1) (H := X 1) (s := X 2) (i := n0) (x := x) (by omega)
  rw [(wd_ho w).eq] at p0
  have p := hh_p5 (h := h) (b := B + 1) (H := sA (X 1) 2 n0 x) (s := X 2) (x := nI (n0 + 1))
  have p2 := md_w1 (h := blk (B + 1) (hhL (B + 1) (sS (sA (X 1) 2 n0 x) 2 (nI (n0 + 1))) (X 2)) h) (b := B + 239) (s := X 16) (l := L 1) (r := R 1) (i := 79 + n0) (x := x) (by omega)
  rw [aM.eq] at p2
  have aL : At (blk (B + 1) (hhL (B + 1) (sA (X 1) 2 n0 x) (X 2)) h) B (flL B (X 0) (L 0)) := by
    have q := wd_fl w0
    exact q
  have aL1 : At (blk (B + 1) (hhL (B + 1) (sS (sA (X 1) 2 n0 x) 2 (nI (n0 + 1))) (X 2)) h) B (flL B (X 0) (L 0)) := by
    have q := wd_fl w1
    exact q
  obtain ⟨i1, i2, -, i4, i5, i6, i7, i8, i9⟩ := i.up
  have ne : ∀ j, ¬ j = 79 + n0 → ¬ j = 4 → (sA (sA (X 16) 0 (79 + n0) x) 0 4 (nI (n0 + 1))).2 0 j = (X 16).2 0 j := fun j hj h4 => by rw [sA_2, if_neg (fun e => h4 e.2), sA_2, if_neg (fun e => hj e.2)]
  have n4 : (sA (X 16) 0 (79 + n0) x).2 0 4 = nI n0 := by rw [sA_2, if_neg (by omega), rH.2.2.2.1, w3]
  refine ⟨nI (n0 + 1), _, _, ?_, ?_, md_o aM, ⟨_, _, _, _, _, q, w2, ⟨i1, i2, ?_, i4, i5, i6, i7, i8, i9⟩⟩⟩
  · show f_X7_list h B x = _
    rw [f_X7_list, rm_v, b_some, if_neg c1, if_neg n10, fl_f0 (wd_fl w), b_some, hh_f5 (wd_ho w), b_some, w3, if_pos (show nI n0 < (12 : Int32) from nI_lt (b := 12) (by omega) (by omega)), b_some, hh_f4 (wd_ho w), b_some, b_some, hh_f5 (wd_ho w), b_some, w3, p0, b_some, fl_f0 aL, b_some, hh_f5 (blk_at _ _ _), b_some, sA_1, w3, nI_1, pI, p, b_some, fl_f0 aL1, b_some, hh_f5 (blk_at _ _ _), b_some]
    rfl
  · show f_X8_list _ (B + 239) x = _
    rw [f_X8_list, rm8_v, b_some, if_neg c1, if_neg n10, md_f0 aM, b_some, ln_4 aM, b_some, rH.2.2.2.1, w3, if_neg (show ¬ nI n0 = 12 from fun e => c2 ((nI_eq (b := 12) (by omega) (by omega)).mp e)), b_some, b_some, ln_4 aM, b_some, rH.2.2.2.1, w3, show (79 : Int32) = nI 79 from rfl, nI_add, p2, b_some, md_f0 (blk_at _ _ _), b_some, ln_4 (blk_at _ _ _), b_some, n4, nI_1, wn_4, b_some, md_f0 (blk_at _ _ _), b_some, ln_4 (blk_at _ _ _), b_some]
    rw [sA_2, if_pos ⟨rfl, rfl⟩]
  · show ST (k + 1) (sS (sA (X 1) 2 n0 x) 2 (nI (n0 + 1))) (X 2) (P 0).1 (fun i => (P 0).2.2 (q 0 i)) ((sA (sA (X 16) 0 (79 + n0) x) 0 4 (nI (n0 + 1))).2 0)
    have hl : hL (sS (sA (X 1) 2 n0 x) 2 (nI (n0 + 1))) = n0 + 1 := by show (nI (n0 + 1)).toNatClampNeg = n0 + 1; exact nI_clamp (by omega)
    refine i.2.2.1.chg ⟨⟨wo.1.1, wo.1.2.1, by rw [hl]; rfl, by rw [hl]; omega, by rw [hl]; omega⟩, wo.2.1, wo.2.2.1, wo.2.2.2.1, wo.2.2.2.2⟩ rfl ⟨?_, ?_, ?_, ?_, ?_, ?_, ?_, ?_, ?_, ?_⟩ (fun j hj => ne j (by omega) (by omega))
    · rw [ne 0 (by omega) (by omega)]; exact rH.1
    · rw [ne 1 (by omega) (by omega)]; exact rH.2.1
    · rw [ne 2 (by omega) (by omega)]; exact rH.2.2.1
    · rw [sA_2, if_pos ⟨rfl, rfl⟩]; rfl
    · rw [ne 5 (by omega) (by omega)]; exact rH.2.2.2.2.1
    · intro j hj; rw [ne _ (by omega) (by omega)]; exact rH.2.2.2.2.2.1 j hj
    · intro j hj; rw [ne _ (by omega) (by omega)]; exact rH.2.2.2.2.2.2.1 j hj
    · intro j hj
      rw [hl] at hj
      by_cases e : j = n0
      · subst e
        rw [sA_2, if_neg (by omega), sA_2, if_pos ⟨rfl, rfl⟩, sS_2, sA_2, if_pos ⟨rfl, rfl⟩]
      · rw [ne _ (by omega) (by omega), sS_2, sA_2, if_neg (fun c => e c.2)]; exact rH.2.2.2.2.2.2.2.1 j (by omega)
    · have h6 := wo.1.2.1
      intro j hj
      have hj' : j < hM (X 1) := hj
      rw [ne _ (by omega) (by omega), ne _ (by omega) (by omega)]; exact rH.2.2.2.2.2.2.2.2.1 j hj
    · intro j hj; rw [ne _ (by omega) (by omega), ne _ (by omega) (by omega), ne _ (by omega) (by omega)]; exact rH.2.2.2.2.2.2.2.2.2 j hj
end
