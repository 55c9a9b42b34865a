/-! ===== operations: list, room ===== -/
theorem ST.chg {k : Nat} {H H' s : Blk} {z : Nat} {T : Nat → Blk} {N N' : Nat → Int32} (a : ST k H s z T N) (wo : hoW H') (hm : hM H' = hM H) (rH : hR H' N') (ne : ∀ j, j = 3 ∨ j = 6 ∨ (91 ≤ j ∧ j < 133) ∨ 151 ≤ j → N' j = N j) : ST (k + 1) H' s z T N' := by
  obtain ⟨-, ws, wt, -, rs, rp⟩ := a
  have sc : ∀ s : Blk, scW k H s → scW (k + 1) H' s := fun s ws => ⟨⟨ws.1.1, by have := ws.1.2.1; omega, fun i hi => ws.1.2.2 i (by omega)⟩, fun i hi => by
    obtain ⟨v, hv, e⟩ := ws.2.1 i (by omega)
    exact ⟨v, by omega, e⟩, fun i hi => ws.2.2 i (by omega)⟩
  refine ⟨wo, sc s ws, fun j hj => sc _ (wt j hj), rH, ⟨?_, ?_⟩, ⟨?_, ?_⟩⟩
  · rw [ne 3 (by omega)]; exact rs.1
  · have h6 := wo.1.2.1
    intro j hj; rw [ne _ (by omega), ne _ (by omega), ne _ (by omega), ne _ (by omega), ne _ (by omega)]; exact rs.2 j (by omega)
  · rw [ne 6 (by omega)]; exact rp.1
  · intro j hj
    refine ⟨by rw [ne _ (by omega)]; exact (rp.2 j hj).1, fun c hc => ?_⟩
    rw [ne _ (by omega), ne _ (by omega), ne _ (by omega), ne _ (by omega), ne _ (by omega)]
    exact (rp.2 j hj).2 c (by omega)
section
variable {B k : Nat} {h : Hea}
theorem op_room (a : Inv B k h) (x y : Int32) : Both B k h (fun h => f_X7_room h B x y) (fun h => f_X8_room h (B + 239) x y) := by
  obtain ⟨X, P, L, R, t, q, w, i⟩ := a
  obtain ⟨wo, ws, wt, rH, rs, rp⟩ := i.2.2.1
  by_cases c1 : x < 0 ∨ 7 < x
  · obtain ⟨h1, h2, e1, e2, o1, o2, iv, aM⟩ := inv_bad w i
    refine ⟨-2, h1, h2, ?_, ?_, o2, iv⟩
    · show f_X7_room h B x y = _
      rw [f_X7_room, rm_v, b_some, if_pos c1, if_pos rfl, o1, b_some, e1, b2_some]
    · show f_X8_room h1 (B + 239) x y = _
      rw [f_X8_room, rm8_v, b_some, if_pos c1, if_pos rfl, o2, b_some, e2, b2_some]
  by_cases c2 : y < 0 ∨ 9 < y
  · obtain ⟨h1, h2, e1, e2, o1, o2, iv, aM⟩ := inv_bad w i
    refine ⟨-2, h1, h2, ?_, ?_, o2, iv⟩
    · show f_X7_room h B x y = _
      rw [f_X7_room, rm_v, b_some, if_neg c1, if_neg n10, wi_v, b_some, if_pos c2, if_pos rfl, o1, b_some, e1, b2_some]
    · show f_X8_room h1 (B + 239) x y = _
      rw [f_X8_room, rm8_v, b_some, if_neg c1, if_neg n10, L01 y 0 9 0 9 rfl rfl, b_some, if_pos c2, if_pos rfl, o2, b_some, e2, b2_some]
  obtain ⟨r0, hr, rfl⟩ := wi_n (hi := 7) (by omega) c1
  obtain ⟨v0, hv, rfl⟩ := wi_n (hi := 9) (by omega) c2
  have w1 := wu_ho w (sA (X 1) 0 r0 (nI v0)) (X 2)
  have aM : At (blk (B + 1) (hhL (B + 1) (sA (X 1) 0 r0 (nI v0)) (X 2)) h) (B + 239) (mdL (B + 239) (X 16) (L 1) (R 1)) := by
    have q := wd_md w1
    exact q
  have w2 := wu_md w1 (sA (X 16) 0 (7 + r0) (nI v0)) (L 1) (R 1)
  have p := hh_w1 (h := h) (b := B + 1) (H := X 1) (s := X 2) (i := r0) (x := nI v0) (by omega)
  rw [(wd_ho w).eq] at p
  have p2 := md_w1 (h := blk (B + 1) (hhL (B + 1) (sA (X 1) 0 r0 (nI v0)) (X 2)) h) (b := B + 239) (s := X 16) (l := L 1) (r := R 1) (i := 7 + r0) (x := nI v0) (by omega)
  rw [aM.eq] at p2
  obtain ⟨i1, i2, -, i4, i5, i6, i7, i8, i9⟩ := i.up
  have ne : ∀ j, ¬ j = 7 + r0 → (sA (X 16) 0 (7 + r0) (nI v0)).2 0 j = (X 16).2 0 j := fun j hj => by rw [sA_2, if_neg (fun e => hj e.2)]
  have ix : (7 : Int32) + nI r0 = nI (7 + r0) := by rw [show (7 : Int32) = nI 7 from rfl, nI_add]
  refine ⟨(X 1).2 0 r0, _, _, ?_, ?_, md_o aM, ⟨_, _, _, _, _, q, w2, ⟨i1, i2, ?_, i4, i5, i6, i7, i8, i9⟩⟩⟩
  · show f_X7_room h B (nI r0) (nI v0) = _
    rw [f_X7_room, rm_v, b_some, if_neg c1, if_neg n10, wi_v, b_some, if_neg c2, if_neg n10, fl_f0 (wd_fl w), b_some, hh_f2 (wd_ho w), b_some, hh_m1 (wd_ho w) (by omega), b_some, b_some, hh_f2 (wd_ho w), b_some, p, b_some]
  · show f_X8_room _ (B + 239) (nI r0) (nI v0) = _
    rw [f_X8_room, rm8_v, b_some, if_neg c1, if_neg n10, L01 (nI v0) 0 9 0 9 rfl rfl, b_some, if_neg c2, if_neg n10, md_f0 aM, b_some, ix, md_m1 aM (by omega), b_some, b_some, p2, b_some, rH.2.2.2.2.2.1 r0 (by omega)]
  · show ST (k + 1) (sA (X 1) 0 r0 (nI v0)) (X 2) (P 0).1 (fun i => (P 0).2.2 (q 0 i)) ((sA (X 16) 0 (7 + r0) (nI v0)).2 0)
    refine i.2.2.1.chg ⟨wo.1, wo.2.1, ⟨fun j hj => ?_, wo.2.2.1.2⟩, wo.2.2.2.1, wo.2.2.2.2⟩ rfl ⟨?_, ?_, ?_, ?_, ?_, ?_, ?_, ?_, ?_, ?_⟩ (fun j hj => ne j (by omega))
    · rw [sA_2]
      by_cases e : j = r0
      · rw [if_pos ⟨rfl, e⟩]; exact ⟨v0, hv, rfl⟩
      · rw [if_neg (fun c => e c.2)]; exact wo.2.2.1.1 j hj
    · rw [ne 0 (by omega)]; exact rH.1
    · rw [ne 1 (by omega)]; exact rH.2.1
    · rw [ne 2 (by omega)]; exact rH.2.2.1
    · rw [ne 4 (by omega)]; exact rH.2.2.2.1
    · rw [ne 5 (by omega)]; exact rH.2.2.2.2.1
    · intro j hj
      rw [sA_2, sA_2]
      by_cases e : j = r0
      · rw [if_pos ⟨rfl, by omega⟩, if_pos ⟨rfl, e⟩]
      · rw [if_neg (fun c => e (by have := c.2; omega)), if_neg (fun c => e c.2)]; exact rH.2.2.2.2.2.1 j hj
    · intro j hj; rw [ne _ (by omega)]; exact rH.2.2.2.2.2.2.1 j hj
    · intro j hj; rw [ne _ (by omega)]; exact rH.2.2.2.2.2.2.2.1 j hj
    · intro j hj; rw [ne _ (by omega), ne _ (by omega)]; exact rH.2.2.2.2.2.2.2.2.1 j hj
    · intro j hj; rw [ne _ (by omega), ne _ (by omega), ne _ (by omega)]; exact rH.2.2.2.2.2.2.2.2.2 j hj
end
