/-! ===== operations: what is foreseen of an heir ===== -/
section
variable {B k : Nat} {h : Hea} {X : Nat → Blk} {P : Nat → Pst} {L : Nat → Nat → Int64} {R : Nat → Nat → Nat → Int64} {t : Nat} {q : Nat → Nat → Nat}
theorem ih_v (w : Wd B X P L R t h) (a : Int32) : f_X7_isHeir h B a = some (if a < 0 ∨ (X 1).1 3 - 1 < a then 0 else 1) := by
  rw [f_X7_isHeir, fl_f0 (wd_fl w), b_some, hh_f6 (wd_ho w), b_some, wi_v, b_some]
  split <;> rfl
theorem ih8_v {b : Nat} {m : Blk} {l : Nat → Int64} {r : Nat → Nat → Int64} {H : Blk} (aM : At h b (mdL b m l r)) (hN : hR H (m.2 0)) (a : Int32) : f_X8_isHeir h b a = some (if a < 0 ∨ H.1 3 - 1 < a then 0 else 1) := by
  rw [f_X8_isHeir, md_o aM, b_some, g8_heirs aM, b_some, hN.1, show (0 : Int64) = (0 : Int32).toInt64 from rfl, in_v, b_some]
  split <;> rfl
theorem ih_n {H : Blk} (wH : wfH H) {a : Int32} (ha : ¬ (a < 0 ∨ H.1 3 - 1 < a)) : ∃ i, i < hM H ∧ a = nI i := by
  have hm := wH.2.1
  obtain ⟨j, hj, rfl⟩ := nI_of (fun e => ha (Or.inl e))
  refine ⟨j, ?_, rfl⟩
  rw [wH.1] at ha
  by_cases h0 : hM H = 0
  · exfalso
    refine ha (Or.inr ?_)
    rw [h0, show nI 0 - 1 = -1 from rfl]
    exact Int32.lt_of_lt_of_le (by decide) (nI_pos' hj)
  · by_cases h1 : j < hM H
    · exact h1
    · exfalso
      refine ha (Or.inr ?_)
      rw [show (1 : Int32) = nI 1 from rfl, pk_sub (by omega)]
      exact nI_lt (by omega) hj
theorem ii_v (w : Wd B X P L R t h) {i : Nat} (hi : i < 6) : f_X7_isIn h B (nI i) = some (if (X 2).2 2 i = 0 then 1 else 0) := by
  rw [f_X7_isIn, fl_f0 (wd_fl w), b_some, hh_f9 (wd_ho w), b_some, hh_f6_3 (wd_ho w), b_some, hh_m9 (wd_ho w) hi, b_some]
  split <;> rfl
theorem L01 (x lo hi : Int32) (lo' hi' : Int64) (e1 : lo' = lo.toInt64) (e2 : hi' = hi.toInt64) : f_X8_in x.toInt64 lo' hi' = some (if x < lo ∨ hi < x then 0 else 1) := by rw [e1, e2, in_v]
theorem op_byThen (a : Inv B k h) (hk : k ≤ 64) (x y z : Int32) : Both B k h (fun h => f_X7_byThen h B x y z) (fun h => f_X8_byThen h (B + 239) x y z) := by
  obtain ⟨X, P, L, R, t, q, w, i⟩ := a
  obtain ⟨wo, ws, wt, rH, rs, rp⟩ := i.2.2.1
  have bad : ((x < 0 ∨ (X 1).1 3 - 1 < x) ∨ (y < 1 ∨ 60 < y) ∨ (z < 0 ∨ 1 < z)) → Both B k h (fun h => f_X7_byThen h B x y z) (fun h => f_X8_byThen h (B + 239) x y z) := by
    intro hb
    obtain ⟨h1, h2, e1, e2, o1, o2, iv, aM⟩ := inv_bad w i
    refine ⟨-2, h1, h2, ?_, ?_, o2, iv⟩
    · show f_X7_byThen h B x y z = _
      rw [f_X7_byThen, o1, b_some, ih_v w, b_some]
      by_cases c1 : x < 0 ∨ (X 1).1 3 - 1 < x
      · rw [if_pos c1, if_pos rfl, b_some, e1, b2_some]
      · rw [if_neg c1, if_neg (show ¬ (1 : Int32) = 0 by decide), wi_v, b_some]
        by_cases c2 : y < 1 ∨ 60 < y
        · rw [if_pos c2, if_pos rfl, b_some, e1, b2_some]
        · have c3 : z < 0 ∨ 1 < z := hb.elim (fun e => absurd e c1) (fun e => e.elim (fun e => absurd e c2) id)
          rw [if_neg c2, if_neg (show ¬ (1 : Int32) = 0 by decide), wi_v, b_some, if_pos c3, if_pos rfl, b_some, e1, b2_some]
    · show f_X8_byThen h1 (B + 239) x y z = _
      rw [f_X8_byThen, o2, b_some, ih8_v aM rH, b_some]
      by_cases c1 : x < 0 ∨ (X 1).1 3 - 1 < x
      · rw [if_pos c1, if_pos rfl, b_some, e2, b2_some]
      · rw [if_neg c1, if_neg (show ¬ (1 : Int32) = 0 by decide), L01 y 1 60 1 60 rfl rfl, b_some]
        by_cases c2 : y < 1 ∨ 60 < y
        · rw [if_pos c2, if_pos rfl, b_some, e2, b2_some]
        · have c3 : z < 0 ∨ 1 < z := hb.elim (fun e => absurd e c1) (fun e => e.elim (fun e => absurd e c2) id)
          rw [if_neg c2, if_neg (show ¬ (1 : Int32) = 0 by decide), L01 z 0 1 0 1 rfl rfl, b_some, if_pos c3, if_pos rfl, b_some, e2, b2_some]
  by_cases c1 : x < 0 ∨ (X 1).1 3 - 1 < x
  · exact bad (Or.inl c1)
  by_cases c2 : y < 1 ∨ 60 < y
  · exact bad (Or.inr (Or.inl c2))
  by_cases c3 : z < 0 ∨ 1 < z
  · exact bad (Or.inr (Or.inr c3))
  obtain ⟨i0, hi, rfl⟩ := ih_n wo.1 c1
  have hm := wo.1.2.1
  have hi6 : i0 < 6 := by omega
  obtain ⟨T, hT, rfl⟩ : ∃ T, T ≤ 60 ∧ y = nI T := wi_n (hi := 60) (by omega) (fun e => c2 (e.elim (fun e => Or.inl (Int32.lt_trans e (by decide))) Or.inr))
  have aF := wd_fc w
  have e := g_after (h := h) (b := B + 84) (bh := B + 1) (s := X 6) (g := X 7) (wd_ho w) (by omega) wo.1 (scN ws hk) hT
  rw [aF.eq] at e
  have te := nts_eq (H := X 1) (ey := (X 1).1 0) T (takeS_eq (H := X 1) (s := X 2) (t := X 6) wo.1.2.1)
  have w1 := wu_fc w (nts (X 1) ((X 1).1 0) T (takeS (X 2) (X 6))) (X 7)
  generalize hh1 : blk (B + 84) (fcL (B + 84) (nts (X 1) ((X 1).1 0) T (takeS (X 2) (X 6))) (X 7)) h = h1 at e w1
  have aM : At h1 (B + 239) (mdL (B + 239) (X 16) (L 1) (R 1)) := by
    have q := wd_md w1
    exact q
  have aF1 : At h1 (B + 84) (fcL (B + 84) (nts (X 1) ((X 1).1 0) T (takeS (X 2) (X 6))) (X 7)) := by
    have q := wd_fc w1
    exact q
  obtain ⟨m1, e1, d1, s1, y1⟩ := g8_hand (h := h1) (b := B + 239) (l := L 1) (r := R 1) wo.1 rH rs
  rw [aM.eq] at e1
  obtain ⟨m2, e2, d2, s2⟩ := g8_then44 (h := h1) (b := B + 239) (l := L 1) (r := R 1) wo.1 hT T 0 lots m1 (X 2) (by omega) (by simp only [lots]; omega) ((scN ws hk).le hT) ws.2.2 (by rw [s1.now]; exact rH) d1 y1
  rw [nI_0] at e2
  obtain ⟨-, -, d22, d23⟩ := d2.2 i0 hi
  refine ⟨if z = 0 then (nts (X 1) ((X 1).1 0) T (X 2)).2 2 i0 else (nts (X 1) ((X 1).1 0) T (X 2)).2 3 i0, h1, _, ?_, ?_, md_o aM, inv_q (r' := R 1) w1 i.up ((s1.trans s2).Q)⟩
  · show f_X7_byThen h B (nI i0) (nI T) z = _
    rw [f_X7_byThen, fl_o (wd_fl w), b_some, ih_v w, b_some, if_neg c1, if_neg (show ¬ (1 : Int32) = 0 by decide), wi_v, b_some, if_neg c2, if_neg (show ¬ (1 : Int32) = 0 by decide), wi_v, b_some, if_neg c3, if_neg (show ¬ (1 : Int32) = 0 by decide), fl_f6 (wd_fl w), b_some, fl_f0 (wd_fl w), b_some, fc_o aF, b_some, e, b2_some, fc_f1_3 aF1, b_some, fc_m4 aF1 hi6, b_some, fc_f1_4 aF1, b_some, fc_m5 aF1 hi6, b_some, te.2 2 i0 (by omega) hi, te.2 3 i0 (by omega) hi]
    split <;> rfl
  · show f_X8_byThen h1 (B + 239) (nI i0) (nI T) z = _
    rw [f_X8_byThen, md_o aM, b_some, ih8_v aM rH, b_some, if_neg c1, if_neg (show ¬ (1 : Int32) = 0 by decide), L01 (nI T) 1 60 1 60 rfl rfl, b_some, if_neg c2, if_neg (show ¬ (1 : Int32) = 0 by decide), L01 z 0 1 0 1 rfl rfl, b_some, if_neg c3, if_neg (show ¬ (1 : Int32) = 0 by decide), b_some, e1, b_some, e2, b_some, md_f10 (blk_at _ _ _), b_some, md_m7 (blk_at _ _ _) hi6, b_some, md_f11 (blk_at _ _ _), b_some, md_m8 (blk_at _ _ _) hi6, b_some, d22, d23]
    split <;> rfl
end
