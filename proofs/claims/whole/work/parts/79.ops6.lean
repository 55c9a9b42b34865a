/-! ===== operations: odds, passed ===== -/
section
variable {B k : Nat} {h : Hea}
theorem op_passed (a : Inv B k h) (hk : k ≤ 64) : ∃ x h2, f_X7_passed h B = some x ∧ f_X8_passed h (B + 239) = some (x, h2) ∧ isO h B 7 = some () ∧ isO h (B + 239) 8 = some () ∧ Inv B (k + 1) h2 := by
  obtain ⟨X, P, L, R, t, q, w, i⟩ := a
  obtain ⟨wo, ws, wt, rH, rs, rp⟩ := i.2.2.1
  have hm := wo.1.2.1
  have aM := wd_md w
  have aO := hh_ho (wd_ho w)
  have aS := hh_sn (wd_ho w)
  have wS := (scN ws hk).S
  obtain ⟨m1, e1, d1, s1, y1⟩ := g8_hand (h := h) (b := B + 239) (l := L 1) (r := R 1) wo.1 rH rs
  rw [aM.eq] at e1
  have e2 := g8_pass19 (h := h) (b := B + 239) (l := L 1) (r := R 1) wo.1 wS (m := m1) (by rw [s1.now]; exact rH) d1 (hM (X 1)) 0 lots (by omega) (by simp only [lots]; omega)
  rw [y1, nI_0, show bitsF (fun i => isSee (X 1) (X 2) i && !isFnd (X 1) (X 2) ((X 1).1 0) i) 0 = 0 from rfl, bits_6 _ hm (fun j hj => by simp [isSee, isIn_hi hj])] at e2
  refine ⟨bitsF (fun i => isSee (X 1) (X 2) i && !isFnd (X 1) (X 2) ((X 1).1 0) i) 6, _, ?_, ?_, fl_o (wd_fl w), md_o aM, inv_q (r' := R 1) w i.up s1.Q⟩
  · rw [f_X7_passed, fl_f0 (wd_fl w), b_some, hh_f9 (wd_ho w), b_some, b_some, hh_o (wd_ho w), b_some, g_going aO aS wo.1 wS, b_some, b_some, hh_o (wd_ho w), b_some, g_inSight aO aS wo.1 wS, b_some, b_some, b_some, hh_f0 (wd_ho w), b_some, hh_o (wd_ho w), b_some, g_beingFound aO aS wo.1 wS, b_some, fnd, bits_andn]
  · rw [f_X8_passed, md_f0 aM, b_some, ln_3 aM, b_some, rs.1, wS.1, md_o aM, b_some, g8_looks aM rH wo.1 wS.2.1, b_some, b_some, e1, b_some, e2, b_some]
theorem Lu (L : Nat → Nat → Int64) (a b : Int64) : (va_up (va_up L 0 (vp_updL (vp_updL (L 0) 0 a) 1 b)) 1 (vp_updL (vp_updL (L 1) 0 a) 1 b)) 0 0 = (va_up (va_up L 0 (vp_updL (vp_updL (L 0) 0 a) 1 b)) 1 (vp_updL (vp_updL (L 1) 0 a) 1 b)) 1 0 ∧ (va_up (va_up L 0 (vp_updL (vp_updL (L 0) 0 a) 1 b)) 1 (vp_updL (vp_updL (L 1) 0 a) 1 b)) 0 1 = (va_up (va_up L 0 (vp_updL (vp_updL (L 0) 0 a) 1 b)) 1 (vp_updL (vp_updL (L 1) 0 a) 1 b)) 1 1 := ⟨rfl, rfl⟩
theorem op_odds (a : Inv B k h) (hk : k ≤ 64) (x : Int32) : Both B k h (fun h => f_X7_odds h B x) (fun h => f_X8_odds h (B + 239) x) := by
  obtain ⟨X, P, L, R, t, q, w, i⟩ := a
  obtain ⟨wo, ws, wt, rH, rs, rp⟩ := i.2.2.1
  by_cases c1 : x < 0 ∨ (X 1).1 3 - 1 < x
  · obtain ⟨h1, h2, e1, e2, o1, o2, iv, aM⟩ := inv_bad w i
    refine ⟨-2, h1, h2, ?_, ?_, o2, iv⟩
    · show f_X7_odds h B x = _
      rw [f_X7_odds, o1, b_some, ih_v w, b_some, if_pos c1, if_pos rfl, b_some, e1, b2_some]
    · show f_X8_odds h1 (B + 239) x = _
      rw [f_X8_odds, o2, b_some, ih8_v aM rH, b_some, if_pos c1, if_pos rfl, b_some, e2, b2_some]
  obtain ⟨i0, hi, rfl⟩ := ih_n wo.1 c1
  have hm := wo.1.2.1
  have aF := wd_fc w
  have te : EqS (X 1) (takeS (X 2) (X 6)) (X 2) := takeS_eq hm
  have tb : tB (X 1) i0 60 (takeS (X 2) (X 6)) = tB (X 1) i0 60 (X 2) := by
    funext e
    rw [tB, tB, (tillF_eq 60 0 te).1]
  obtain ⟨s', e⟩ := g_lucky (h := h) (b := B + 84) (bh := B + 1) (s := X 6) (g := X 7) (wd_ho w) (by omega) wo.1 (scN ws hk) hi
  have lv := luck_v hi wo.1 wo.2.2.1 60 25 0 (takeS (X 2) (X 6)) (by omega) ((scN ws hk).eq te.symm) ((ws.2.1.le (by omega)).eq te.symm)
  rw [nI_0, show nI 25 = 25 from rfl, Nat.zero_add, tb] at lv
  rw [aF.eq, lv] at e
  have ov := oddL_v (H := X 1) (i := i0) (s := X 2) 25 0
  rw [show nI (sumT (tB (X 1) i0 60 (X 2)) 0) = 0 from rfl, Nat.zero_add, Nat.zero_add] at ov
  have hv : sumT (tB (X 1) i0 60 (X 2)) 25 ≤ 25 := sumT_le (fun e => tB_le e) 25
  generalize hvv : sumT (tB (X 1) i0 60 (X 2)) 25 = v at e ov hv
  have w1 := wu_fc w s' (X 7)
  generalize hh1 : blk (B + 84) (fcL (B + 84) s' (X 7)) h = h1 at e w1
  have aL : At h1 B (flL B (X 0) (L 0)) := by
    have q := wd_fl w1
    exact q
  obtain ⟨g, -, f2, f3⟩ := frac_eq (h := h1) v hv
  have w2 := wu_fl w1 (X 0) (vp_updL (vp_updL (L 0) 0 ((nI v / g).toInt64)) 1 ((25 / g).toInt64))
  have p1 := fl_p12 (h := h1) (b := B) (g := X 0) (l := L 0) (x := (nI v / g).toInt64)
  rw [aL.eq] at p1
  have p2 := fl_p13 (h := h1) (b := B) (g := X 0) (l := vp_updL (L 0) 0 ((nI v / g).toInt64)) (x := (25 / g).toInt64)
  generalize hh2 : blk B (flL B (X 0) (vp_updL (vp_updL (L 0) 0 ((nI v / g).toInt64)) 1 ((25 / g).toInt64))) h1 = h2 at w2 p2
  have aM : At h2 (B + 239) (mdL (B + 239) (X 16) (L 1) (R 1)) := by
    have q := wd_md w2
    exact q
  obtain ⟨m1, e1, s1⟩ := g8_odds19 (h := h2) (b := B + 239) (l := L 1) (r := R 1) (i := i0) wo.1 (scN ws hk) ws.2.2 rH rs 25 1 lots 0 (X 16) (by omega) (by simp only [lots]; omega) (SmH.refl _)
  rw [aM.eq, ov, show nI 1 = 1 from rfl] at e1
  obtain ⟨g2, f4, f5, -⟩ := frac_eq (h := blk (B + 239) (mdL (B + 239) m1 (L 1) (R 1)) h2) v hv
  have hg : g2 = g := by rw [f2] at f5; exact (Option.some.inj f5).symm
  subst hg
  have w3 := wu_md w2 m1 (vp_updL (vp_updL (L 1) 0 ((nI v / g2).toInt64)) 1 ((25 / g2).toInt64)) (R 1)
  refine ⟨1, h2, _, ?_, ?_, md_o aM, ⟨_, _, _, _, _, q, w3, ?_⟩⟩
  · show f_X7_odds h B (nI i0) = _
    rw [f_X7_odds, fl_o (wd_fl w), b_some, ih_v w, b_some, if_neg c1, if_neg n10, fl_f6 (wd_fl w), b_some, fl_f0 (wd_fl w), b_some, fc_o aF, b_some, e, b2_some, f2, b_some, nz, if_neg f3, b_some, pJ, p1, b_some, b_some, pJ, p2, b_some]
  · show f_X8_odds h2 (B + 239) (nI i0) = _
    rw [f_X8_odds, md_o aM, b_some, ih8_v aM rH, b_some, if_neg c1, if_neg n10, e1, b2_some, md_o (blk_at _ _ _), b_some, f_X8_fraction, f4, b_some, nz, if_neg f3, b_some, pJ, md_p4, b_some, b_some, pJ, md_p5, b_some, b_some]
  · obtain ⟨i1, i2, i3, i4, i5, i6, i7, i8, i9⟩ := i.up.md s1.Q
    exact ⟨i1, i2, i3, i4, i5, i6, i7, i8, Lu L _ _⟩
end
