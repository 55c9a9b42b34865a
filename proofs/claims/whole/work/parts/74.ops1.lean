/-! ===== operations: what is foreseen ===== -/
/-- what the invariant reads of the reference is as before -/
def SmQ (m m' : Blk) : Prop := m'.1 2 = m.1 2 ∧ (∀ j, j < 4 → m'.2 j = m.2 j) ∧ m'.2 13 = m.2 13
theorem SmH.Q {m m' : Blk} (a : SmH m m') : SmQ m m' := ⟨a.1 2 (by omega), fun j hj => a.2 j (by omega), a.2 13 (by omega)⟩
theorem SmP.Q {m m' : Blk} (a : SmP m m') : SmQ m m' := ⟨a.1 2 (by omega), fun j hj => a.2 j (by omega), a.2 13 (by omega)⟩
theorem SmQ.refl (m : Blk) : SmQ m m := ⟨rfl, fun _ _ => rfl, rfl⟩
theorem SmQ.trans {m m' m'' : Blk} (a : SmQ m m') (c : SmQ m' m'') : SmQ m m'' := ⟨c.1.trans a.1, fun j hj => (c.2.1 j hj).trans (a.2.1 j hj), c.2.2.trans a.2.2⟩
theorem WX.Q {i : Nat} {m m' : Blk} (a : WX i m m') : SmQ m m' := ⟨by rw [a.1], fun j hj => a.2.1 j (by omega), a.2.1 13 (by omega)⟩
section
variable {B k : Nat} {h : Hea} {X : Nat → Blk} {P : Nat → Pst} {L : Nat → Nat → Int64} {R : Nat → Nat → Nat → Int64} {t : Nat} {q : Nat → Nat → Nat}
theorem InvX.md {m' : Blk} (i : InvX B k X P L q) (s : SmQ (X 16) m') : InvX B k (va_up X 16 m') P L q := by
  obtain ⟨i1, i2, i3, i4, i5, i6, i7, i8, i9⟩ := i
  have r0 := s.2.1 0 (by omega)
  have r1 := s.2.1 1 (by omega)
  have r2 := s.2.1 2 (by omega)
  have r3 := s.2.1 3 (by omega)
  refine ⟨i1, i2, ?_, ?_, ?_, ?_, ?_, ?_, i9⟩
  · show ST k (X 1) (X 2) (P 0).1 _ (m'.2 0)
    rw [r0]; exact i3
  · show (X 5).2 0 0 = m'.2 2 0 ∧ (X 5).2 0 1 = m'.2 2 1
    rw [r2]; exact i4
  · show ¬ (X 5).2 0 0 = 0 → ST k (X 12) (X 13) (P 1).1 _ (fun j => m'.2 1 j)
    rw [r1]; exact i5
  · show ¬ (X 5).2 0 1 = 0 → ST k (X 14) (X 15) (P 2).1 _ (fun j => m'.2 1 (399 + j))
    rw [r1]; exact i6
  · show m'.2 3 0 = (X 0).1 1 ∧ m'.2 3 1 = (X 0).1 2 ∧ m'.2 3 2 = (X 0).1 3
    rw [r3]; exact i7
  · show m'.1 2 = (X 0).1 0 ∧ ∃ n, n ≤ 150 ∧ (X 0).1 0 = nI n ∧ ∀ j, j < n → (X 11).2 0 j = m'.2 13 j ∧ inR (m'.2 13 j) 128 = true
    rw [s.1, s.2.2]; exact i8
/-- the reference went on, and only its own scratch changed -/
theorem inv_q {m' : Blk} {r' : Nat → Nat → Int64} (w : Wd B X P L R t h) (i : InvX B k X P L q) (s : SmQ (X 16) m') : Inv B k (blk (B + 239) (mdL (B + 239) m' (L 1) r') h) := ⟨_, _, _, _, _, q, wu_md w m' (L 1) r', i.md s⟩
theorem scN {H s : Blk} (w : scW k H s) (hk : k ≤ 64) : wfN H s 60 := w.1.le (by omega)
theorem op_first (a : Inv B k h) (hk : k ≤ 64) (x : Int32) : Both B k h (fun h => f_X7_first h B x) (fun h => f_X8_first h (B + 239) x) := by
  obtain ⟨X, P, L, R, t, q, w, i⟩ := a
  by_cases hx : x < 0 ∨ 1 < x
  · obtain ⟨h1, h2, e1, e2, o1, o2, iv, -⟩ := inv_bad w i
    refine ⟨-2, h1, h2, ?_, ?_, o2, iv⟩
    · show f_X7_first h B x = _
      rw [f_X7_first, wi_v, b_some, if_pos hx, if_pos rfl, o1, b_some, e1, b2_some]
    · show f_X8_first h1 (B + 239) x = _
      rw [f_X8_first, show (0 : Int64) = (0 : Int32).toInt64 from rfl, show (1 : Int64) = (1 : Int32).toInt64 from rfl, in_v, b_some, if_pos hx, if_pos rfl, o2, b_some, e2, b2_some]
  · obtain ⟨wo, ws, wt, rH, rs, rp⟩ := i.2.2.1
    have aF := wd_fc w
    have e := g_first (h := h) (b := B + 84) (bh := B + 1) (s := X 6) (g := X 7) (wd_ho w) (by omega) wo.1 (scN ws hk)
    rw [aF.eq] at e
    have te := tillF_eq (H := X 1) (ey := (X 1).1 0) 60 0 (takeS_eq (H := X 1) (s := X 2) (t := X 6) wo.1.2.1)
    rw [te.1] at e
    have w1 := wu_fc w (tillF (X 1) ((X 1).1 0) 60 0 (takeS (X 2) (X 6))).2 (X 7)
    generalize hh1 : blk (B + 84) (fcL (B + 84) (tillF (X 1) ((X 1).1 0) 60 0 (takeS (X 2) (X 6))).2 (X 7)) h = h1 at e w1
    have aM : At h1 (B + 239) (mdL (B + 239) (X 16) (L 1) (R 1)) := by
      have q := wd_md w1
      exact q
    have aL : At h1 B (flL B (X 0) (L 0)) := by
      have q := wd_fl w1
      exact q
    have aF1 : At h1 (B + 84) (fcL (B + 84) (tillF (X 1) ((X 1).1 0) 60 0 (takeS (X 2) (X 6))).2 (X 7)) := by
      have q := wd_fc w1
      exact q
    obtain ⟨m1, c1, d1, s1, y1⟩ := g8_hand (h := h1) (b := B + 239) (l := L 1) (r := R 1) wo.1 rH rs
    rw [aM.eq] at c1
    obtain ⟨m2, c2, d2, s2⟩ := g8_till (h := h1) (b := B + 239) (l := L 1) (r := R 1) wo.1 (scN ws hk) ws.2.2 (by rw [s1.now]; exact rH) d1 y1
    refine ⟨if (tillF (X 1) ((X 1).1 0) 60 0 (X 2)).1 = 0 then -1 else if x = 0 then (tillF (X 1) ((X 1).1 0) 60 0 (X 2)).2.1 0 - 1 else (tillF (X 1) ((X 1).1 0) 60 0 (X 2)).1, h1, _, ?_, ?_, md_o aM, inv_q (r' := R 1) w1 i.up ((s1.trans s2).Q)⟩
    · show f_X7_first h B x = _
      rw [f_X7_first, wi_v, b_some, if_neg hx, if_neg (show ¬ (1 : Int32) = 0 by decide), fl_f6 (wd_fl w), b_some, fl_f0 (wd_fl w), b_some, fc_o aF, b_some, e, b2_some, fl_f6 aL, b_some, fc_f0 aF1, b_some, fc_f1_0 aF1, b_some, te.2.1]
      split
      · rfl
      · split <;> rfl
    · show f_X8_first h1 (B + 239) x = _
      rw [f_X8_first, show (0 : Int64) = (0 : Int32).toInt64 from rfl, show (1 : Int64) = (1 : Int32).toInt64 from rfl, in_v, b_some, if_neg hx, if_neg (show ¬ (1 : Int32) = 0 by decide), md_o aM, b_some, c1, b_some, md_o (blk_at _ _ _), b_some, c2, b2_some, md_f6 (blk_at _ _ _), b_some, d2.1]
      split
      · rfl
      · split <;> rfl
end
