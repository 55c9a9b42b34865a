/-! ===== operations: door, seen, heir, house, type ===== -/
theorem by127 : ∀ c, c < 128 → vp_nar .byte (nI c).toInt8.toInt32 = nI c := by decide +kernel
section
variable {h : Hea} {b : Nat} {m : Blk} {l : Nat → Int64} {r : Nat → Nat → Int64}
theorem now_door {i j : Nat} {x : Int32} (hi : i < 8) (hj : j < 8) : f_X8_layDoor (blk b (mdL b m l r) h) (b + 1) (nI i) (nI j) x = some (blk b (mdL b (sB m 0 (upd (upd (m.2 0) (15 + 8 * i + j) x) (15 + 8 * j + i) x)) l r) h) := by
  have e := g8_door (rowNow (h := h) (b := b) (m := m) (l := l) (r := r)) (by omega) (f := m.2 0) (x := x) hi hj
  simp only [sB_self] at e
  exact e
theorem now_begin {e r' : Int32} : f_X8_begin (blk b (mdL b m l r) h) (b + 1) e r' = some (blk b (mdL b (sB m 0 (beginN (m.2 0) e r')) l r) h) := by
  have e := g8_begin (rowNow (h := h) (b := b) (m := m) (l := l) (r := r)) (by omega) (f := m.2 0) (e := e) (r := r')
  simp only [sB_self] at e
  exact e
theorem now_heir {c x p : Int32} {n : Nat} (h0 : m.2 0 0 = nI n) (hn : n < 6) : f_X8_layHeir (blk b (mdL b m l r) h) (b + 1) c x p = some (blk b (mdL b (sB m 0 (heirN (m.2 0) n c x p)) l r) h) := by
  have e := g8_layHeir (rowNow (h := h) (b := b) (m := m) (l := l) (r := r)) (by omega) (by omega) (f := m.2 0) (k := c) (r := x) (p := p) h0 hn
  simp only [sB_self] at e
  exact e
theorem now_w {f : Nat → Int32} {i : Nat} {x : Int32} (hi : i < 399) : stI (blk b (mdL b (sB m 0 f) l r) h) 0 (b + 1) (nI i) x = some (blk b (mdL b (sB m 0 (upd f i x)) l r) h) := (rowNow (h := h) (b := b) (m := m) (l := l) (r := r)).1 f i x hi
theorem now_m {f : Nat → Int32} {i : Nat} (hi : i < 399) : ldI (blk b (mdL b (sB m 0 f) l r) h) 0 (b + 1) (nI i) = some (f i) := (rowNow (h := h) (b := b) (m := m) (l := l) (r := r)).2 f i hi
end
theorem tx_w {h : Hea} {b : Nat} {g : Blk} {i : Nat} {x : Int32} (hi : i < 150) : stB (blk b (txL b g) h) b (nI i) x = some (blk b (txL b (sB g 0 (upd (g.2 0) i (vp_nar .byte x)))) h) := by
  have a := tx_k0 (blk_at b (txL b g) h)
  simp only [stB, a, true_and, if_pos (inR_nI hi (by decide)), nI_clamp (show i < 2 ^ 31 by omega)]
  rw [tx_b0]
section
variable {B k : Nat} {h : Hea}
theorem op_door (a : Inv B k h) (x y v : Int32) : Both B k h (fun h => f_X7_door h B x y v) (fun h => f_X8_door h (B + 239) x y v) := by
  obtain ⟨X, P, L, R, t, q, w, i⟩ := a
  obtain ⟨wo, ws, wt, rH, rs, rp⟩ := i.2.2.1
  by_cases c1 : x < 0 ∨ 7 < x
  · obtain ⟨h1, h2, e1, e2, o1, o2, iv, aM⟩ := inv_bad w i
    refine ⟨-2, h1, h2, ?_, ?_, o2, iv⟩
    · show f_X7_door h B x y v = _
      rw [f_X7_door, rm_v, b_some, if_pos c1, if_pos rfl, o1, b_some, e1, b2_some]
    · show f_X8_door h1 (B + 239) x y v = _
      rw [f_X8_door, rm8_v, b_some, if_pos c1, if_pos rfl, o2, b_some, e2, b2_some]
  by_cases c2 : y < 0 ∨ 7 < y
  · obtain ⟨h1, h2, e1, e2, o1, o2, iv, aM⟩ := inv_bad w i
    refine ⟨-2, h1, h2, ?_, ?_, o2, iv⟩
    · show f_X7_door h B x y v = _
      rw [f_X7_door, rm_v, b_some, if_neg c1, if_neg n10, rm_v, b_some, if_pos c2, if_pos rfl, o1, b_some, e1, b2_some]
    · show f_X8_door h1 (B + 239) x y v = _
      rw [f_X8_door, rm8_v, b_some, if_neg c1, if_neg n10, rm8_v, b_some, if_pos c2, if_pos rfl, o2, b_some, e2, b2_some]
  by_cases c3 : x = y
  · obtain ⟨h1, h2, e1, e2, o1, o2, iv, aM⟩ := inv_bad w i
    refine ⟨-2, h1, h2, ?_, ?_, o2, iv⟩
    · show f_X7_door h B x y v = _
      rw [f_X7_door, rm_v, b_some, if_neg c1, if_neg n10, rm_v, b_some, if_neg c2, if_neg n10, if_pos c3, o1, b_some, e1, b2_some]
    · show f_X8_door h1 (B + 239) x y v = _
      rw [f_X8_door, rm8_v, b_some, if_neg c1, if_neg n10, rm8_v, b_some, if_neg c2, if_neg n10, if_pos c3, o2, b_some, e2, b2_some]
  by_cases c4 : v < 1 ∨ 9 < v
  · obtain ⟨h1, h2, e1, e2, o1, o2, iv, aM⟩ := inv_bad w i
    refine ⟨-2, h1, h2, ?_, ?_, o2, iv⟩
    · show f_X7_door h B x y v = _
      rw [f_X7_door, rm_v, b_some, if_neg c1, if_neg n10, rm_v, b_some, if_neg c2, if_neg n10, if_neg c3, wi_v, b_some, if_pos c4, if_pos rfl, o1, b_some, e1, b2_some]
    · show f_X8_door h1 (B + 239) x y v = _
      rw [f_X8_door, rm8_v, b_some, if_neg c1, if_neg n10, rm8_v, b_some, if_neg c2, if_neg n10, if_neg c3, L01 v 1 9 1 9 rfl rfl, b_some, if_pos c4, if_pos rfl, o2, b_some, e2, b2_some]
  obtain ⟨i0, hi, rfl⟩ := wi_n (hi := 7) (by omega) c1
  obtain ⟨j0, hj, rfl⟩ := wi_n (hi := 7) (by omega) c2
  obtain ⟨v0, hv, rfl⟩ : ∃ T, T ≤ 9 ∧ v = nI T := wi_n (hi := 9) (by omega) (fun e => c4 (e.elim (fun e => Or.inl (Int32.lt_trans e (by decide))) Or.inr))
  have hne : ¬ i0 = j0 := fun e => c3 (by rw [e])
  have w1 := wu_ho w (sA (sA (X 1) 1 (i0 * 8 + j0) (nI v0)) 1 (j0 * 8 + i0) (nI v0)) (X 2)
  have p := g_hang (h := h) (b := B + 1) (H := X 1) (s := X 2) (i := i0) (j := j0) (x := nI v0) (by omega) (by omega)
  rw [(wd_ho w).eq] at p
  generalize hh1 : blk (B + 1) (hhL (B + 1) (sA (sA (X 1) 1 (i0 * 8 + j0) (nI v0)) 1 (j0 * 8 + i0) (nI v0)) (X 2)) h = h1 at w1 p
  have aM : At h1 (B + 239) (mdL (B + 239) (X 16) (L 1) (R 1)) := by
    have q := wd_md w1
    exact q
  have p2 := now_door (h := h1) (b := B + 239) (m := X 16) (l := L 1) (r := R 1) (i := i0) (j := j0) (x := nI v0) (by omega) (by omega)
  rw [aM.eq] at p2
  have w2 := wu_md w1 (sB (X 16) 0 (upd (upd ((X 16).2 0) (15 + 8 * i0 + j0) (nI v0)) (15 + 8 * j0 + i0) (nI v0))) (L 1) (R 1)
  obtain ⟨i1, i2, -, i4, i5, i6, i7, i8, i9⟩ := i.up
  refine ⟨(X 1).2 1 (i0 * 8 + j0), h1, _, ?_, ?_, md_o aM, ⟨_, _, _, _, _, q, w2, ⟨i1, i2, ?_, i4, i5, i6, i7, i8, i9⟩⟩⟩
  · show f_X7_door h B (nI i0) (nI j0) (nI v0) = _
    rw [f_X7_door, rm_v, b_some, if_neg c1, if_neg n10, rm_v, b_some, if_neg c2, if_neg n10, if_neg c3, wi_v, b_some, if_neg c4, if_neg n10, fl_f0 (wd_fl w), b_some, hh_o (wd_ho w), b_some, g_creaks (hh_ho (wd_ho w)) (by omega) (by omega), b_some, b_some, hh_o (wd_ho w), b_some, p, b_some]
  · show f_X8_door h1 (B + 239) (nI i0) (nI j0) (nI v0) = _
    rw [f_X8_door, rm8_v, b_some, if_neg c1, if_neg n10, rm8_v, b_some, if_neg c2, if_neg n10, if_neg c3, L01 (nI v0) 1 9 1 9 rfl rfl, b_some, if_neg c4, if_neg n10, md_o aM, b_some, g8_creaks aM rH (by omega) (by omega), b_some, md_f0 aM, b_some, p2, b_some]
  · exact (i.2.2.1.door (by omega) (by omega) hne hv).up
theorem op_seen (a : Inv B k h) (x y v : Int32) : Both B k h (fun h => f_X7_seen h B x y v) (fun h => f_X8_seen h (B + 239) x y v) := by
  obtain ⟨X, P, L, R, t, q, w, i⟩ := a
  obtain ⟨wo, ws, wt, rH, rs, rp⟩ := i.2.2.1
  have hs6 := wo.2.1.2
  by_cases c1 : x < 0 ∨ 7 < x
  · obtain ⟨h1, h2, e1, e2, o1, o2, iv, aM⟩ := inv_bad w i
    refine ⟨-2, h1, h2, ?_, ?_, o2, iv⟩
    · show f_X7_seen h B x y v = _
      rw [f_X7_seen, rm_v, b_some, if_pos c1, if_pos rfl, o1, b_some, e1, b2_some]
    · show f_X8_seen h1 (B + 239) x y v = _
      rw [f_X8_seen, rm8_v, b_some, if_pos c1, if_pos rfl, o2, b_some, e2, b2_some]
  by_cases c2 : y < 0 ∨ 12 < y
  · obtain ⟨h1, h2, e1, e2, o1, o2, iv, aM⟩ := inv_bad w i
    refine ⟨-2, h1, h2, ?_, ?_, o2, iv⟩
    · show f_X7_seen h B x y v = _
      rw [f_X7_seen, rm_v, b_some, if_neg c1, if_neg n10, wi_v, b_some, if_pos c2, if_pos rfl, o1, b_some, e1, b2_some]
    · show f_X8_seen h1 (B + 239) x y v = _
      rw [f_X8_seen, rm8_v, b_some, if_neg c1, if_neg n10, L01 y 0 12 0 12 rfl rfl, b_some, if_pos c2, if_pos rfl, o2, b_some, e2, b2_some]
  by_cases c3 : v < 0 ∨ 1 < v
  · obtain ⟨h1, h2, e1, e2, o1, o2, iv, aM⟩ := inv_bad w i
    refine ⟨-2, h1, h2, ?_, ?_, o2, iv⟩
    · show f_X7_seen h B x y v = _
      rw [f_X7_seen, rm_v, b_some, if_neg c1, if_neg n10, wi_v, b_some, if_neg c2, if_neg n10, wi_v, b_some, if_pos c3, if_pos rfl, o1, b_some, e1, b2_some]
    · show f_X8_seen h1 (B + 239) x y v = _
      rw [f_X8_seen, rm8_v, b_some, if_neg c1, if_neg n10, L01 y 0 12 0 12 rfl rfl, b_some, if_neg c2, if_neg n10, L01 v 0 1 0 1 rfl rfl, b_some, if_pos c3, if_pos rfl, o2, b_some, e2, b2_some]
  by_cases c4 : hS (X 1) = 6
  · obtain ⟨h1, h2, e1, e2, o1, o2, iv, aM⟩ := inv_full w i
    refine ⟨-4, h1, h2, ?_, ?_, o2, iv⟩
    · show f_X7_seen h B x y v = _
      rw [f_X7_seen, rm_v, b_some, if_neg c1, if_neg n10, wi_v, b_some, if_neg c2, if_neg n10, wi_v, b_some, if_neg c3, if_neg n10, fl_f0 (wd_fl w), b_some, hh_f10 (wd_ho w), b_some, wo.2.1.1, c4, if_neg (show ¬ nI 6 < 6 by decide), o1, b_some, e1, b2_some]
    · show f_X8_seen h1 (B + 239) x y v = _
      rw [f_X8_seen, rm8_v, b_some, if_neg c1, if_neg n10, L01 y 0 12 0 12 rfl rfl, b_some, if_neg c2, if_neg n10, L01 v 0 1 0 1 rfl rfl, b_some, if_neg c3, if_neg n10, md_f0 aM, b_some, ln_5 aM, b_some, rH.2.2.2.2.1, wo.2.1.1, c4, if_pos (show nI 6 = 6 from rfl), o2, b_some, e2, b2_some]
  have hst := i.2.2.1.seen (c := x) (r := y) (p := v) rfl (show hS (X 1) < 6 by omega)
  have p := g_witness (h := h) (b := B + 1) (H := X 1) (s := X 2) (k := x) (r := y) (p := v) wo.2.1.1 (show hS (X 1) < 6 by omega)
  rw [(wd_ho w).eq] at p
  have e5 : (X 1).1 4 = nI (hS (X 1)) := wo.2.1.1
  generalize hn : hS (X 1) = n0 at *
  have w1 := wu_ho w (sS (sA (sA (sA (X 1) 5 n0 x) 6 n0 y) 7 n0 v) 4 (nI (n0 + 1))) (X 2)
  generalize hh1 : blk (B + 1) (hhL (B + 1) (sS (sA (sA (sA (X 1) 5 n0 x) 6 n0 y) 7 n0 v) 4 (nI (n0 + 1))) (X 2)) h = h1 at w1 p
  have aM : At h1 (B + 239) (mdL (B + 239) (X 16) (L 1) (R 1)) := by
    have q := wd_md w1
    exact q
  have w2 := wu_md w1 (sB (X 16) 0 (upd (upd (upd (upd ((X 16).2 0) (133 + 3 * n0) x) (133 + 3 * n0 + 1) y) (133 + 3 * n0 + 2) v) 5 (nI (n0 + 1)))) (L 1) (R 1)
  have q1 := now_w (h := h1) (b := B + 239) (m := X 16) (l := L 1) (r := R 1) (f := (X 16).2 0) (i := 133 + 3 * n0) (x := x) (by omega)
  rw [sB_self, aM.eq] at q1
  have q4 := now_w (h := h1) (b := B + 239) (m := X 16) (l := L 1) (r := R 1) (f := upd (upd (upd ((X 16).2 0) (133 + 3 * n0) x) (133 + 3 * n0 + 1) y) (133 + 3 * n0 + 2) v) (i := 5) (x := nI (n0 + 1)) (by omega)
  rw [show nI 5 = 5 from rfl] at q4
  have q5 := now_m (h := h1) (b := B + 239) (m := X 16) (l := L 1) (r := R 1) (f := upd (upd (upd ((X 16).2 0) (133 + 3 * n0) x) (133 + 3 * n0 + 1) y) (133 + 3 * n0 + 2) v) (i := 5) (by omega)
  rw [show nI 5 = 5 from rfl, show (upd (upd (upd ((X 16).2 0) (133 + 3 * n0) x) (133 + 3 * n0 + 1) y) (133 + 3 * n0 + 2) v) 5 = nI n0 by simp only [upd]; rw [if_neg (by omega), if_neg (by omega), if_neg (by omega), rH.2.2.2.2.1, e5]] at q5
  have q6 := now_m (h := h1) (b := B + 239) (m := X 16) (l := L 1) (r := R 1) (f := upd (upd (upd (upd ((X 16).2 0) (133 + 3 * n0) x) (133 + 3 * n0 + 1) y) (133 + 3 * n0 + 2) v) 5 (nI (n0 + 1))) (i := 5) (by omega)
  rw [show nI 5 = 5 from rfl, show (upd (upd (upd (upd ((X 16).2 0) (133 + 3 * n0) x) (133 + 3 * n0 + 1) y) (133 + 3 * n0 + 2) v) 5 (nI (n0 + 1))) 5 = nI (n0 + 1) from rfl] at q6
  obtain ⟨i1, i2, -, i4, i5, i6, i7, i8, i9⟩ := i.up
  have x0 : (133 : Int32) + 3 * nI n0 = nI (133 + 3 * n0) := by rw [show (133 : Int32) = nI 133 from rfl, show (3 : Int32) = nI 3 from rfl, pk_mul, nI_add]
  have x1 : nI (133 + 3 * n0) + 1 = nI (133 + 3 * n0 + 1) := nI_add _ 1
  have x2 : nI (133 + 3 * n0) + 2 = nI (133 + 3 * n0 + 2) := nI_add _ 2
  refine ⟨nI (n0 + 1), h1, _, ?_, ?_, md_o aM, ⟨_, _, _, _, _, q, w2, ⟨i1, i2, hst.up, i4, i5, i6, i7, i8, i9⟩⟩⟩
  · show f_X7_seen h B x y v = _
    rw [f_X7_seen, rm_v, b_some, if_neg c1, if_neg n10, wi_v, b_some, if_neg c2, if_neg n10, wi_v, b_some, if_neg c3, if_neg n10, fl_f0 (wd_fl w), b_some, hh_f10 (wd_ho w), b_some, e5, if_pos (show nI n0 < (6 : Int32) from nI_lt (b := 6) (by omega) (by omega)), b_some, hh_o (wd_ho w), b_some, p, b2_some]
  · show f_X8_seen h1 (B + 239) x y v = _
    rw [f_X8_seen, rm8_v, b_some, if_neg c1, if_neg n10, L01 y 0 12 0 12 rfl rfl, b_some, if_neg c2, if_neg n10, L01 v 0 1 0 1 rfl rfl, b_some, if_neg c3, if_neg n10, md_f0 aM, b_some, ln_5 aM, b_some, rH.2.2.2.2.1, e5, if_neg (show ¬ nI n0 = 6 from fun e => c4 ((nI_eq (b := 6) (by omega) (by omega)).mp e)), b_some, ln_5 aM, b_some, rH.2.2.2.2.1, e5, b_some, x0, q1, b_some, md_f0 (blk_at _ _ _), b_some, x1, now_w (by omega), b_some, md_f0 (blk_at _ _ _), b_some, x2, now_w (by omega), b_some, md_f0 (blk_at _ _ _), b_some, q5, b_some, nI_1, q4, b_some, md_f0 (blk_at _ _ _), b_some, q6, b_some]
theorem op_heir (a : Inv B k h) (x y v : Int32) : Both B k h (fun h => f_X7_heir h B x y v) (fun h => f_X8_heir h (B + 239) x y v) := by
  obtain ⟨X, P, L, R, t, q, w, i⟩ := a
  obtain ⟨wo, ws, wt, rH, rs, rp⟩ := i.2.2.1
  have hm6 := wo.1.2.1
  by_cases c1 : x < 0 ∨ 5 < x
  · obtain ⟨h1, h2, e1, e2, o1, o2, iv, aM⟩ := inv_bad w i
    refine ⟨-2, h1, h2, ?_, ?_, o2, iv⟩
    · show f_X7_heir h B x y v = _
      rw [f_X7_heir, wi_v, b_some, if_pos c1, if_pos rfl, o1, b_some, e1, b2_some]
    · show f_X8_heir h1 (B + 239) x y v = _
      rw [f_X8_heir, L01 x 0 5 0 5 rfl rfl, b_some, if_pos c1, if_pos rfl, o2, b_some, e2, b2_some]
  by_cases c2 : y < 0 ∨ 7 < y
  · obtain ⟨h1, h2, e1, e2, o1, o2, iv, aM⟩ := inv_bad w i
    refine ⟨-2, h1, h2, ?_, ?_, o2, iv⟩
    · show f_X7_heir h B x y v = _
      rw [f_X7_heir, wi_v, b_some, if_neg c1, if_neg n10, rm_v, b_some, if_pos c2, if_pos rfl, o1, b_some, e1, b2_some]
    · show f_X8_heir h1 (B + 239) x y v = _
      rw [f_X8_heir, L01 x 0 5 0 5 rfl rfl, b_some, if_neg c1, if_neg n10, rm8_v, b_some, if_pos c2, if_pos rfl, o2, b_some, e2, b2_some]
  by_cases c3 : v < 0 ∨ 9 < v
  · obtain ⟨h1, h2, e1, e2, o1, o2, iv, aM⟩ := inv_bad w i
    refine ⟨-2, h1, h2, ?_, ?_, o2, iv⟩
    · show f_X7_heir h B x y v = _
      rw [f_X7_heir, wi_v, b_some, if_neg c1, if_neg n10, rm_v, b_some, if_neg c2, if_neg n10, wi_v, b_some, if_pos c3, if_pos rfl, o1, b_some, e1, b2_some]
    · show f_X8_heir h1 (B + 239) x y v = _
      rw [f_X8_heir, L01 x 0 5 0 5 rfl rfl, b_some, if_neg c1, if_neg n10, rm8_v, b_some, if_neg c2, if_neg n10, L01 v 0 9 0 9 rfl rfl, b_some, if_pos c3, if_pos rfl, o2, b_some, e2, b2_some]
  by_cases c4 : hM (X 1) = 6
  · obtain ⟨h1, h2, e1, e2, o1, o2, iv, aM⟩ := inv_full w i
    refine ⟨-4, h1, h2, ?_, ?_, o2, iv⟩
    · show f_X7_heir h B x y v = _
      rw [f_X7_heir, wi_v, b_some, if_neg c1, if_neg n10, rm_v, b_some, if_neg c2, if_neg n10, wi_v, b_some, if_neg c3, if_neg n10, fl_f0 (wd_fl w), b_some, hh_f6 (wd_ho w), b_some, wo.1.1, c4, if_neg (show ¬ nI 6 < 6 by decide), o1, b_some, e1, b2_some]
    · show f_X8_heir h1 (B + 239) x y v = _
      rw [f_X8_heir, L01 x 0 5 0 5 rfl rfl, b_some, if_neg c1, if_neg n10, rm8_v, b_some, if_neg c2, if_neg n10, L01 v 0 9 0 9 rfl rfl, b_some, if_neg c3, if_neg n10, o2, b_some, g8_heirs aM, b_some, rH.1, wo.1.1, c4, if_pos (show nI 6 = 6 from rfl), b_some, e2, b2_some]
  obtain ⟨c0, hc0, rfl⟩ := wi_n (hi := 5) (by omega) c1
  obtain ⟨r0, hr0, rfl⟩ := wi_n (hi := 7) (by omega) c2
  obtain ⟨v0, hv0, rfl⟩ := wi_n (hi := 9) (by omega) c3
  have e3 : (X 1).1 3 = nI (hM (X 1)) := wo.1.1
  have w0 := wu_pa w (0, (P 0).2.1, (P 0).2.2)
  have p0 := past_size (h := h) (p := B + 16) (z := (P 0).1) (f := (P 0).2.1) (S := (P 0).2.2) (z' := 0)
  rw [(wd_pa w).eq, nI_0] at p0
  generalize hh0 : blk (B + 16) (pastL (B + 16) 0 (P 0).2.1 (P 0).2.2) h = h0 at w0 p0
  have aH : At h0 (B + 1) (hhL (B + 1) (X 1) (X 2)) := by
    have q := wd_ho w0
    exact q
  have aL : At h0 B (flL B (X 0) (L 0)) := by
    have q := wd_fl w0
    exact q
  have p1 := g_bring (h := h0) (b := B + 1) (H := X 1) (s := X 2) (k := nI c0) (r := nI r0) (p := nI v0) e3 (show hM (X 1) < 6 by omega)
  rw [aH.eq] at p1
  have hst := i.2.2.1.heir (T' := fun i => (P 0).2.2 (q 0 i)) (N' := upd (heirN ((X 16).2 0) (hM (X 1)) (nI c0) (nI r0) (nI v0)) 6 0) (c := c0) (r := r0) (p := v0) rfl (by omega) (by omega) hv0 (fun q h1 h2 => by simp only [upd]; rw [if_neg h2]) rfl
  generalize hn : hM (X 1) = n0 at *
  have w1 := wu_ho w0 (sS (sA (sA (X 1) 3 n0 (nI c0)) 4 n0 (nI v0)) 3 (nI (n0 + 1))) (sA (sA (sA (sA (sA (X 2) 0 n0 (nI r0)) 1 n0 0) 2 n0 0) 3 n0 (-1)) 4 n0 0)
  generalize hh1 : blk (B + 1) (hhL (B + 1) (sS (sA (sA (X 1) 3 n0 (nI c0)) 4 n0 (nI v0)) 3 (nI (n0 + 1))) (sA (sA (sA (sA (sA (X 2) 0 n0 (nI r0)) 1 n0 0) 2 n0 0) 3 n0 (-1)) 4 n0 0)) h0 = h1 at w1 p1
  have aM : At h1 (B + 239) (mdL (B + 239) (X 16) (L 1) (R 1)) := by
    have q := wd_md w1
    exact q
  have p2 := now_heir (h := h1) (b := B + 239) (m := X 16) (l := L 1) (r := R 1) (c := nI c0) (x := nI r0) (p := nI v0) (n := n0) (by rw [rH.1, e3]) (by omega)
  rw [aM.eq] at p2
  have q4 := now_w (h := h1) (b := B + 239) (m := X 16) (l := L 1) (r := R 1) (f := heirN ((X 16).2 0) n0 (nI c0) (nI r0) (nI v0)) (i := 6) (x := 0) (by omega)
  rw [show nI 6 = 6 from rfl] at q4
  have w2 := wu_md w1 (sB (X 16) 0 (upd (heirN ((X 16).2 0) n0 (nI c0) (nI r0) (nI v0)) 6 0)) (L 1) (R 1)
  obtain ⟨i1, i2, -, i4, i5, i6, i7, i8, i9⟩ := i.up
  have z0 : (sB (X 16) 0 (upd (heirN ((X 16).2 0) n0 (nI c0) (nI r0) (nI v0)) 6 0)).2 0 0 = nI (n0 + 1) := rfl
  have x1 : nI (n0 + 1) - 1 = nI n0 := nI_pred n0
  refine ⟨nI n0, h1, _, ?_, ?_, md_o aM, ⟨_, _, _, _, _, q, w2, ⟨i1, ⟨Nat.zero_le _, i2.2⟩, hst.up, i4, i5, i6, i7, i8, i9⟩⟩⟩
  · show f_X7_heir h B (nI c0) (nI r0) (nI v0) = _
    rw [f_X7_heir, wi_v, b_some, if_neg c1, if_neg n10, rm_v, b_some, if_neg c2, if_neg n10, wi_v, b_some, if_neg c3, if_neg n10, fl_f0 (wd_fl w), b_some, hh_f6 (wd_ho w), b_some, e3, if_pos (show nI n0 < (6 : Int32) from nI_lt (b := 6) (by omega) (by omega)), fl_f1 (wd_fl w), b_some, pI, p0, b_some, fl_f0 aL, b_some, hh_o aH, b_some, p1, b2_some]
  · show f_X8_heir h1 (B + 239) (nI c0) (nI r0) (nI v0) = _
    rw [f_X8_heir, L01 (nI c0) 0 5 0 5 rfl rfl, b_some, if_neg c1, if_neg n10, rm8_v, b_some, if_neg c2, if_neg n10, L01 (nI v0) 0 9 0 9 rfl rfl, b_some, if_neg c3, if_neg n10, md_o aM, b_some, g8_heirs aM, b_some, rH.1, e3, if_neg (show ¬ nI n0 = 6 from fun e => c4 ((nI_eq (b := 6) (by omega) (by omega)).mp e)), md_f0 aM, b_some, p2, b_some, md_f0 (blk_at _ _ _), b_some, q4, b_some, md_o (blk_at _ _ _), b_some, g8_heirs (blk_at _ _ _), b_some, z0, x1]
theorem op_house (a : Inv B k h) (x y : Int32) : Both B k h (fun h => f_X7_house h B x y) (fun h => f_X8_house h (B + 239) x y) := by
  obtain ⟨X, P, L, R, t, q, w, i⟩ := a
  obtain ⟨wo, ws, wt, rH, rs, rp⟩ := i.2.2.1
  by_cases c1 : x < 0 ∨ 25 < x
  · obtain ⟨h1, h2, e1, e2, o1, o2, iv, aM⟩ := inv_bad w i
    refine ⟨-2, h1, h2, ?_, ?_, o2, iv⟩
    · show f_X7_house h B x y = _
      rw [f_X7_house, wi_v, b_some, if_pos c1, if_pos rfl, o1, b_some, e1, b2_some]
    · show f_X8_house h1 (B + 239) x y = _
      rw [f_X8_house, L01 x 0 25 0 25 rfl rfl, b_some, if_pos c1, if_pos rfl, o2, b_some, e2, b2_some]
  by_cases c2 : y < 0 ∨ 25 < y
  · obtain ⟨h1, h2, e1, e2, o1, o2, iv, aM⟩ := inv_bad w i
    refine ⟨-2, h1, h2, ?_, ?_, o2, iv⟩
    · show f_X7_house h B x y = _
      rw [f_X7_house, wi_v, b_some, if_neg c1, if_neg n10, wi_v, b_some, if_pos c2, if_pos rfl, o1, b_some, e1, b2_some]
    · show f_X8_house h1 (B + 239) x y = _
      rw [f_X8_house, L01 x 0 25 0 25 rfl rfl, b_some, if_neg c1, if_neg n10, L01 y 0 25 0 25 rfl rfl, b_some, if_pos c2, if_pos rfl, o2, b_some, e2, b2_some]
  obtain ⟨x0, hx, rfl⟩ := wi_n (hi := 25) (by omega) c1
  obtain ⟨y0, hy, rfl⟩ := wi_n (hi := 25) (by omega) c2
  have w0 := wu_ho w (beginH (X 1) (nI x0) (nI y0)) (sS (X 2) 0 0)
  have p0 := g_restart (h := h) (b := B + 1) (H := X 1) (s := X 2) (e := nI x0) (r := nI y0)
  rw [(wd_ho w).eq] at p0
  generalize hh0 : blk (B + 1) (hhL (B + 1) (beginH (X 1) (nI x0) (nI y0)) (sS (X 2) 0 0)) h = h0 at w0 p0
  have aL : At h0 B (flL B (X 0) (L 0)) := by
    have q := wd_fl w0
    exact q
  have aP : At h0 (B + 16) (pastL (B + 16) (P 0).1 (P 0).2.1 (P 0).2.2) := by
    have q := wd_pa w0
    exact q
  have p1 := past_size (h := h0) (p := B + 16) (z := (P 0).1) (f := (P 0).2.1) (S := (P 0).2.2) (z' := 0)
  rw [aP.eq, nI_0] at p1
  have w1 := wu_pa w0 (0, (P 0).2.1, (P 0).2.2)
  generalize hh1 : blk (B + 16) (pastL (B + 16) 0 (P 0).2.1 (P 0).2.2) h0 = h1 at w1 p1
  have aM : At h1 (B + 239) (mdL (B + 239) (X 16) (L 1) (R 1)) := by
    have q := wd_md w1
    exact q
  have p2 := now_begin (h := h1) (b := B + 239) (m := X 16) (l := L 1) (r := R 1) (e := nI x0) (r' := nI y0)
  rw [aM.eq] at p2
  have w2 := wu_md w1 (sB (X 16) 0 (beginN ((X 16).2 0) (nI x0) (nI y0))) (L 1) (R 1)
  obtain ⟨i1, i2, -, i4, i5, i6, i7, i8, i9⟩ := i.up
  refine ⟨(X 1).1 3, h1, _, ?_, ?_, md_o aM, ⟨_, _, _, _, _, q, w2, ⟨i1, ⟨Nat.zero_le _, i2.2⟩, ST.begin hy, i4, i5, i6, i7, i8, i9⟩⟩⟩
  · show f_X7_house h B (nI x0) (nI y0) = _
    rw [f_X7_house, wi_v, b_some, if_neg c1, if_neg n10, wi_v, b_some, if_neg c2, if_neg n10, fl_f0 (wd_fl w), b_some, hh_f6 (wd_ho w), b_some, b_some, hh_o (wd_ho w), b_some, p0, b_some, fl_f1 aL, b_some, pI, p1, b_some]
  · show f_X8_house h1 (B + 239) (nI x0) (nI y0) = _
    rw [f_X8_house, L01 (nI x0) 0 25 0 25 rfl rfl, b_some, if_neg c1, if_neg n10, L01 (nI y0) 0 25 0 25 rfl rfl, b_some, if_neg c2, if_neg n10, md_o aM, b_some, g8_heirs aM, b_some, md_f0 aM, b_some, p2, b_some, rH.1]
theorem op_type (a : Inv B k h) (x : Int32) : Both B k h (fun h => f_X7_type h B x) (fun h => f_X8_type h (B + 239) x) := by
  obtain ⟨X, P, L, R, t, q, w, i⟩ := a
  obtain ⟨t1, n0, hn, tn, tv⟩ := i.2.2.2.2.2.2.2.1
  by_cases c1 : x < 0 ∨ 127 < x
  · obtain ⟨h1, h2, e1, e2, o1, o2, iv, aM⟩ := inv_bad w i
    refine ⟨-2, h1, h2, ?_, ?_, o2, iv⟩
    · show f_X7_type h B x = _
      rw [f_X7_type, wi_v, b_some, if_pos c1, if_pos rfl, o1, b_some, e1, b2_some]
    · show f_X8_type h1 (B + 239) x = _
      rw [f_X8_type, L01 x 0 127 0 127 rfl rfl, b_some, if_pos c1, if_pos rfl, o2, b_some, e2, b2_some]
  by_cases c2 : n0 = 150
  · obtain ⟨h1, h2, e1, e2, o1, o2, iv, aM⟩ := inv_full w i
    refine ⟨-4, h1, h2, ?_, ?_, o2, iv⟩
    · show f_X7_type h B x = _
      rw [f_X7_type, wi_v, b_some, if_neg c1, if_neg n10, fl_f11 (wd_fl w), b_some, tn, c2, if_neg (show ¬ nI 150 < 150 by decide), o1, b_some, e1, b2_some]
    · show f_X8_type h1 (B + 239) x = _
      rw [f_X8_type, L01 x 0 127 0 127 rfl rfl, b_some, if_neg c1, if_neg n10, md_f20 aM, b_some, t1, tn, c2, if_pos (show nI 150 = 150 from rfl), o2, b_some, e2, b2_some]
  obtain ⟨x0, hx, rfl⟩ := wi_n (hi := 127) (by omega) c1
  have w0 := wu_tx w (sB (X 11) 0 (upd ((X 11).2 0) n0 (nI x0)))
  have p0 := tx_w (h := h) (b := B + 108) (g := X 11) (i := n0) (x := (nI x0).toInt8.toInt32) (by omega)
  rw [(show At h (B + 108) (txL (B + 108) (X 11)) from wd_tx w).eq, by127 x0 (by omega)] at p0
  generalize hh0 : blk (B + 108) (txL (B + 108) (sB (X 11) 0 (upd ((X 11).2 0) n0 (nI x0)))) h = h0 at w0 p0
  have aL : At h0 B (flL B (X 0) (L 0)) := by
    have q := wd_fl w0
    exact q
  have w1 := wu_fl w0 (sS (X 0) 0 (nI (n0 + 1))) (L 0)
  have p1 := fl_p11 (h := h0) (b := B) (g := X 0) (l := L 0) (x := nI (n0 + 1))
  rw [aL.eq] at p1
  generalize hh1 : blk B (flL B (sS (X 0) 0 (nI (n0 + 1))) (L 0)) h0 = h1 at w1 p1
  have aL1 : At h1 B (flL B (sS (X 0) 0 (nI (n0 + 1))) (L 0)) := by
    have q := wd_fl w1
    exact q
  have aM : At h1 (B + 239) (mdL (B + 239) (X 16) (L 1) (R 1)) := by
    have q := wd_md w1
    exact q
  have p2 := md_w16 (h := h1) (b := B + 239) (s := X 16) (l := L 1) (r := R 1) (i := n0) (x := nI x0) (by omega)
  rw [aM.eq] at p2
  have p3 := md_p20 (h := h1) (b := B + 239) (s := sA (X 16) 13 n0 (nI x0)) (l := L 1) (r := R 1) (x := nI (n0 + 1))
  have w2 := wu_md w1 (sS (sA (X 16) 13 n0 (nI x0)) 2 (nI (n0 + 1))) (L 1) (R 1)
  obtain ⟨i1, i2, i3, i4, i5, i6, i7, i8, i9⟩ := i.up
  refine ⟨nI (n0 + 1), h1, _, ?_, ?_, md_o aM, ⟨_, _, _, _, _, q, w2, ⟨i1, i2, i3, i4, i5, i6, i7, ⟨rfl, n0 + 1, by omega, rfl, ?_⟩, i9⟩⟩⟩
  · show f_X7_type h B (nI x0) = _
    rw [f_X7_type, wi_v, b_some, if_neg c1, if_neg n10, fl_f11 (wd_fl w), b_some, tn, if_pos (show nI n0 < (150 : Int32) from nI_lt (b := 150) (by omega) (by omega)), fl_f10 (wd_fl w), b_some, b_some, p0, b_some, fl_f11 aL, b_some, tn, nI_1, pI, p1, b_some, fl_f11 aL1, b_some]
    rfl
  · show f_X8_type h1 (B + 239) (nI x0) = _
    rw [f_X8_type, L01 (nI x0) 0 127 0 127 rfl rfl, b_some, if_neg c1, if_neg n10, md_f20 aM, b_some, t1, tn, if_neg (show ¬ nI n0 = 150 from fun e => c2 ((nI_eq (b := 150) (by omega) (by omega)).mp e)), md_f19 aM, b_some, b_some, p2, b_some, md_f20 (blk_at _ _ _), b_some, sA_1, t1, tn, nI_1, pI, p3, b_some, md_f20 (blk_at _ _ _), b_some]
    rfl
  · intro j hj
    show (sB (X 11) 0 (upd ((X 11).2 0) n0 (nI x0))).2 0 j = (sA (X 16) 13 n0 (nI x0)).2 13 j ∧ inR ((sA (X 16) 13 n0 (nI x0)).2 13 j) 128 = true
    rw [sA_2, sB_2, if_pos rfl, upd_v]
    by_cases e : j = n0
    · subst e
      rw [if_pos rfl, if_pos ⟨rfl, rfl⟩]
      exact ⟨rfl, inR_nI (by omega) (by omega)⟩
    · rw [if_neg e, if_neg (fun c => e c.2)]
      exact tv j (by omega)
end
