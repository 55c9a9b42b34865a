/-! ===== operations: move, night, undo ===== -/
theorem scW.eq {k : Nat} {H s t : Blk} (a : scW k H s) (e : EqS H s t) : scW k H t := ⟨a.1.eq e, a.2.1.eq e, a.2.2.eq e⟩
theorem sA_now (m : Blk) (j i : Nat) (x : Int32) : sA m j i x = sB m j (upd (m.2 j) i x) := by
  have e := sA_sB m j i (m.2 j) x
  rw [sB_self] at e
  exact e
section
variable {k z : Nat} {H s : Blk} {T : Nat → Blk} {N : Nat → Int32}
theorem hR.lo {N' : Nat → Int32} (wo : hoW H) (a : hR H N) (e : ∀ q, q < 151 → ¬ q = 6 → N' q = N q) : hR H N' := by
  have h1 := wo.1.2.1
  have h2 := wo.1.2.2.2.2
  have h3 := wo.2.1.2
  refine ⟨?_, ?_, ?_, ?_, ?_, fun q hq => ?_, fun q hq => ?_, fun q hq => ?_, fun q hq => ?_, fun q hq => ?_⟩
  · rw [e _ (by omega) (by omega)]; exact a.1
  · rw [e _ (by omega) (by omega)]; exact a.2.1
  · rw [e _ (by omega) (by omega)]; exact a.2.2.1
  · rw [e _ (by omega) (by omega)]; exact a.2.2.2.1
  · rw [e _ (by omega) (by omega)]; exact a.2.2.2.2.1
  · rw [e _ (by omega) (by omega)]; exact a.2.2.2.2.2.1 q hq
  · rw [e _ (by omega) (by omega)]; exact a.2.2.2.2.2.2.1 q hq
  · rw [e _ (by omega) (by omega)]; exact a.2.2.2.2.2.2.2.1 q hq
  · rw [e _ (by omega) (by omega), e _ (by omega) (by omega)]; exact a.2.2.2.2.2.2.2.2.1 q hq
  · rw [e _ (by omega) (by omega), e _ (by omega) (by omega), e _ (by omega) (by omega)]; exact a.2.2.2.2.2.2.2.2.2 q hq
theorem sR.lo {N' : Nat → Int32} (wo : hoW H) (a : sR H s N) (e : ∀ q, q < 151 → ¬ q = 6 → N' q = N q) : sR H s N' := by
  have h1 := wo.1.2.1
  refine ⟨?_, fun q hq => ?_⟩
  · rw [e _ (by omega) (by omega)]; exact a.1
  · rw [e _ (by omega) (by omega), e _ (by omega) (by omega), e _ (by omega) (by omega), e _ (by omega) (by omega), e _ (by omega) (by omega)]; exact a.2 q hq
theorem ST.keep {z' : Nat} {T' : Nat → Blk} {N' : Nat → Int32} (a : ST k H s z T N) (hz : z ≤ 8) (kp : kpR z z' N N') (t1 : ∀ i, i + 1 < z' → T' i = T (if z < 8 then i else i + 1)) (t2 : ∃ u, T' (z' - 1) = takeS s u) : ST k H s z' T' N' := by
  obtain ⟨wo, ws, wt, rH, rs, rp⟩ := a
  obtain ⟨ez, lo, k6, kj, k3, ki⟩ := kp
  obtain ⟨u, hu⟩ := t2
  have hm := wo.1.2.1
  have te : EqS H (takeS s u) s := takeS_eq hm
  have hz' : z' ≤ 8 ∧ 1 ≤ z' := by
    rw [ez]
    split <;> omega
  have ix : ∀ j, j + 1 < z' → (if z < 8 then j else j + 1) < z := by
    intro j hj
    rw [ez] at hj
    split at hj
    · rename_i c; rw [if_pos c]; omega
    · rename_i c; rw [if_neg c]; omega
  refine ⟨wo, ws, fun j hj => ?_, rH.lo wo lo, rs.lo wo lo, k6, fun j hj => ?_⟩
  · by_cases c : j + 1 < z'
    · rw [t1 j c]; exact wt _ (ix j c)
    · rw [show j = z' - 1 by omega, hu]; exact ws.eq te.symm
  · by_cases c : j + 1 < z'
    · have g := fun o ho => kj j o c ho
      have hx := ix j c
      rw [t1 j c]
      generalize (if z < 8 then j else j + 1) = x at g hx
      obtain ⟨p0, pi⟩ := rp.2 x hx
      refine ⟨?_, fun i hi => ?_⟩
      · have g0 := g 0 (by omega)
        rw [Nat.add_zero, Nat.add_zero] at g0
        rw [g0]; exact p0
      · obtain ⟨a1, a2, a3, a4, a5⟩ := pi i hi
        have gg : ∀ o i, o ≤ 5 → i < 6 → N' (151 + 31 * j + o + 5 * i) = N (151 + 31 * x + o + 5 * i) := fun o i ho hi => by
          rw [show 151 + 31 * j + o + 5 * i = 151 + 31 * j + (o + 5 * i) by omega, g _ (by omega), show 151 + 31 * x + (o + 5 * i) = 151 + 31 * x + o + 5 * i by omega]
        rw [gg 1 i (by omega) (by omega), gg 2 i (by omega) (by omega), gg 3 i (by omega) (by omega), gg 4 i (by omega) (by omega), gg 5 i (by omega) (by omega)]
        exact ⟨a1, a2, a3, a4, a5⟩
    · rw [show j = z' - 1 by omega, hu]
      refine ⟨by rw [k3, te.1]; exact rs.1, fun i hi => ?_⟩
      obtain ⟨b1, b2⟩ := ki i (by omega)
      obtain ⟨c1, c3, c4, c5, c6⟩ := rs.2 i hi
      have d0 := b2 0 (by omega)
      have d1 := b2 1 (by omega)
      have d2 := b2 2 (by omega)
      have d3 := b2 3 (by omega)
      rw [show 151 + 31 * (z' - 1) + 2 + 5 * i + 0 = 151 + 31 * (z' - 1) + 2 + 5 * i by omega] at d0
      rw [show 151 + 31 * (z' - 1) + 2 + 5 * i + 1 = 151 + 31 * (z' - 1) + 3 + 5 * i by omega] at d1
      rw [show 151 + 31 * (z' - 1) + 2 + 5 * i + 2 = 151 + 31 * (z' - 1) + 4 + 5 * i by omega] at d2
      rw [show 151 + 31 * (z' - 1) + 2 + 5 * i + 3 = 151 + 31 * (z' - 1) + 5 + 5 * i by omega] at d3
      rw [b1, d0, d1, d2, d3, te.2 0 i (by omega) hi, te.2 1 i (by omega) hi, te.2 2 i (by omega) hi, te.2 3 i (by omega) hi, te.2 4 i (by omega) hi]
      exact ⟨c1, c3, c4, c5, c6⟩
theorem ST.scene {k' : Nat} {s' : Blk} {N' : Nat → Int32} (a : ST k H s z T N) (hk : k ≤ k') (sc : scW k' H s') (e1 : ∀ q, ¬ q = 3 → ¬ (91 ≤ q ∧ q < 133) → N' q = N q) (e2 : ∀ i, i < hM H → N' (91 + 7 * i) = N (91 + 7 * i) ∧ N' (91 + 7 * i + 2) = N (91 + 7 * i + 2)) (rs' : sR H s' N') : ST k' H s' z T N' := by
  obtain ⟨wo, ws, wt, rH, rs, rp⟩ := a.mono hk
  have h1 := wo.1.2.1
  have h2 := wo.1.2.2.2.2
  have h3 := wo.2.1.2
  refine ⟨wo, sc, wt, ⟨?_, ?_, ?_, ?_, ?_, fun q hq => ?_, fun q hq => ?_, fun q hq => ?_, fun q hq => ?_, fun q hq => ?_⟩, rs', ?_, fun j hj => ⟨?_, fun c hc => ?_⟩⟩
  · rw [e1 _ (by omega) (by omega)]; exact rH.1
  · rw [e1 _ (by omega) (by omega)]; exact rH.2.1
  · rw [e1 _ (by omega) (by omega)]; exact rH.2.2.1
  · rw [e1 _ (by omega) (by omega)]; exact rH.2.2.2.1
  · rw [e1 _ (by omega) (by omega)]; exact rH.2.2.2.2.1
  · rw [e1 _ (by omega) (by omega)]; exact rH.2.2.2.2.2.1 q hq
  · rw [e1 _ (by omega) (by omega)]; exact rH.2.2.2.2.2.2.1 q hq
  · rw [e1 _ (by omega) (by omega)]; exact rH.2.2.2.2.2.2.2.1 q hq
  · rw [(e2 q hq).1, (e2 q hq).2]; exact rH.2.2.2.2.2.2.2.2.1 q hq
  · rw [e1 _ (by omega) (by omega), e1 _ (by omega) (by omega), e1 _ (by omega) (by omega)]; exact rH.2.2.2.2.2.2.2.2.2 q hq
  · rw [e1 _ (by omega) (by omega)]; exact rp.1
  · rw [e1 _ (by omega) (by omega)]; exact (rp.2 j hj).1
  · rw [e1 _ (by omega) (by omega), e1 _ (by omega) (by omega), e1 _ (by omega) (by omega), e1 _ (by omega) (by omega), e1 _ (by omega) (by omega)]; exact (rp.2 j hj).2 c hc
end
theorem hh_sc {h : Hea} {b : Nat} {H s s' : Blk} (a : At h b (hhL b H s)) : blk (b + 6) (snL (b + 6) s') h = blk b (hhL b H s') h := by
  have e := hh_put (h := h) (b := b) (H := H) (s := s) (s' := s')
  rw [a.eq] at e
  exact e
/-- but for the row now, the reference's blocks that the invariant reads are as before -/
def SmR (m m' : Blk) : Prop := m'.1 2 = m.1 2 ∧ m'.2 1 = m.2 1 ∧ m'.2 2 = m.2 2 ∧ m'.2 3 = m.2 3 ∧ m'.2 13 = m.2 13
section
variable {B k : Nat} {h : Hea} {X : Nat → Blk} {P : Nat → Pst} {L : Nat → Nat → Int64} {R : Nat → Nat → Nat → Int64} {t : Nat} {q : Nat → Nat → Nat}
theorem InvX.now {H' s' m' : Blk} {p' : Pst} {q' : Nat → Nat} (i : InvX B k X P L q) (hp : okP (B + 16) p'.2.1 q') (hz : p'.1 ≤ 8) (st : ST (k + 1) H' s' p'.1 (fun j => p'.2.2 (q' j)) (m'.2 0)) (s : SmR (X 16) m') : InvX B (k + 1) (va_up (va_up (va_up X 1 H') 2 s') 16 m') (va_up P 0 p') (va_up L 1 (L 1)) (fun n => if n = 0 then q' else q n) := by
  obtain ⟨i1, i2, i3, i4, i5, i6, i7, i8, i9⟩ := i.up
  obtain ⟨s1, r1, r2, r3, r13⟩ := s
  refine ⟨⟨hp, i1.2⟩, ⟨hz, i2.2⟩, st, ?_, ?_, ?_, ?_, ?_, i9⟩
  · show (X 5).2 0 0 = m'.2 2 0 ∧ (X 5).2 0 1 = m'.2 2 1
    rw [r2]; exact i4
  · show ¬ (X 5).2 0 0 = 0 → ST (k + 1) (X 12) (X 13) (P 1).1 _ (fun j => m'.2 1 j)
    rw [r1]; exact i5
  · show ¬ (X 5).2 0 1 = 0 → ST (k + 1) (X 14) (X 15) (P 2).1 _ (fun j => m'.2 1 (399 + j))
    rw [r1]; exact i6
  · show m'.2 3 0 = (X 0).1 1 ∧ m'.2 3 1 = (X 0).1 2 ∧ m'.2 3 2 = (X 0).1 3
    rw [r3]; exact i7
  · show m'.1 2 = (X 0).1 0 ∧ ∃ n, n ≤ 150 ∧ (X 0).1 0 = nI n ∧ ∀ j, j < n → (X 11).2 0 j = m'.2 13 j ∧ inR (m'.2 13 j) 128 = true
    rw [s1, r13]; exact i8
theorem op_move (a : Inv B k h) (hk : k ≤ 64) (x y : Int32) : Both B k h (fun h => f_X7_move h B x y) (fun h => f_X8_move h (B + 239) x y) := by
  obtain ⟨X, P, L, R, t, q, w, i⟩ := a
  obtain ⟨wo, ws, wt, rH, rs, rp⟩ := i.2.2.1
  by_cases c1 : x < 0 ∨ (X 1).1 3 - 1 < x
  · obtain ⟨h1, h2, e1, e2, o1, o2, iv, aM⟩ := inv_bad w i
    refine ⟨-2, h1, h2, ?_, ?_, o2, iv⟩
    · show f_X7_move h B x y = _
      rw [f_X7_move, o1, b_some, ih_v w, b_some, if_pos c1, if_pos rfl, b_some, e1, b2_some]
    · show f_X8_move h1 (B + 239) x y = _
      rw [f_X8_move, o2, b_some, ih8_v aM rH, b_some, if_pos c1, if_pos rfl, b_some, e2, b2_some]
  by_cases c2 : y < 0 ∨ 7 < y
  · obtain ⟨h1, h2, e1, e2, o1, o2, iv, aM⟩ := inv_bad w i
    refine ⟨-2, h1, h2, ?_, ?_, o2, iv⟩
    · show f_X7_move h B x y = _
      rw [f_X7_move, o1, b_some, ih_v w, b_some, if_neg c1, if_neg n10, rm_v, b_some, if_pos c2, if_pos rfl, b_some, e1, b2_some]
    · show f_X8_move h1 (B + 239) x y = _
      rw [f_X8_move, o2, b_some, ih8_v aM rH, b_some, if_neg c1, if_neg n10, rm8_v, b_some, if_pos c2, if_pos rfl, b_some, e2, b2_some]
  obtain ⟨i0, hi, rfl⟩ := ih_n wo.1 c1
  obtain ⟨r0, hr, rfl⟩ := wi_n (hi := 7) (by omega) c2
  have hm := wo.1.2.1
  have hi6 : i0 < 6 := by omega
  have aL := wd_fl w
  have aH := wd_ho w
  obtain ⟨rm, hrm, erm⟩ := inR_of (ws.1.2.2 i0 hi) (by omega)
  obtain ⟨u1, u3, u4, u5, u6⟩ := rs.2 i0 hi
  have no : (¬ (X 2).2 2 i0 = 0 ∨ (X 1).2 1 (rm * 8 + r0) = 0 ∨ (X 2).2 4 i0 = 1) → Both B k h (fun h => f_X7_move h B (nI i0) (nI r0)) (fun h => f_X8_move h (B + 239) (nI i0) (nI r0)) := by
    intro c
    obtain ⟨h1, h2, e1, e2, o1, o2, iv, aM⟩ := inv_no w i
    refine ⟨-3, h1, h2, ?_, ?_, o2, iv⟩
    · show f_X7_move h B (nI i0) (nI r0) = _
      rw [f_X7_move, o1, b_some, ih_v w, b_some, if_neg c1, if_neg n10, rm_v, b_some, if_neg c2, if_neg n10, fl_f0 aL, b_some, hh_f9 aH, b_some, b_some, hh_f6_1 aH, b_some, hh_m7 aH hi6, b_some, erm, hh_o aH, b_some, g_creaks (hh_ho aH) hrm (by omega), b_some, hh_f6_3 aH, b_some, hh_m9 aH hi6, b_some]
      by_cases d1 : (X 2).2 2 i0 = 0
      · rw [if_pos d1]
        by_cases d2 : (X 1).2 1 (rm * 8 + r0) = 0
        · rw [if_pos d2, b_some, e1, b2_some]
        · have d3 : (X 2).2 4 i0 = 1 := c.elim (fun e => absurd d1 e) (fun e => e.elim (fun e => absurd e d2) id)
          rw [if_neg d2, hh_f6_5 aH, b_some, hh_m11 aH hi6, b_some, if_pos d3, b_some, e1, b2_some]
      · rw [if_neg d1, b_some, e1, b2_some]
    · show f_X8_move h1 (B + 239) (nI i0) (nI r0) = _
      rw [f_X8_move, o2, b_some, ih8_v aM rH, b_some, if_neg c1, if_neg n10, rm8_v, b_some, if_neg c2, if_neg n10, b_some, g8_get1 aM hi6, b_some, u1, erm, b_some, g8_creaks aM rH hrm (by omega), b_some, b_some, g8_get4 aM hi6, b_some, u4]
      by_cases d1 : (X 2).2 2 i0 = 0
      · rw [if_pos d1]
        by_cases d2 : (X 1).2 1 (rm * 8 + r0) = 0
        · rw [if_pos d2, b_some, e2, b2_some]
        · have d3 : (X 2).2 4 i0 = 1 := c.elim (fun e => absurd d1 e) (fun e => e.elim (fun e => absurd e d2) id)
          rw [if_neg d2, b_some, g8_get6 aM hi6, b_some, u6, if_pos d3, b_some, e2, b2_some]
      · rw [if_neg d1, b_some, e2, b2_some]
  by_cases d0 : ¬ (X 2).2 2 i0 = 0
  · exact no (Or.inl d0)
  have d1 : (X 2).2 2 i0 = 0 := Decidable.of_not_not d0
  by_cases d2 : (X 1).2 1 (rm * 8 + r0) = 0
  · exact no (Or.inr (Or.inl d2))
  by_cases d3 : (X 2).2 4 i0 = 1
  · exact no (Or.inr (Or.inr d3))
  obtain ⟨z', f', q', S', p0, okq, ez, t1, t2⟩ := g_keep (h := h) (p := B + 16) (bt := B + 1 + 6) i.1.1 i.2.1.1 (hh_sn aH) (by omega) (S := (P 0).2.2)
  rw [(wd_pa w).eq] at p0
  have w0 := wu_pa w (z', f', S')
  generalize hh0 : blk (B + 16) (pastL (B + 16) z' f' S') h = h0 at w0 p0
  have aH0 : At h0 (B + 1) (hhL (B + 1) (X 1) (X 2)) := by
    have q := wd_ho w0
    exact q
  have p1 := g_go (h := h0) (bs := B + 1 + 6) (s := X 2) (i := i0) hi6 (nI r0)
  rw [(hh_sn aH0).eq, hh_sc aH0] at p1
  have w1 := wu_ho w0 (X 1) (sA (sA (sA (X 2) 0 i0 (nI r0)) 1 i0 0) 4 i0 1)
  generalize hh1 : blk (B + 1) (hhL (B + 1) (X 1) (sA (sA (sA (X 2) 0 i0 (nI r0)) 1 i0 0) 4 i0 1)) h0 = h1 at w1 p1
  have aM : At h1 (B + 239) (mdL (B + 239) (X 16) (L 1) (R 1)) := by
    have q := wd_md w1
    exact q
  obtain ⟨N', z2, e1, kp⟩ := g8_keep (h := h1) (b := B + 239) (m := X 16) (l := L 1) (r := R 1) i.2.1.1 rp.1
  rw [aM.eq] at e1
  have ez2 : z2 = z' := by rw [kp.1, ez]
  subst ez2
  have st1 := i.2.2.1.keep (T' := fun j => S' (q' j)) i.2.1.1 kp t1 t2
  have s1 := now_set (h := h1) (b := B + 239) (m := X 16) (l := L 1) (r := R 1) (f := N') (i := i0) (j := 1) (x := nI r0) hi6 (by omega)
  have s3 := now_set (h := h1) (b := B + 239) (m := X 16) (l := L 1) (r := R 1) (f := upd N' (91 + 7 * i0 + 1) (nI r0)) (i := i0) (j := 3) (x := 0) hi6 (by omega)
  have s6 := now_set (h := h1) (b := B + 239) (m := X 16) (l := L 1) (r := R 1) (f := upd (upd N' (91 + 7 * i0 + 1) (nI r0)) (91 + 7 * i0 + 3) 0) (i := i0) (j := 6) (x := 1) hi6 (by omega)
  rw [show nI 1 = 1 from rfl] at s1
  rw [show nI 3 = 3 from rfl] at s3
  rw [show nI 6 = 6 from rfl] at s6
  have w2 := wu_md w1 (sB (X 16) 0 (upd (upd (upd N' (91 + 7 * i0 + 1) (nI r0)) (91 + 7 * i0 + 3) 0) (91 + 7 * i0 + 6) 1)) (L 1) (R 1)
  have hz8 : z2 ≤ 8 := by rw [kp.1]; split <;> omega
  have sv : ∀ j c, ¬ c = i0 → (sA (sA (sA (X 2) 0 i0 (nI r0)) 1 i0 0) 4 i0 1).2 j c = (X 2).2 j c := by
    intro j c e
    simp [sA_2, e]
  have sc : scW (k + 1) (X 1) (sA (sA (sA (X 2) 0 i0 (nI r0)) 1 i0 0) 4 i0 1) := by
    refine ⟨(((ws.up.1.mv (inR_nI (by omega) (by omega))).st (by omega)).st (by omega)), fun c hc => ?_, ((ws.2.2.mv (by omega)).mv (by omega)).mv (by omega)⟩
    by_cases e : c = i0
    · subst e
      exact ⟨0, by omega, by simp [sA_2, nI_0]⟩
    · rw [sv 1 c e]; exact ws.up.2.1 c hc
  have st2 : ST (k + 1) (X 1) (sA (sA (sA (X 2) 0 i0 (nI r0)) 1 i0 0) 4 i0 1) z2 (fun j => S' (q' j)) (upd (upd (upd N' (91 + 7 * i0 + 1) (nI r0)) (91 + 7 * i0 + 3) 0) (91 + 7 * i0 + 6) 1) := by
    refine st1.scene (by omega) sc (fun q h1 h2 => ?_) (fun c hc => ?_) ⟨?_, fun c hc => ?_⟩
    · rw [upd_v, if_neg (by omega), upd_v, if_neg (by omega), upd_v, if_neg (by omega)]
    · rw [upd_v, if_neg (by omega), upd_v, if_neg (by omega), upd_v, if_neg (by omega), upd_v, if_neg (by omega), upd_v, if_neg (by omega), upd_v, if_neg (by omega)]
      exact ⟨rfl, rfl⟩
    · rw [upd_v, if_neg (by omega), upd_v, if_neg (by omega), upd_v, if_neg (by omega)]
      exact st1.2.2.2.2.1.1
    · obtain ⟨v1, v3, v4, v5, v6⟩ := st1.2.2.2.2.1.2 c hc
      by_cases e : c = i0
      · subst e
        refine ⟨?_, ?_, ?_, ?_, ?_⟩
        · rw [upd_v, if_neg (by omega), upd_v, if_neg (by omega), upd_v, if_pos rfl]; simp [sA_2]
        · rw [upd_v, if_neg (by omega), upd_v, if_pos rfl]; simp [sA_2]
        · rw [upd_v, if_neg (by omega), upd_v, if_neg (by omega), upd_v, if_neg (by omega), v4]; simp [sA_2]
        · rw [upd_v, if_neg (by omega), upd_v, if_neg (by omega), upd_v, if_neg (by omega), v5]; simp [sA_2]
        · rw [upd_v, if_pos rfl]; simp [sA_2]
      · have ne : ∀ o, o < 7 → (upd (upd (upd N' (91 + 7 * i0 + 1) (nI r0)) (91 + 7 * i0 + 3) 0) (91 + 7 * i0 + 6) 1) (91 + 7 * c + o) = N' (91 + 7 * c + o) := fun o ho => by
          rw [upd_v, if_neg (by omega), upd_v, if_neg (by omega), upd_v, if_neg (by omega)]
        rw [ne 1 (by omega), ne 3 (by omega), ne 4 (by omega), ne 5 (by omega), ne 6 (by omega), sv 0 c e, sv 1 c e, sv 2 c e, sv 3 c e, sv 4 c e]
        exact ⟨v1, v3, v4, v5, v6⟩
  refine ⟨(X 1).2 1 (rm * 8 + r0), h1, _, ?_, ?_, md_o aM, ⟨_, _, _, _, _, _, w2, i.now (p' := (z2, f', S')) okq hz8 st2 ⟨rfl, rfl, rfl, rfl, rfl⟩⟩⟩
  · show f_X7_move h B (nI i0) (nI r0) = _
    rw [f_X7_move, fl_o aL, b_some, ih_v w, b_some, if_neg c1, if_neg n10, rm_v, b_some, if_neg c2, if_neg n10, fl_f0 aL, b_some, hh_f9 aH, b_some, b_some, hh_f6_1 aH, b_some, hh_m7 aH hi6, b_some, erm, hh_o aH, b_some, g_creaks (hh_ho aH) hrm (by omega), b_some, hh_f6_3 aH, b_some, hh_m9 aH hi6, b_some, if_pos d1, if_neg d2, hh_f6_5 aH, b_some, hh_m11 aH hi6, b_some, if_neg d3, fl_f1 aL, b_some, past_o (wd_pa w), b_some, p0, b_some, hh_o6 aH0, b_some, p1, b_some]
  · show f_X8_move h1 (B + 239) (nI i0) (nI r0) = _
    rw [f_X8_move, md_o aM, b_some, ih8_v aM rH, b_some, if_neg c1, if_neg n10, rm8_v, b_some, if_neg c2, if_neg n10, b_some, g8_get1 aM hi6, b_some, u1, erm, b_some, g8_creaks aM rH hrm (by omega), b_some, b_some, g8_get4 aM hi6, b_some, u4, if_pos d1, if_neg d2, b_some, g8_get6 aM hi6, b_some, u6, if_neg d3, b_some, e1, b_some, md_o (blk_at _ _ _), b_some, s1, b_some, md_o (blk_at _ _ _), b_some, s3, b_some, md_o (blk_at _ _ _), b_some, s6, b_some]
theorem op_night (a : Inv B k h) (hk : k ≤ 64) : Both B k h (fun h => f_X7_night h B) (fun h => f_X8_night h (B + 239)) := by
  obtain ⟨X, P, L, R, t, q, w, i⟩ := a
  obtain ⟨wo, ws, wt, rH, rs, rp⟩ := i.2.2.1
  have hm := wo.1.2.1
  have aL := wd_fl w
  have aH := wd_ho w
  have wS := (scN ws hk).S
  obtain ⟨z', f', q', S', p0, okq, ez, t1, t2⟩ := g_keep (h := h) (p := B + 16) (bt := B + 1 + 6) i.1.1 i.2.1.1 (hh_sn aH) (by omega) (S := (P 0).2.2)
  rw [(wd_pa w).eq] at p0
  have w0 := wu_pa w (z', f', S')
  generalize hh0 : blk (B + 16) (pastL (B + 16) z' f' S') h = h0 at w0 p0
  have aH0 : At h0 (B + 1) (hhL (B + 1) (X 1) (X 2)) := by
    have q := wd_ho w0
    exact q
  have aL0 : At h0 B (flL B (X 0) (L 0)) := by
    have q := wd_fl w0
    exact q
  have p1 := g_runNight (h := h0) (bh := B + 1) (bs := B + 1 + 6) (ey := (X 1).1 0) (hh_ho aH0) (hh_sn aH0) wo.1 wS
  rw [hh_sc aH0] at p1
  have w1 := wu_ho w0 (X 1) (nightS (X 1) ((X 1).1 0) (X 2))
  generalize hh1 : blk (B + 1) (hhL (B + 1) (X 1) (nightS (X 1) ((X 1).1 0) (X 2))) h0 = h1 at w1 p1
  have aM : At h1 (B + 239) (mdL (B + 239) (X 16) (L 1) (R 1)) := by
    have q := wd_md w1
    exact q
  obtain ⟨N', z2, e1, kp⟩ := g8_keep (h := h1) (b := B + 239) (m := X 16) (l := L 1) (r := R 1) i.2.1.1 rp.1
  rw [aM.eq] at e1
  have ez2 : z2 = z' := by rw [kp.1, ez]
  subst ez2
  have st1 := i.2.2.1.keep (T' := fun j => S' (q' j)) i.2.1.1 kp t1 t2
  have hz8 : z2 ≤ 8 := by rw [kp.1]; split <;> omega
  obtain ⟨m1, c1, d1, s1, y1⟩ := g8_hand (h := h1) (b := B + 239) (l := L 1) (r := R 1) (m := sB (X 16) 0 N') wo.1 st1.2.2.2.1 st1.2.2.2.2.1
  obtain ⟨m2, c2, d2, s2, y2⟩ := g8_night (h := h1) (b := B + 239) (l := L 1) (r := R 1) wo.1 wS ws.2.2 (m := m1) (by rw [s1.now]; exact st1.2.2.2.1) d1
  rw [y1] at c2 d2
  have n2 : m2.2 0 = N' := s2.now.trans s1.now
  have ss := s1.trans s2
  have w3 := wn_3 (h := h1) (b := B + 239) (m := m2) (l := L 1) (r := R 1) (x := (nightS (X 1) ((X 1).1 0) (X 2)).1 0)
  rw [sA_now, n2] at w3
  have f0 : upd N' 3 ((nightS (X 1) ((X 1).1 0) (X 2)).1 0) 0 = nI (hM (X 1)) := by
    rw [upd_v, if_neg (by omega), st1.2.2.2.1.1]; exact wo.1.1
  obtain ⟨f2, c3, k1, k2⟩ := g8_end25 (h := h1) (b := B + 239) (m := m2) (l := L 1) (r := R 1) wo.1 (hM (X 1)) 0 lots (upd N' 3 ((nightS (X 1) ((X 1).1 0) (X 2)).1 0)) (by omega) (by simp only [lots]; omega) f0
  rw [nI_0] at c3
  have w2 := wu_md w1 (sB m2 0 f2) (L 1) (R 1)
  have sc : scW (k + 1) (X 1) (nightS (X 1) ((X 1).1 0) (X 2)) := by
    have e : 999000 - k = 999000 - (k + 1) + 1 := by omega
    refine ⟨?_, ?_, ws.2.2.nx⟩
    · have := ws.1
      rw [e] at this
      exact this.nx
    · have := ws.2.1
      rw [e] at this
      exact this.nx
  have st2 : ST (k + 1) (X 1) (nightS (X 1) ((X 1).1 0) (X 2)) z2 (fun j => S' (q' j)) f2 := by
    refine st1.scene (by omega) sc (fun q h1 h2 => ?_) (fun c hc => ?_) ⟨?_, fun c hc => ?_⟩
    · rw [k1 q (by omega), upd_v, if_neg h1]
    · obtain ⟨a0, a1, a2, -⟩ := k2 c (by omega) hc
      rw [a0, a2, upd_v, if_neg (by omega), upd_v, if_neg (by omega)]
      exact ⟨rfl, rfl⟩
    · rw [k1 3 (by omega), upd_v, if_pos rfl]
    · obtain ⟨a0, a1, a2, a3, a4, a5, a6⟩ := k2 c (by omega) hc
      obtain ⟨v1, v3, v4, v5, v6⟩ := st1.2.2.2.2.1.2 c hc
      obtain ⟨b0, b1, b2, b3⟩ := d2.2 c hc
      rw [a1, a3, a4, a5, a6, upd_v, if_neg (by omega), v1, b1, b2, b3]
      refine ⟨(night_r c).symm, rfl, rfl, rfl, ?_⟩
      simp [nightS, hc]
  have sm : SmR (X 16) (sB m2 0 f2) := ⟨ss.1 2 (by omega), ss.2 1 (by omega), ss.2 2 (by omega), ss.2 3 (by omega), ss.2 13 (by omega)⟩
  refine ⟨fnd (X 1) (X 2) ((X 1).1 0), h1, _, ?_, ?_, md_o aM, ⟨_, _, _, _, _, _, w2, i.now (p' := (z2, f', S')) okq hz8 st2 sm⟩⟩
  · show f_X7_night h B = _
    rw [f_X7_night, fl_f1 aL, b_some, fl_f0 aL, b_some, hh_f9 aH, b_some, past_o (wd_pa w), b_some, p0, b_some, fl_f0 aL0, b_some, b_some, hh_f9 aH0, b_some, b_some, hh_f0 aH0, b_some, hh_o aH0, b_some, p1, b2_some]
  · show f_X8_night h1 (B + 239) = _
    rw [f_X8_night, md_o aM, b_some, e1, b_some, md_o (blk_at _ _ _), b_some, c1, b_some, md_o (blk_at _ _ _), b_some, c2, b2_some, md_f0 (blk_at _ _ _), b_some, md_f6 (blk_at _ _ _), b_some, d2.1, w3, b_some, c3, b_some]
theorem op_undo (a : Inv B k h) : Both B k h (fun h => f_X7_undo h B) (fun h => f_X8_undo h (B + 239)) := by
  obtain ⟨X, P, L, R, t, q, w, i⟩ := a
  obtain ⟨wo, ws, wt, rH, rs, rp⟩ := i.2.2.1
  have hm := wo.1.2.1
  have aL := wd_fl w
  have aH := wd_ho w
  have hz := i.2.1.1
  by_cases c1 : (P 0).1 = 0
  · obtain ⟨h1, h2, e1, e2, o1, o2, iv, aM⟩ := inv_no w i
    refine ⟨-3, h1, h2, ?_, ?_, o2, iv⟩
    · show f_X7_undo h B = _
      rw [f_X7_undo, fl_f1 aL, b_some, past_f1 (wd_pa w), b_some, c1, if_pos (show nI 0 = 0 from rfl), o1, b_some, e1, b2_some]
    · show f_X8_undo h1 (B + 239) = _
      rw [f_X8_undo, md_f0 aM, b_some, ln_6 aM, b_some, rp.1, c1, if_pos (show nI 0 = 0 from rfl), o2, b_some, e2, b2_some]
  have p0 := g_bringBack (h := h) (p := B + 16) (bt := B + 1 + 6) i.1.1 hz (by omega) (wd_pa w) (hh_sn aH) (by omega)
  obtain ⟨z, hz1⟩ : ∃ z, (P 0).1 = z + 1 := ⟨(P 0).1 - 1, by omega⟩
  rw [hz1, Nat.add_sub_cancel] at p0
  have w0 := wu_pa w (z, (P 0).2.1, (P 0).2.2)
  generalize hh0 : blk (B + 16) (pastL (B + 16) z (P 0).2.1 (P 0).2.2) h = h0 at w0 p0
  have aH0 : At h0 (B + 1) (hhL (B + 1) (X 1) (X 2)) := by
    have q := wd_ho w0
    exact q
  rw [hh_sc aH0] at p0
  have w1 := wu_ho w0 (X 1) (takeS ((P 0).2.2 (q 0 z)) (X 2))
  generalize hh1 : blk (B + 1) (hhL (B + 1) (X 1) (takeS ((P 0).2.2 (q 0 z)) (X 2))) h0 = h1 at w1 p0
  have aM : At h1 (B + 239) (mdL (B + 239) (X 16) (L 1) (R 1)) := by
    have q := wd_md w1
    exact q
  have aL1 : At h1 B (flL B (X 0) (L 0)) := by
    have q := wd_fl w1
    exact q
  have aH1 : At h1 (B + 1) (hhL (B + 1) (X 1) (takeS ((P 0).2.2 (q 0 z)) (X 2))) := by
    have q := wd_ho w1
    exact q
  have te : EqS (X 1) (takeS ((P 0).2.2 (q 0 z)) (X 2)) ((P 0).2.2 (q 0 z)) := takeS_eq hm
  have x1 : nI (z + 1) - 1 = nI z := nI_pred z
  have x2 : (151 : Int32) + 31 * nI z = nI (151 + 31 * z) := by rw [show (151 : Int32) = nI 151 from rfl, show (31 : Int32) = nI 31 from rfl, pk_mul, nI_add]
  have w6 := wn_6 (h := h1) (b := B + 239) (m := X 16) (l := L 1) (r := R 1) (x := nI z)
  rw [sA_now, aM.eq] at w6
  have l6 := now_m (h := h1) (b := B + 239) (m := X 16) (l := L 1) (r := R 1) (f := upd ((X 16).2 0) 6 (nI z)) (i := 6) (by omega)
  rw [show nI 6 = 6 from rfl, upd_v, if_pos rfl] at l6
  have lt := now_m (h := h1) (b := B + 239) (m := X 16) (l := L 1) (r := R 1) (f := upd ((X 16).2 0) 6 (nI z)) (i := 151 + 31 * z) (by omega)
  rw [upd_v, if_neg (by omega)] at lt
  have w3 := now_w (h := h1) (b := B + 239) (m := X 16) (l := L 1) (r := R 1) (f := upd ((X 16).2 0) 6 (nI z)) (i := 3) (x := (X 16).2 0 (151 + 31 * z)) (by omega)
  rw [show nI 3 = 3 from rfl] at w3
  obtain ⟨f2, c2, k1, k2⟩ := g8_undo55 (h := h1) (b := B + 239) (m := X 16) (l := L 1) (r := R 1) (t := 151 + 31 * z) (by omega) (by omega) 6 0 lots (upd (upd ((X 16).2 0) 6 (nI z)) 3 ((X 16).2 0 (151 + 31 * z))) (by omega) (by simp only [lots]; omega)
  rw [nI_0] at c2
  have hi : ∀ q, 91 ≤ q → (upd (upd ((X 16).2 0) 6 (nI z)) 3 ((X 16).2 0 (151 + 31 * z))) q = (X 16).2 0 q := fun q hq => by rw [upd_v, if_neg (by omega), upd_v, if_neg (by omega)]
  obtain ⟨t0, ti⟩ := rp.2 z (by omega)
  have f3 : f2 3 = (takeS ((P 0).2.2 (q 0 z)) (X 2)).1 0 := by rw [k1 3 (by omega), upd_v, if_pos rfl, te.1]; exact t0
  have l3 := now_m (h := h1) (b := B + 239) (m := X 16) (l := L 1) (r := R 1) (f := f2) (i := 3) (by omega)
  rw [show nI 3 = 3 from rfl, f3] at l3
  have w2 := wu_md w1 (sB (X 16) 0 f2) (L 1) (R 1)
  have st0 : ST k (X 1) (X 2) z (fun j => (P 0).2.2 (q 0 j)) (upd ((X 16).2 0) 6 (nI z)) := by
    refine ⟨wo, ws, fun j hj => wt j (by omega), rH.lo wo (fun q h1 h2 => by rw [upd_v, if_neg h2]), rs.lo wo (fun q h1 h2 => by rw [upd_v, if_neg h2]), by rw [upd_v, if_pos rfl], fun j hj => ?_⟩
    have ne : ∀ q, 151 ≤ q → (upd ((X 16).2 0) 6 (nI z)) q = (X 16).2 0 q := fun q hq => by rw [upd_v, if_neg (by omega)]
    refine ⟨by rw [ne _ (by omega)]; exact (rp.2 j (by omega)).1, fun c hc => ?_⟩
    rw [ne _ (by omega), ne _ (by omega), ne _ (by omega), ne _ (by omega), ne _ (by omega)]
    exact (rp.2 j (by omega)).2 c hc
  have st2 : ST (k + 1) (X 1) (takeS ((P 0).2.2 (q 0 z)) (X 2)) z (fun j => (P 0).2.2 (q 0 j)) f2 := by
    refine st0.scene (by omega) ((wt z (by omega)).up.eq te.symm) (fun q h1 h2 => ?_) (fun c hc => ?_) ⟨f3, fun c hc => ?_⟩
    · rw [k1 q (by omega), upd_v, if_neg h1]
    · obtain ⟨a0, a2, -⟩ := k2 c (by omega) (by omega)
      rw [a0, a2, hi _ (by omega), hi _ (by omega), upd_v, if_neg (by omega), upd_v, if_neg (by omega)]
      exact ⟨rfl, rfl⟩
    · obtain ⟨a0, a2, a1, a3⟩ := k2 c (by omega) (by omega)
      obtain ⟨b1, b2, b3, b4, b5⟩ := ti c hc
      have d0 := a3 0 (by omega)
      have d1 := a3 1 (by omega)
      have d2 := a3 2 (by omega)
      have d3 := a3 3 (by omega)
      rw [Nat.add_zero, Nat.add_zero] at d0
      rw [show 91 + 7 * c + 3 + 1 = 91 + 7 * c + 4 by omega, show 151 + 31 * z + 2 + 5 * c + 1 = 151 + 31 * z + 3 + 5 * c by omega] at d1
      rw [show 91 + 7 * c + 3 + 2 = 91 + 7 * c + 5 by omega, show 151 + 31 * z + 2 + 5 * c + 2 = 151 + 31 * z + 4 + 5 * c by omega] at d2
      rw [show 91 + 7 * c + 3 + 3 = 91 + 7 * c + 6 by omega, show 151 + 31 * z + 2 + 5 * c + 3 = 151 + 31 * z + 5 + 5 * c by omega] at d3
      rw [a1, d0, d1, d2, d3, hi _ (by omega), hi _ (by omega), hi _ (by omega), hi _ (by omega), hi _ (by omega), te.2 0 c (by omega) hc, te.2 1 c (by omega) hc, te.2 2 c (by omega) hc, te.2 3 c (by omega) hc, te.2 4 c (by omega) hc]
      exact ⟨b1, b2, b3, b4, b5⟩
  refine ⟨(takeS ((P 0).2.2 (q 0 z)) (X 2)).1 0, h1, _, ?_, ?_, md_o aM, ⟨_, _, _, _, _, _, w2, i.now (p' := (z, (P 0).2.1, (P 0).2.2)) i.1.1 (by show z ≤ 8; omega) st2 ⟨rfl, rfl, rfl, rfl, rfl⟩⟩⟩
  · show f_X7_undo h B = _
    rw [f_X7_undo, fl_f1 aL, b_some, past_f1 (wd_pa w), b_some, if_neg (nI_ne0 (by omega) (by omega)), b_some, fl_f0 aL, b_some, hh_f9 aH, b_some, past_o (wd_pa w), b_some, p0, b_some, fl_f0 aL1, b_some, hh_f9 aH1, b_some, hh_f6_0 aH1, b_some]
  · show f_X8_undo h1 (B + 239) = _
    rw [f_X8_undo, md_f0 aM, b_some, ln_6 aM, b_some, rp.1, if_neg (nI_ne0 (by omega) (by omega)), b_some, ln_6 aM, b_some, rp.1, hz1, x1, w6, b_some, md_f0 (blk_at _ _ _), b_some, l6, b_some, b_some, b_some, x2, lt, b_some, w3, b_some, c2, b_some, md_f0 (blk_at _ _ _), b_some, l3, b_some]
end
