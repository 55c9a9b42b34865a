/-! ===== reading: doors and lists on both sides ===== -/
section
variable {b d t b8 : Nat} {H s : Blk} {c : Nat → Int32} {n p : Nat} {N : Nat → Int32} {l : Nat → Int64} {r : Nat → Nat → Int64} {m0 : Blk}
theorem j_door (hd : d + 15 ≤ b) (hn : n ≤ 150) (tx : Tx8 m0 c n) (hp : p ≤ n) (st : ST 0 H s 0 T00 N) : Jnt b d t b8 l r m0 c n p H s N (fun h => f_X4_takeDoor h b d) (fun h => f_X8_takesDoor h b8) := by
  obtain ⟨p1, hp1⟩ := tkE_ge (c := c) hp
  obtain ⟨p2, hp2⟩ := tkE_ge (c := c) hp1
  obtain ⟨p3, hp3⟩ := tkE_ge (c := c) hp2
  obtain ⟨p4, hp4⟩ := tkE_ge (c := c) hp3
  have s1 := (tkS_le (c := c) hp1).2
  have s2 := (tkS_le (c := c) hp2).2
  have s3 := (tkS_le (c := c) hp3).2
  by_cases o1 : okN c n (tkE c n p) 0 7
  · by_cases o2 : okN c n (tkE c n (tkE c n p)) 0 7
    · by_cases o4 : tkV c n (tkE c n p) = tkV c n (tkE c n (tkE c n p))
      · refine ⟨.inl (tkS c n (tkE c n (tkE c n p))), s2, fun h g it hx a => COut_f (H := H) (s := s) ?_, fun h m a => ROut_f ?_⟩
        · obtain ⟨g1, e1, a1⟩ := g_advC (H := H) (s := s) hx hn hp a
          obtain ⟨g2, e2, a2⟩ := g_num_ok (H := H) (s := s) hx hn hp1 a1 o1
          obtain ⟨g3, e3, a3⟩ := g_num_ok (H := H) (s := s) hx hn hp2 a2 o2
          refine ⟨sS g3 5 (nI (tkS c n (tkE c n (tkE c n p)))), ?_, rfl, a3.2.2.2.2.2.2⟩
          have F5 : (sS g3 5 (nI (tkS c n (tkE c n (tkE c n p))))).1 5 = nI (tkS c n (tkE c n (tkE c n p))) := rfl
          show f_X4_takeDoor _ b d = _
          rw [f_X4_takeDoor, rd_o hc_at, b_some, e1, b_some, rd_o hc_at, b_some, e2, b2_some, rd_f3 hc_at, b_some, a2.2.2.1, rd_o hc_at, b_some, e3, b2_some, rd_f6 hc_at, b_some, a3.2.2.2.2.2.1, if_pos rfl, if_pos o4, pI, hc_p6, b_some, b_some, rd_o hc_at, b_some, g_num_f (f := tkS c n (tkE c n (tkE c n p))) (by omega) F5, b2_some, rd_f6 hc_at, b_some, F5, if_neg (nI_n1 (by omega)), b_some]
        · obtain ⟨m1, e1, a1, -⟩ := g8_behind (b := b8) (h := h) (l := l) (r := r) tx hn hp a
          obtain ⟨m2, e2, a2, v2⟩ := g8_num_ok (b := b8) (h := h) (l := l) (r := r) (k := 0) (i := 0) tx hn hp1 (by omega) rfl a1 o1
          have w0 : m2.2 15 0 = tkV c n (tkE c n p) := by rw [v2, upd_v, if_pos rfl]
          refine ⟨m2, ?_, a2.1, a2.2.2.1⟩
          show f_X8_takesDoor _ b8 = _
          rw [f_X8_takesDoor, md_o (blk_at _ _ _), b_some, e1, b_some, md_o (blk_at _ _ _), b_some, e2, b2_some, if_neg n10, md_f23 (blk_at _ _ _), b_some, a2.2.2.2.2.1, o2.1, if_pos (show nI 2 = 2 from rfl), md_f24 (blk_at _ _ _), b_some, md_f26 (blk_at _ _ _), b_some, v8_0, b_some, w0, a2.2.2.2.2.2 o2.1, if_pos o4.symm]
      · by_cases o3 : okN c n (tkE c n (tkE c n (tkE c n p))) 1 9
        · obtain ⟨x, hx7, ex⟩ := wi_n (hi := 7) (by omega) o1.2
          obtain ⟨y, hy7, ey⟩ := wi_n (hi := 7) (by omega) o2.2
          obtain ⟨z, hz9, ez⟩ : ∃ z, z ≤ 9 ∧ tkV c n (tkE c n (tkE c n (tkE c n p))) = nI z := wi_n (hi := 9) (by omega) (fun e => o3.2 (e.elim (fun e => Or.inl (Int32.lt_trans e (by decide))) Or.inr))
          have hxy : ¬ x = y := fun e => o4 (by rw [ex, ey, e])
          have o4' : ¬ nI x = nI y := fun e => o4 (by rw [ex, ey, e])
          have o5' : ¬ nI y = nI x := fun e => o4' e.symm
          refine ⟨finO c n (tkE c n (tkE c n (tkE c n (tkE c n p)))) (sA (sA H 1 (x * 8 + y) (nI z)) 1 (y * 8 + x) (nI z)) s (upd (upd N (15 + 8 * x + y) (nI z)) (15 + 8 * y + x) (nI z)), good_fin (by omega) hp4 (st.door (by omega) (by omega) hxy hz9), fun h g it hx a => COut_fin ?_, fun h m a => ROut_fin ?_⟩
          · obtain ⟨g1, e1, a1⟩ := g_advC (H := H) (s := s) hx hn hp a
            obtain ⟨g2, e2, a2⟩ := g_num_ok (H := H) (s := s) hx hn hp1 a1 o1
            obtain ⟨g3, e3, a3⟩ := g_num_ok (H := H) (s := s) hx hn hp2 a2 o2
            obtain ⟨g4, e4, a4⟩ := g_num_ok (H := H) (s := s) hx hn hp3 a3 o3
            rw [ex] at e2
            rw [ey] at e3
            rw [ez] at e4
            refine ⟨g4, ?_, a4⟩
            show f_X4_takeDoor _ b d = _
            rw [f_X4_takeDoor, rd_o hc_at, b_some, e1, b_some, rd_o hc_at, b_some, e2, b2_some, rd_f3 hc_at, b_some, rd_o hc_at, b_some, e3, b2_some, rd_f6 hc_at, b_some, a3.2.2.2.2.2.1, if_pos rfl, if_neg o4', b_some, rd_o hc_at, b_some, e4, b2_some, rd_f6 hc_at, b_some, a4.2.2.2.2.2.1, if_pos rfl, hh_o (hc_ho hd), b_some, hc_hang hd (by omega) (by omega), b_some, b_some]
          · obtain ⟨m1, e1, a1, -⟩ := g8_behind (b := b8) (h := h) (l := l) (r := r) tx hn hp a
            obtain ⟨m2, e2, a2, v2⟩ := g8_num_ok (b := b8) (h := h) (l := l) (r := r) (k := 0) (i := 0) tx hn hp1 (by omega) rfl a1 o1
            obtain ⟨m3, e3, a3, v3⟩ := g8_num_ok (b := b8) (h := h) (l := l) (r := r) (k := 1) (i := 1) tx hn hp2 (by omega) rfl a2 o2
            obtain ⟨m4, e4, a4, v4⟩ := g8_num_ok (b := b8) (h := h) (l := l) (r := r) (k := 2) (i := 2) tx hn hp3 (by omega) rfl a3 o3
            have u0 : m2.2 15 0 = nI x := by rw [v2, upd_v, if_pos rfl, ex]
            have w0 : m4.2 15 0 = nI x := by rw [v4, upd_v, if_neg (by omega), v3, upd_v, if_neg (by omega), v2, upd_v, if_pos rfl, ex]
            have w1 : m4.2 15 1 = nI y := by rw [v4, upd_v, if_neg (by omega), v3, upd_v, if_pos rfl, ey]
            have w2 : m4.2 15 2 = nI z := by rw [v4, upd_v, if_pos rfl, ez]
            refine ⟨sB m4 14 (upd (upd N (15 + 8 * x + y) (nI z)) (15 + 8 * y + x) (nI z)), ?_, a4.new⟩
            show f_X8_takesDoor _ b8 = _
            rw [f_X8_takesDoor, md_o (blk_at _ _ _), b_some, e1, b_some, md_o (blk_at _ _ _), b_some, e2, b2_some, if_neg n10, md_f23 (blk_at _ _ _), b_some, a2.2.2.2.2.1, o2.1, if_pos (show nI 2 = 2 from rfl), md_f24 (blk_at _ _ _), b_some, md_f26 (blk_at _ _ _), b_some, v8_0, b_some, u0, a2.2.2.2.2.2 o2.1, ey, if_neg o5', md_o (blk_at _ _ _), b_some, e3, b2_some, if_neg n10, md_o (blk_at _ _ _), b_some, e4, b2_some, if_neg n10, md_f25 (blk_at _ _ _), b_some, md_f26 (blk_at _ _ _), b_some, v8_0, b_some, b_some, v8_1, b_some, b_some, v8_2, b_some, w0, w1, w2, new_door (by omega) (by omega), a4.2.1, b_some]
        · refine ⟨.inl (tkS c n (tkE c n (tkE c n (tkE c n p)))), s3, fun h g it hx a => COut_f (H := H) (s := s) ?_, fun h m a => ROut_f ?_⟩
          · obtain ⟨g1, e1, a1⟩ := g_advC (H := H) (s := s) hx hn hp a
            obtain ⟨g2, e2, a2⟩ := g_num_ok (H := H) (s := s) hx hn hp1 a1 o1
            obtain ⟨g3, e3, a3⟩ := g_num_ok (H := H) (s := s) hx hn hp2 a2 o2
            have e4 := g_num_no (b := b) (d := d) (t := t) (H := H) (s := s) (h := h) a3 o3
            refine ⟨sS g3 5 (nI (tkS c n (tkE c n (tkE c n (tkE c n p))))), ?_, rfl, a3.2.2.2.2.2.2⟩
            have F5 : (sS g3 5 (nI (tkS c n (tkE c n (tkE c n (tkE c n p)))))).1 5 = nI (tkS c n (tkE c n (tkE c n (tkE c n p)))) := rfl
            show f_X4_takeDoor _ b d = _
            rw [f_X4_takeDoor, rd_o hc_at, b_some, e1, b_some, rd_o hc_at, b_some, e2, b2_some, rd_f3 hc_at, b_some, rd_o hc_at, b_some, e3, b2_some, rd_f6 hc_at, b_some, a3.2.2.2.2.2.1, if_pos rfl, if_neg o4, b_some, rd_o hc_at, b_some, e4, b2_some, rd_f6 hc_at, b_some, F5, if_neg (nI_n1 (by omega)), b_some]
          · obtain ⟨m1, e1, a1, -⟩ := g8_behind (b := b8) (h := h) (l := l) (r := r) tx hn hp a
            obtain ⟨m2, e2, a2, v2⟩ := g8_num_ok (b := b8) (h := h) (l := l) (r := r) (k := 0) (i := 0) tx hn hp1 (by omega) rfl a1 o1
            obtain ⟨m3, e3, a3, v3⟩ := g8_num_ok (b := b8) (h := h) (l := l) (r := r) (k := 1) (i := 1) tx hn hp2 (by omega) rfl a2 o2
            have u0 : m2.2 15 0 = tkV c n (tkE c n p) := by rw [v2, upd_v, if_pos rfl]
            refine ⟨m3, ?_, a3.1, a3.2.2.1⟩
            show f_X8_takesDoor _ b8 = _
            rw [f_X8_takesDoor, md_o (blk_at _ _ _), b_some, e1, b_some, md_o (blk_at _ _ _), b_some, e2, b2_some, if_neg n10, md_f23 (blk_at _ _ _), b_some, a2.2.2.2.2.1, o2.1, if_pos (show nI 2 = 2 from rfl), md_f24 (blk_at _ _ _), b_some, md_f26 (blk_at _ _ _), b_some, v8_0, b_some, u0, a2.2.2.2.2.2 o2.1, if_neg (fun e => o4 e.symm), md_o (blk_at _ _ _), b_some, e3, b2_some, if_neg n10, md_o (blk_at _ _ _), b_some, g8_num_no a3 o3, b2_some, if_pos rfl]
    · refine ⟨.inl (tkS c n (tkE c n (tkE c n p))), s2, fun h g it hx a => COut_f (H := H) (s := s) ?_, fun h m a => ROut_f ?_⟩
      · obtain ⟨g1, e1, a1⟩ := g_advC (H := H) (s := s) hx hn hp a
        obtain ⟨g2, e2, a2⟩ := g_num_ok (H := H) (s := s) hx hn hp1 a1 o1
        have e3 := g_num_no (b := b) (d := d) (t := t) (H := H) (s := s) (h := h) a2 o2
        refine ⟨sS g2 5 (nI (tkS c n (tkE c n (tkE c n p)))), ?_, rfl, a2.2.2.2.2.2.2⟩
        have F5 : (sS g2 5 (nI (tkS c n (tkE c n (tkE c n p))))).1 5 = nI (tkS c n (tkE c n (tkE c n p))) := rfl
        show f_X4_takeDoor _ b d = _
        rw [f_X4_takeDoor, rd_o hc_at, b_some, e1, b_some, rd_o hc_at, b_some, e2, b2_some, rd_f3 hc_at, b_some, rd_o hc_at, b_some, e3, b2_some, rd_f6 hc_at, b_some, F5, if_neg (nI_n1 (by omega)), b_some, rd_o hc_at, b_some, g_num_f (f := tkS c n (tkE c n (tkE c n p))) (by omega) F5, b2_some, rd_f6 hc_at, b_some, F5, if_neg (nI_n1 (by omega)), b_some]
      · obtain ⟨m1, e1, a1, -⟩ := g8_behind (b := b8) (h := h) (l := l) (r := r) tx hn hp a
        obtain ⟨m2, e2, a2, v2⟩ := g8_num_ok (b := b8) (h := h) (l := l) (r := r) (k := 0) (i := 0) tx hn hp1 (by omega) rfl a1 o1
        have u0 : m2.2 15 0 = tkV c n (tkE c n p) := by rw [v2, upd_v, if_pos rfl]
        refine ⟨m2, ?_, a2.1, a2.2.2.1⟩
        show f_X8_takesDoor _ b8 = _
        rw [f_X8_takesDoor, md_o (blk_at _ _ _), b_some, e1, b_some, md_o (blk_at _ _ _), b_some, e2, b2_some, if_neg n10, md_f23 (blk_at _ _ _), b_some, a2.2.2.2.2.1]
        by_cases k2 : tkK c n (tkE c n (tkE c n p)) = 2
        · have nv : ¬ tkV c n (tkE c n (tkE c n p)) = tkV c n (tkE c n p) := fun e => o2 ⟨k2, by rw [e]; exact o1.2⟩
          rw [k2, if_pos (show nI 2 = 2 from rfl), md_f24 (blk_at _ _ _), b_some, md_f26 (blk_at _ _ _), b_some, v8_0, b_some, u0, a2.2.2.2.2.2 k2, if_neg nv, md_o (blk_at _ _ _), b_some, g8_num_no a2 o2, b2_some, if_pos rfl]
        · rw [if_neg (nl2 (by have := tkK_le c n (tkE c n (tkE c n p)); omega) k2), md_o (blk_at _ _ _), b_some, g8_num_no a2 o2, b2_some, if_pos rfl]
  · refine ⟨.inl (tkS c n (tkE c n p)), s1, fun h g it hx a => COut_f (H := H) (s := s) ?_, fun h m a => ROut_f ?_⟩
    · obtain ⟨g1, e1, a1⟩ := g_advC (H := H) (s := s) hx hn hp a
      have e2 := g_num_no (b := b) (d := d) (t := t) (H := H) (s := s) (h := h) a1 o1
      have F5 : (sS g1 5 (nI (tkS c n (tkE c n p)))).1 5 = nI (tkS c n (tkE c n p)) := rfl
      refine ⟨sS g1 5 (nI (tkS c n (tkE c n p))), ?_, rfl, a1.2.2.2.2.2.2⟩
      show f_X4_takeDoor _ b d = _
      rw [f_X4_takeDoor, rd_o hc_at, b_some, e1, b_some, rd_o hc_at, b_some, e2, b2_some, rd_f3 hc_at, b_some, rd_o hc_at, b_some, g_num_f (f := tkS c n (tkE c n p)) (by omega) F5, b2_some, rd_f6 hc_at, b_some, F5, if_neg (nI_n1 (by omega)), b_some, rd_o hc_at, b_some, g_num_f (f := tkS c n (tkE c n p)) (by omega) F5, b2_some, rd_f6 hc_at, b_some, F5, if_neg (nI_n1 (by omega)), b_some]
    · obtain ⟨m1, e1, a1, -⟩ := g8_behind (b := b8) (h := h) (l := l) (r := r) tx hn hp a
      refine ⟨m1, ?_, a1.1, a1.2.2.1⟩
      show f_X8_takesDoor _ b8 = _
      rw [f_X8_takesDoor, md_o (blk_at _ _ _), b_some, e1, b_some, md_o (blk_at _ _ _), b_some, g8_num_no a1 o1, b2_some, if_pos rfl]
/-- a list so far: j rooms of it -/
def LR (H : Blk) (N : Nat → Int32) (j : Nat) (H' : Blk) (N' : Nat → Int32) : Prop := (∀ k, ¬ k = 2 → H'.1 k = H.1 k) ∧ (1 ≤ j → H'.1 2 = nI j) ∧ (∀ k, ¬ k = 2 → H'.2 k = H.2 k) ∧ (∀ q, ¬ (79 ≤ q ∧ q < 79 + j) → N' q = N q) ∧ ∀ q, q < j → N' (79 + q) = H'.2 2 q
theorem LR.step {j : Nat} {H' : Blk} {N' : Nat → Int32} {x : Int32} (a : LR H N j H' N') : LR H N (j + 1) (sS (sA H' 2 j x) 2 (nI (j + 1))) (upd N' (79 + j) x) := by
  obtain ⟨a1, a2, a3, a4, a5⟩ := a
  refine ⟨fun k hk => by rw [sS_1, if_neg hk]; exact a1 k hk, fun _ => rfl, fun k hk => by rw [sS_2, sA_row hk]; exact a3 k hk, fun q hq => by rw [upd_v, if_neg (by omega)]; exact a4 q (by omega), fun q hq => ?_⟩
  rw [sS_2, sA_2]
  by_cases e : q = j
  · subst e
    rw [upd_v, if_pos rfl, if_pos ⟨rfl, rfl⟩]
  · rw [upd_v, if_neg (by omega), if_neg (fun c => e c.2)]
    exact a5 q (by omega)
theorem ST.listed {k z : Nat} {T : Nat → Blk} {j : Nat} {H' : Blk} {N' : Nat → Int32} (a : ST k H s z T N) (e : LR H N j H' N') (h1 : 1 ≤ j) (h2 : j ≤ 12) : ST k H' s z T (upd N' 4 (nI j)) := by
  obtain ⟨wo, ws, wt, rH, rs, rp⟩ := a
  obtain ⟨a1, a2, a3, a4, a5⟩ := e
  have a2 := a2 h1
  have i1 := wo.1.2.1
  have i3 := wo.2.1.2
  have hm : hM H' = hM H := by unfold hM; rw [a1 3 (by omega)]
  have hs : hS H' = hS H := by unfold hS; rw [a1 4 (by omega)]
  have hl : hL H' = j := by unfold hL; rw [a2]; exact nI_clamp (by omega)
  have ne : ∀ q, ¬ q = 4 → ¬ (79 ≤ q ∧ q < 91) → upd N' 4 (nI j) q = N q := fun q q1 q2 => by rw [upd_v, if_neg q1]; exact a4 q (by omega)
  refine ST.chg0 (H := H) (N := N) ⟨wo, ws, wt, rH, rs, rp⟩ ⟨⟨by rw [a1 3 (by omega), hm]; exact wo.1.1, by omega, by rw [a2, hl], by omega, by omega⟩, ⟨by rw [a1 4 (by omega), hs]; exact wo.2.1.1, by omega⟩, ⟨fun q hq => by rw [a3 0 (by omega)]; exact wo.2.2.1.1 q hq, fun i hi => by rw [a3 4 (by omega)]; exact wo.2.2.1.2.1 i (by omega), by rw [a1 1 (by omega)]; exact wo.2.2.1.2.2⟩, by unfold wfD; rw [a3 1 (by omega)]; exact wo.2.2.2.1, by unfold wfC; rw [a3 1 (by omega)]; exact wo.2.2.2.2⟩ hm ⟨?_, ?_, ?_, ?_, ?_, fun q hq => ?_, fun q hq => ?_, fun q hq => ?_, fun q hq => ?_, fun q hq => ?_⟩ (fun q hq => ne q (by omega) (by omega))
  · rw [ne _ (by omega) (by omega), a1 3 (by omega)]; exact rH.1
  · rw [ne _ (by omega) (by omega), a1 0 (by omega)]; exact rH.2.1
  · rw [ne _ (by omega) (by omega), a1 1 (by omega)]; exact rH.2.2.1
  · rw [upd_v, if_pos rfl, a2]
  · rw [ne _ (by omega) (by omega), a1 4 (by omega)]; exact rH.2.2.2.2.1
  · rw [ne _ (by omega) (by omega), a3 0 (by omega)]; exact rH.2.2.2.2.2.1 q hq
  · rw [ne _ (by omega) (by omega), a3 1 (by omega)]; exact rH.2.2.2.2.2.2.1 q hq
  · rw [hl] at hq
    rw [upd_v, if_neg (by omega)]; exact a5 q hq
  · rw [hm] at hq
    rw [ne _ (by omega) (by omega), ne _ (by omega) (by omega), a3 3 (by omega), a3 4 (by omega)]; exact rH.2.2.2.2.2.2.2.2.1 q hq
  · rw [hs] at hq
    rw [ne _ (by omega) (by omega), ne _ (by omega) (by omega), ne _ (by omega) (by omega), a3 5 (by omega), a3 6 (by omega), a3 7 (by omega)]; exact rH.2.2.2.2.2.2.2.2.2 q hq
theorem j_listL (hd : d + 15 ≤ b) (hn : n ≤ 150) (tx : Tx8 m0 c n) (st : ST 0 H s 0 T00 N) : ∀ (k j f f8 p : Nat) (H' : Blk) (N' : Nat → Int32), j + k = 12 → k < f → k < f8 → p ≤ n → LR H N j H' N' → Jnt b d t b8 l r m0 c n p H' s N' (fun h => f_X4_takeList_6 f h b d (nI j)) (fun h => f_X8_takesList_6 f8 h b8 (nI j)) := by
  intro k
  induction k with
  | zero =>
    intro j f f8 p H' N' hj hf hf8 hp lr
    obtain ⟨f, rfl⟩ : ∃ q, f = q + 1 := ⟨f - 1, by omega⟩
    obtain ⟨f8, rfl⟩ : ∃ q, f8 = q + 1 := ⟨f8 - 1, by omega⟩
    have hj12 : j = 12 := by omega
    subst hj12
    have k4 := tkK_le c n p
    by_cases e : tkK c n p = 2
    · refine ⟨.inl (tkS c n p), (tkS_le hp).2, fun h g it hx a => ⟨g, H', s, ?_, a.2.2.2.2.2.2, Or.inr ⟨p, a, by omega, rfl⟩⟩, fun h m a => ROut_f ⟨m, ?_, a.1, a.2.2.1⟩⟩
      · show f_X4_takeList_6 _ _ b d _ = _
        rw [f_X4_takeList_6, if_pos (show (12 : Int32) ≤ nI 12 by decide)]
      · show f_X8_takesList_6 _ _ b8 _ = _
        rw [f_X8_takesList_6, if_neg (show ¬ nI 12 = 0 by decide), md_f23 (blk_at _ _ _), b_some, a.2.2.2.2.1, e, if_pos (show nI 2 = 2 from rfl), if_pos (show nI 12 = 12 from rfl)]
    · refine ⟨finO c n p H' s (upd N' 4 (nI 12)), good_fin (Nat.le_refl _) hp (st.listed lr (by omega) (by omega)), fun h g it hx a => COut_fin ⟨g, ?_, a⟩, fun h m a => ROut_fin ⟨sB m 14 (upd N' 4 (nI 12)), ?_, a.new⟩⟩
      · show f_X4_takeList_6 _ _ b d _ = _
        rw [f_X4_takeList_6, if_pos (show (12 : Int32) ≤ nI 12 by decide)]
      · have w4 := md_w17 (h := h) (b := b8) (s := m) (l := l) (r := r) (i := 4) (x := nI 12) (by omega)
        rw [sA_now, a.2.1, show nI 4 = 4 from rfl] at w4
        show f_X8_takesList_6 _ _ b8 _ = _
        rw [f_X8_takesList_6, if_neg (show ¬ nI 12 = 0 by decide), md_f23 (blk_at _ _ _), b_some, a.2.2.2.2.1, if_neg (nl2 (by omega) e), md_f25 (blk_at _ _ _), b_some, w4, b_some]
  | succ k ih =>
    intro j f f8 p H' N' hj hf hf8 hp lr
    obtain ⟨f, rfl⟩ : ∃ q, f = q + 1 := ⟨f - 1, by omega⟩
    obtain ⟨f8, rfl⟩ : ∃ q, f8 = q + 1 := ⟨f8 - 1, by omega⟩
    obtain ⟨p1, hp1⟩ := tkE_ge (c := c) hp
    have k4 := tkK_le c n p
    have c12 : ¬ (12 : Int32) ≤ nI j := nI_ge (b := 12) (by omega) (by omega)
    have d12 : ¬ nI j = 12 := fun e => by have := (nI_eq (b := 12) (by omega) (by omega)).mp e; omega
    have sS0 := (tkS_le (c := c) hp).2
    by_cases go : j = 0 ∨ tkK c n p = 2
    · by_cases o1 : okN c n p 0 7
      · obtain ⟨o, go1, co, ro⟩ := ih (j + 1) f f8 (tkE c n p) (sS (sA H' 2 j (tkV c n p)) 2 (nI (j + 1))) (upd N' (79 + j) (tkV c n p)) (by omega) (by omega) (by omega) hp1 lr.step
        refine ⟨o, good_mono p1 go1, fun h g it hx a => ?_, fun h m a => ?_⟩
        · obtain ⟨g1, e1, a1⟩ := g_num_ok (H := H') (s := s) hx hn hp a o1
          have := co h g1 it hx a1
          show COut b d t h c n it o (f_X4_takeList_6 (f + 1) _ b d (nI j))
          rw [f_X4_takeList_6, if_neg c12]
          by_cases j0 : j = 0
          · rw [if_pos (by rw [j0]; rfl), rd_o hc_at, b_some, e1, b2_some, rd_f6 hc_at, b_some, a1.2.2.2.2.2.1, if_pos rfl, hh_f4 (hc_ho hd), b_some, hc_w3 hd (by omega), b_some, nI_1, pI, hc_hp5 hd, b_some]
            exact this
          · rw [if_neg (nl0 (by omega) j0), rd_f4 hc_at, b_some, a.2.2.2.1, o1.1, if_pos (show nI 2 = 2 from rfl), rd_o hc_at, b_some, e1, b2_some, rd_f6 hc_at, b_some, a1.2.2.2.2.2.1, if_pos rfl, hh_f4 (hc_ho hd), b_some, hc_w3 hd (by omega), b_some, nI_1, pI, hc_hp5 hd, b_some]
            exact this
        · obtain ⟨m1, e1, a1, v1⟩ := g8_num_ok (b := b8) (h := h) (l := l) (r := r) (k := 0) (i := 0) tx hn hp (by omega) rfl a o1
          have u0 : m1.2 15 0 = tkV c n p := by rw [v1, upd_v, if_pos rfl]
          have x79 : (79 : Int32) + nI j = nI (79 + j) := nI_add 79 j
          have := ro h (sB m1 14 (upd N' (79 + j) (tkV c n p))) a1.new
          show ROut b8 l r h m0 c n o (f_X8_takesList_6 (f8 + 1) _ b8 (nI j))
          rw [f_X8_takesList_6]
          by_cases j0 : j = 0
          · rw [if_pos (by rw [j0]; rfl), if_neg d12, md_o (blk_at _ _ _), b_some, e1, b2_some, if_neg n10, md_f25 (blk_at _ _ _), b_some, md_f26 (blk_at _ _ _), b_some, v8_0, b_some, u0, x79, md_w17 (by omega), sA_now, a1.2.1, b_some, nI_1]
            exact this
          · rw [if_neg (nl0 (by omega) j0), md_f23 (blk_at _ _ _), b_some, a.2.2.2.2.1, o1.1, if_pos (show nI 2 = 2 from rfl), if_neg d12, md_o (blk_at _ _ _), b_some, e1, b2_some, if_neg n10, md_f25 (blk_at _ _ _), b_some, md_f26 (blk_at _ _ _), b_some, v8_0, b_some, u0, x79, md_w17 (by omega), sA_now, a1.2.1, b_some, nI_1]
            exact this
      · refine ⟨.inl (tkS c n p), sS0, fun h g it hx a => COut_f (H := H') (s := s) ⟨sS g 5 (nI (tkS c n p)), ?_, rfl, a.2.2.2.2.2.2⟩, fun h m a => ROut_f ⟨m, ?_, a.1, a.2.2.1⟩⟩
        · have e1 := g_num_no (b := b) (d := d) (t := t) (H := H') (s := s) (h := h) a o1
          have F5 : (sS g 5 (nI (tkS c n p))).1 5 = nI (tkS c n p) := rfl
          show f_X4_takeList_6 (f + 1) _ b d (nI j) = _
          rw [f_X4_takeList_6, if_neg c12]
          by_cases j0 : j = 0
          · rw [if_pos (by rw [j0]; rfl), rd_o hc_at, b_some, e1, b2_some, rd_f6 hc_at, b_some, F5, if_neg (nI_n1 (by omega))]
          · have k2 : tkK c n p = 2 := go.elim (fun e => absurd e j0) id
            rw [if_neg (nl0 (by omega) j0), rd_f4 hc_at, b_some, a.2.2.2.1, k2, if_pos (show nI 2 = 2 from rfl), rd_o hc_at, b_some, e1, b2_some, rd_f6 hc_at, b_some, F5, if_neg (nI_n1 (by omega))]
        · show f_X8_takesList_6 (f8 + 1) _ b8 (nI j) = _
          rw [f_X8_takesList_6]
          by_cases j0 : j = 0
          · rw [if_pos (by rw [j0]; rfl), if_neg d12, md_o (blk_at _ _ _), b_some, g8_num_no a o1, b2_some, if_pos rfl]
          · have k2 : tkK c n p = 2 := go.elim (fun e => absurd e j0) id
            rw [if_neg (nl0 (by omega) j0), md_f23 (blk_at _ _ _), b_some, a.2.2.2.2.1, k2, if_pos (show nI 2 = 2 from rfl), if_neg d12, md_o (blk_at _ _ _), b_some, g8_num_no a o1, b2_some, if_pos rfl]
    · have j0 : ¬ j = 0 := fun e => go (Or.inl e)
      have k2 : ¬ tkK c n p = 2 := fun e => go (Or.inr e)
      refine ⟨finO c n p H' s (upd N' 4 (nI j)), good_fin (Nat.le_refl _) hp (st.listed lr (by omega) (by omega)), fun h g it hx a => COut_fin ⟨g, ?_, a⟩, fun h m a => ROut_fin ⟨sB m 14 (upd N' 4 (nI j)), ?_, a.new⟩⟩
      · show f_X4_takeList_6 (f + 1) _ b d (nI j) = _
        rw [f_X4_takeList_6, if_neg c12, if_neg (nl0 (by omega) j0), rd_f4 hc_at, b_some, a.2.2.2.1, if_neg (nl2 (by omega) k2)]
      · have w4 := md_w17 (h := h) (b := b8) (s := m) (l := l) (r := r) (i := 4) (x := nI j) (by omega)
        rw [sA_now, a.2.1, show nI 4 = 4 from rfl] at w4
        show f_X8_takesList_6 (f8 + 1) _ b8 (nI j) = _
        rw [f_X8_takesList_6, if_neg (nl0 (by omega) j0), md_f23 (blk_at _ _ _), b_some, a.2.2.2.2.1, if_neg (nl2 (by omega) k2), md_f25 (blk_at _ _ _), b_some, w4, b_some]
theorem j_list (hd : d + 15 ≤ b) (hn : n ≤ 150) (tx : Tx8 m0 c n) (hp : p ≤ n) (st : ST 0 H s 0 T00 N) : Jnt b d t b8 l r m0 c n p H s N (fun h => f_X4_takeList h b d) (fun h => f_X8_takesList h b8) := by
  obtain ⟨p1, hp1⟩ := tkE_ge (c := c) hp
  have lr : LR H N 0 H N := ⟨fun _ _ => rfl, fun e => absurd e (by omega), fun _ _ => rfl, fun _ _ => rfl, fun q hq => absurd hq (by omega)⟩
  obtain ⟨o, go, co, ro⟩ := j_listL (b := b) (d := d) (t := t) (b8 := b8) (l := l) (r := r) hd hn tx st 12 0 lots lots (tkE c n p) H N (by omega) (by simp only [lots]; omega) (by simp only [lots]; omega) hp1 lr
  refine ⟨o, good_mono p1 go, fun h g it hx a => ?_, fun h m a => ?_⟩
  · obtain ⟨g1, e1, a1⟩ := g_advC (H := H) (s := s) hx hn hp a
    have := co h g1 it hx a1
    show COut b d t h c n it o (f_X4_takeList _ b d)
    rw [f_X4_takeList, rd_o hc_at, b_some, e1, b_some]
    exact this
  · obtain ⟨m1, e1, a1, -⟩ := g8_behind (b := b8) (h := h) (l := l) (r := r) tx hn hp a
    have := ro h m1 a1
    show ROut b8 l r h m0 c n o (f_X8_takesList _ b8)
    rw [f_X8_takesList, md_o (blk_at _ _ _), b_some, e1, b_some]
    exact this
end
