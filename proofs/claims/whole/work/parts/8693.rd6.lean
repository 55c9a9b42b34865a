/-! ===== reading: a whole item, the first, all of them ===== -/
def bodyF (a0 a1 : Nat) (h : Hea) : Option Hea :=
  (isO h a0 4).bind fun _ =>
  (f_X4_isWord h a0 0).bind fun x3 =>
  if x3 = 0 then (
    (isO h a0 4).bind fun _ =>
    (f_X4_isWord h a0 1).bind fun x4 =>
    if x4 = 0 then (
      (isO h a0 4).bind fun _ =>
      (f_X4_isWord h a0 2).bind fun x5 =>
      if x5 = 0 then (
        (isO h a0 4).bind fun _ =>
        (f_X4_isWord h a0 3).bind fun x6 =>
        if x6 = 0 then (
          (gI h a0 4 3).bind fun x7 =>
          (pI h a0 4 6 x7).bind fun h8 =>
          some h8
        ) else (
          (gI h a1 1 6).bind fun x9 =>
          if 6 ≤ x9 then (
            (gI h a0 4 3).bind fun x10 =>
            (pI h a0 4 6 x10).bind fun h11 =>
            some h11
          ) else (
            (isO h a0 4).bind fun _ =>
            (f_X4_takeHeir h a0 a1).bind fun h12 =>
            some h12
          )
        )
      ) else (
        (isO h a0 4).bind fun _ =>
        (f_X4_takeList h a0 a1).bind fun h13 =>
        some h13
      )
    ) else (
      (isO h a0 4).bind fun _ =>
      (f_X4_takeDoor h a0 a1).bind fun h14 =>
      some h14
    )
  ) else (
    (isO h a0 4).bind fun _ =>
    (f_X4_takeRoom h a0 a1).bind fun h15 =>
    some h15
  )
/-- the stop behind an item, and the item counted -/
def stopF (a0 : Nat) (h2 : Hea) : Option Hea :=
  (isO h2 a0 4).bind fun _ =>
  (f_X4_takeStop h2 a0).bind fun h17 =>
  (gI h17 a0 4 7).bind fun x18 =>
  (pI h17 a0 4 7 (x18 + 1)).bind fun h19 =>
  some h19
theorem item_n (h : Hea) (a0 a1 : Nat) {x : Int32} (e : gI h a0 4 7 = some x) (hx : ¬ x = 0) : f_X4_takeItem h a0 a1 = (bodyF a0 a1 h).bind (stopF a0) := by
  rw [f_X4_takeItem, e, b_some, if_neg hx]; rfl
theorem item_0 (h : Hea) (a0 a1 : Nat) (e : gI h a0 4 7 = some 0) : f_X4_takeItem h a0 a1 = ((isO h a0 4).bind fun _ => (f_X4_takeHouse h a0 a1).bind fun h16 => some h16).bind (stopF a0) := by
  rw [f_X4_takeItem, e, b_some, if_pos rfl]; rfl
theorem bind_id {α : Type} (x : Option α) : (x.bind fun y => some y) = x := by cases x <;> rfl
section
variable {b d t b8 : Nat} {H s : Blk} {c : Nat → Int32} {n p : Nat} {N : Nat → Int32} {l : Nat → Int64} {r : Nat → Nat → Int64} {m0 : Blk}
theorem ROut_zb {h : Hea} {o : OutT} {res : Option (Int32 × Hea)} (e : ROut b8 l r h m0 c n o res) : ROut b8 l r h m0 c n o (bind2 res fun x h14 => (zb x).bind fun z => some (z, h14)) := by
  cases o with
  | inl f =>
    obtain ⟨m, x, e1, e2, e3, e4⟩ := e
    refine ⟨m, x, ?_, e2, e3, e4⟩
    rw [e1, b2_some]
    rcases e4 with rfl | ⟨rfl, -⟩ <;> rfl
  | inr q =>
    obtain ⟨m, e1, e2⟩ := e
    refine ⟨m, ?_, e2⟩
    rw [e1, b2_some]; rfl
theorem ROut_01 {h : Hea} {o : OutT} {res : Option (Int32 × Hea)} (e : ROut b8 l r h m0 c n o res) : ROut b8 l r h m0 c n o (bind2 (bind2 res fun x7 h8 => if x7 = 0 then some ((0 : Int32), h8) else some ((1 : Int32), h8)) fun x h14 => (zb x).bind fun z => some (z, h14)) := by
  cases o with
  | inl f =>
    obtain ⟨m, x, e1, e2, e3, e4⟩ := e
    refine ⟨m, x, ?_, e2, e3, e4⟩
    rw [e1, b2_some]
    rcases e4 with rfl | ⟨rfl, -⟩ <;> rfl
  | inr q =>
    obtain ⟨m, e1, e2⟩ := e
    refine ⟨m, ?_, e2⟩
    rw [e1, b2_some]; rfl
theorem j_body (hd : d + 15 ≤ b) (hn : n ≤ 150) (tx : Tx8 m0 c n) (hp : p ≤ n) (st : ST 0 H s 0 T00 N) : Jnt b d t b8 l r m0 c n p H s N (fun h => bodyF b d h) (fun h => f_X8_takesItem h b8) := by
  have cw0 := fun (h : Hea) (g : Blk) (it : Int32) (hx : Txt b d t h c n) (a : CC c n p (-1) it g) => g_word (b := b) (d := d) (t := t) (H := H) (s := s) hx hn hp (by omega) ws_len.1 ws_0 a
  have cw1 := fun (h : Hea) (g : Blk) (it : Int32) (hx : Txt b d t h c n) (a : CC c n p (-1) it g) => g_word (b := b) (d := d) (t := t) (H := H) (s := s) hx hn hp (by omega) ws_len.2.1 ws_1 a
  have cw2 := fun (h : Hea) (g : Blk) (it : Int32) (hx : Txt b d t h c n) (a : CC c n p (-1) it g) => g_word (b := b) (d := d) (t := t) (H := H) (s := s) hx hn hp (by omega) ws_len.2.2.1 ws_2 a
  have cw3 := fun (h : Hea) (g : Blk) (it : Int32) (hx : Txt b d t h c n) (a : CC c n p (-1) it g) => g_word (b := b) (d := d) (t := t) (H := H) (s := s) hx hn hp (by omega) ws_len.2.2.2.1 ws_3 a
  have rw0 := fun (h : Hea) (m : Blk) (a : CR m0 c n p N m) => g8_word (b := b8) (h := h) (l := l) (r := r) (len := 4) (a0 := 114) (a1 := 111) (a2 := 111) (a3 := 109) (a4 := 0) tx hn hp (by omega) a
  have rw1 := fun (h : Hea) (m : Blk) (a : CR m0 c n p N m) => g8_word (b := b8) (h := h) (l := l) (r := r) (len := 4) (a0 := 100) (a1 := 111) (a2 := 111) (a3 := 114) (a4 := 0) tx hn hp (by omega) a
  have rw2 := fun (h : Hea) (m : Blk) (a : CR m0 c n p N m) => g8_word (b := b8) (h := h) (l := l) (r := r) (len := 4) (a0 := 108) (a1 := 105) (a2 := 115) (a3 := 116) (a4 := 0) tx hn hp (by omega) a
  have rw3 := fun (h : Hea) (m : Blk) (a : CR m0 c n p N m) => g8_word (b := b8) (h := h) (l := l) (r := r) (len := 4) (a0 := 104) (a1 := 101) (a2 := 105) (a3 := 114) (a4 := 0) tx hn hp (by omega) a
  simp only [show nI 4 = 4 from rfl] at rw0 rw1 rw2 rw3
  have s0 := (tkS_le (c := c) hp).2
  by_cases w0 : isW c n p 4 (phi 114 111 111 109 0) = true
  · obtain ⟨o, go, co, ro⟩ := j_room (b := b) (d := d) (t := t) (b8 := b8) (l := l) (r := r) hd hn tx hp st
    refine ⟨o, go, fun h g it hx a => ?_, fun h m a => ?_⟩
    · have := co h g it hx a
      show COut b d t h c n it o (bodyF b d _)
      rw [bodyF, rd_o hc_at, b_some, cw0 h g it hx a, b_some, if_pos w0, if_neg n10, b_some, bind_id]
      exact this
    · have := ro h m a
      show ROut b8 l r h m0 c n o (f_X8_takesItem _ b8)
      rw [f_X8_takesItem, md_o (blk_at _ _ _), b_some, rw0 h m a, b_some, if_pos w0, if_neg n10, b_some]
      exact ROut_zb this
  by_cases w1 : isW c n p 4 (phi 100 111 111 114 0) = true
  · obtain ⟨o, go, co, ro⟩ := j_door (b := b) (d := d) (t := t) (b8 := b8) (l := l) (r := r) hd hn tx hp st
    refine ⟨o, go, fun h g it hx a => ?_, fun h m a => ?_⟩
    · have := co h g it hx a
      show COut b d t h c n it o (bodyF b d _)
      rw [bodyF, rd_o hc_at, b_some, cw0 h g it hx a, b_some, if_neg w0, if_pos rfl, b_some, cw1 h g it hx a, b_some, if_pos w1, if_neg n10, b_some, bind_id]
      exact this
    · have := ro h m a
      show ROut b8 l r h m0 c n o (f_X8_takesItem _ b8)
      rw [f_X8_takesItem, md_o (blk_at _ _ _), b_some, rw0 h m a, b_some, if_neg w0, if_pos rfl, b_some, rw1 h m a, b_some, if_pos w1, if_neg n10, b_some]
      exact ROut_zb this
  by_cases w2 : isW c n p 4 (phi 108 105 115 116 0) = true
  · obtain ⟨o, go, co, ro⟩ := j_list (b := b) (d := d) (t := t) (b8 := b8) (l := l) (r := r) hd hn tx hp st
    refine ⟨o, go, fun h g it hx a => ?_, fun h m a => ?_⟩
    · have := co h g it hx a
      show COut b d t h c n it o (bodyF b d _)
      rw [bodyF, rd_o hc_at, b_some, cw0 h g it hx a, b_some, if_neg w0, if_pos rfl, b_some, cw1 h g it hx a, b_some, if_neg w1, if_pos rfl, b_some, cw2 h g it hx a, b_some, if_pos w2, if_neg n10, b_some, bind_id]
      exact this
    · have := ro h m a
      show ROut b8 l r h m0 c n o (f_X8_takesItem _ b8)
      rw [f_X8_takesItem, md_o (blk_at _ _ _), b_some, rw0 h m a, b_some, if_neg w0, if_pos rfl, b_some, rw1 h m a, b_some, if_neg w1, if_pos rfl, b_some, rw2 h m a, b_some, if_pos w2, if_neg n10, b_some]
      exact ROut_zb this
  by_cases w3 : isW c n p 4 (phi 104 101 105 114 0) = true
  · have h6 := st.1.1.2.1
    by_cases c6 : hM H = 6
    · have n0 : N 0 = nI 6 := by rw [st.2.2.2.1.1, ← c6]; exact st.1.1.1
      have x6 : H.1 3 = nI 6 := by rw [← c6]; exact st.1.1.1
      refine ⟨.inl (tkS c n p), s0, fun h g it hx a => COut_f (H := H) (s := s) ⟨sS g 5 (nI (tkS c n p)), ?_, rfl, a.2.2.2.2.2.2⟩, fun h m a => ?_⟩
      · show bodyF b d _ = _
        rw [bodyF, rd_o hc_at, b_some, cw0 h g it hx a, b_some, if_neg w0, if_pos rfl, b_some, cw1 h g it hx a, b_some, if_neg w1, if_pos rfl, b_some, cw2 h g it hx a, b_some, if_neg w2, if_pos rfl, b_some, cw3 h g it hx a, b_some, if_pos w3, if_neg n10, hh_f6 (hc_ho hd), b_some, x6, if_pos (show (6 : Int32) ≤ nI 6 by decide), rd_f3 hc_at, b_some, a.2.2.1, pI, hc_p6, b_some]
      · have l0 := md_m17 (i := 0) (blk_at b8 (mdL b8 m l r) h) (by omega)
        rw [nI_0, a.2.1, n0] at l0
        have this : ROut b8 l r h m0 c n (.inl (tkS c n p)) (f_X8_takesHeir (blk b8 (mdL b8 m l r) h) b8) := ROut_f ⟨m, by rw [f_X8_takesHeir, md_f25 (blk_at _ _ _), b_some, l0, b_some, if_pos (show nI 6 = 6 from rfl)], a.1, a.2.2.1⟩
        show ROut b8 l r h m0 c n _ (f_X8_takesItem _ b8)
        rw [f_X8_takesItem, md_o (blk_at _ _ _), b_some, rw0 h m a, b_some, if_neg w0, if_pos rfl, b_some, rw1 h m a, b_some, if_neg w1, if_pos rfl, b_some, rw2 h m a, b_some, if_neg w2, if_pos rfl, b_some, rw3 h m a, b_some, if_pos w3, if_neg n10, b_some]
        exact ROut_01 this
    · obtain ⟨o, go, co, ro⟩ := j_heir (b := b) (d := d) (t := t) (b8 := b8) (l := l) (r := r) hd hn tx hp st (by omega)
      have x6 : ¬ (6 : Int32) ≤ H.1 3 := by rw [st.1.1.1]; exact nI_ge (b := 6) (by omega) (by omega)
      refine ⟨o, go, fun h g it hx a => ?_, fun h m a => ?_⟩
      · have := co h g it hx a
        show COut b d t h c n it o (bodyF b d _)
        rw [bodyF, rd_o hc_at, b_some, cw0 h g it hx a, b_some, if_neg w0, if_pos rfl, b_some, cw1 h g it hx a, b_some, if_neg w1, if_pos rfl, b_some, cw2 h g it hx a, b_some, if_neg w2, if_pos rfl, b_some, cw3 h g it hx a, b_some, if_pos w3, if_neg n10, hh_f6 (hc_ho hd), b_some, if_neg x6, b_some, bind_id]
        exact this
      · have := ro h m a
        show ROut b8 l r h m0 c n o (f_X8_takesItem _ b8)
        rw [f_X8_takesItem, md_o (blk_at _ _ _), b_some, rw0 h m a, b_some, if_neg w0, if_pos rfl, b_some, rw1 h m a, b_some, if_neg w1, if_pos rfl, b_some, rw2 h m a, b_some, if_neg w2, if_pos rfl, b_some, rw3 h m a, b_some, if_pos w3, if_neg n10, b_some]
        exact ROut_01 this
  · refine ⟨.inl (tkS c n p), s0, fun h g it hx a => COut_f (H := H) (s := s) ⟨sS g 5 (nI (tkS c n p)), ?_, rfl, a.2.2.2.2.2.2⟩, fun h m a => ROut_f ⟨m, ?_, a.1, a.2.2.1⟩⟩
    · show bodyF b d _ = _
      rw [bodyF, rd_o hc_at, b_some, cw0 h g it hx a, b_some, if_neg w0, if_pos rfl, b_some, cw1 h g it hx a, b_some, if_neg w1, if_pos rfl, b_some, cw2 h g it hx a, b_some, if_neg w2, if_pos rfl, b_some, cw3 h g it hx a, b_some, if_neg w3, if_pos rfl, rd_f3 hc_at, b_some, a.2.2.1, pI, hc_p6, b_some]
    · show f_X8_takesItem _ b8 = _
      rw [f_X8_takesItem, md_o (blk_at _ _ _), b_some, rw0 h m a, b_some, if_neg w0, if_pos rfl, b_some, rw1 h m a, b_some, if_neg w1, if_pos rfl, b_some, rw2 h m a, b_some, if_neg w2, if_pos rfl, b_some, rw3 h m a, b_some, if_neg w3, if_pos rfl, b2_some]
      rfl
/-- the first item -/
theorem j_first (hd : d + 15 ≤ b) (hn : n ≤ 150) (tx : Tx8 m0 c n) (hp : p ≤ n) : ∃ o, goodO c n p o ∧ (∀ (h : Hea) (g : Blk) (it : Int32), Txt b d t h c n → CC c n p (-1) it g → COut b d t h c n it o (f_X4_takeHouse (hcB b d t g H s h) b d)) ∧ (∀ (h : Hea) (m : Blk), CR m0 c n p N m → match o with
    | .inl f => ∃ m', f_X8_takesFirst (blk b8 (mdL b8 m l r) h) b8 = some (0, blk b8 (mdL b8 m' l r) h) ∧ RS m0 m' ∧ m'.1 3 = nI f
    | .inr (p', _, _, N') => ∃ m', f_X8_takesFirst (blk b8 (mdL b8 m l r) h) b8 = some (1, blk b8 (mdL b8 m' l r) h) ∧ CR m0 c n p' N' m') := by
  obtain ⟨p1, hp1⟩ := tkE_ge (c := c) hp
  obtain ⟨p2, hp2⟩ := tkE_ge (c := c) hp1
  obtain ⟨p3, hp3⟩ := tkE_ge (c := c) hp2
  have s0 := (tkS_le (c := c) hp).2
  have s1 := (tkS_le (c := c) hp1).2
  have s2 := (tkS_le (c := c) hp2).2
  have cw := fun (h : Hea) (g : Blk) (it : Int32) (hx : Txt b d t h c n) (a : CC c n p (-1) it g) => g_word (b := b) (d := d) (t := t) (H := H) (s := s) hx hn hp (by omega) ws_len.2.2.2.2 ws_4 a
  have rw0 := fun (h : Hea) (m : Blk) (a : CR m0 c n p N m) => g8_word (b := b8) (h := h) (l := l) (r := r) (len := 5) (a0 := 104) (a1 := 111) (a2 := 117) (a3 := 115) (a4 := 101) tx hn hp (by omega) a
  simp only [show nI 5 = 5 from rfl] at rw0
  by_cases w : isW c n p 5 (phi 104 111 117 115 101) = true
  · by_cases o1 : okN c n (tkE c n p) 0 25
    · by_cases o2 : okN c n (tkE c n (tkE c n p)) 0 25
      · obtain ⟨x, hx25, ex⟩ := wi_n (hi := 25) (by omega) o1.2
        obtain ⟨y, hy25, ey⟩ := wi_n (hi := 25) (by omega) o2.2
        have ref : ∀ (h : Hea) (m : Blk), CR m0 c n p N m → ∃ m', f_X8_takesFirst (blk b8 (mdL b8 m l r) h) b8 = some (if tkK c n (tkE c n (tkE c n (tkE c n p))) = 3 then 1 else 0, blk b8 (mdL b8 m' l r) h) ∧ CR m0 c n (tkE c n (tkE c n (tkE c n p))) (beginN N (nI x) (nI y)) m' := by
          intro h m a
          obtain ⟨m1, e1, a1, -⟩ := g8_behind (b := b8) (h := h) (l := l) (r := r) tx hn hp a
          obtain ⟨m2, e2, a2, v2⟩ := g8_num_ok (b := b8) (h := h) (l := l) (r := r) (k := 0) (i := 0) tx hn hp1 (by omega) rfl a1 o1
          obtain ⟨m3, e3, a3, v3⟩ := g8_num_ok (b := b8) (h := h) (l := l) (r := r) (k := 1) (i := 1) tx hn hp2 (by omega) rfl a2 o2
          have u0 : m3.2 15 0 = nI x := by rw [v3, upd_v, if_neg (by omega), v2, upd_v, if_pos rfl, ex]
          have u1 : m3.2 15 1 = nI y := by rw [v3, upd_v, if_pos rfl, ey]
          have a4 : CR m0 c n (tkE c n (tkE c n (tkE c n p))) (beginN N (nI x) (nI y)) (sB m3 14 (beginN N (nI x) (nI y))) := a3.new
          refine ⟨sB m3 14 (beginN N (nI x) (nI y)), ?_, a4⟩
          rw [f_X8_takesFirst, md_o (blk_at _ _ _), b_some, rw0 h m a, b_some, if_pos w, if_neg n10, b_some, e1, b_some, md_o (blk_at _ _ _), b_some, e2, b2_some, if_neg n10, md_o (blk_at _ _ _), b_some, e3, b2_some, if_neg n10, md_f25 (blk_at _ _ _), b_some, md_f26 (blk_at _ _ _), b_some, v8_0, b_some, b_some, v8_1, b_some, u0, u1, new_begin, a3.2.1, b_some, md_f23 (blk_at _ _ _), b_some, a4.2.2.2.2.1]
          by_cases k3 : tkK c n (tkE c n (tkE c n (tkE c n p))) = 3
          · rw [k3, if_pos (show nI 3 = 3 from rfl), if_pos rfl]; rfl
          · rw [if_neg (nl3 (by have := tkK_le c n (tkE c n (tkE c n (tkE c n p))); omega) k3), if_neg k3]; rfl
        refine ⟨finO c n (tkE c n (tkE c n (tkE c n p))) (beginH H (nI x) (nI y)) (sS s 0 0) (beginN N (nI x) (nI y)), good_fin (by omega) hp3 (ST.begin hy25), fun h g it hx a => COut_fin ?_, fun h m a => ?_⟩
        · obtain ⟨g1, e1, a1⟩ := g_advC (H := H) (s := s) hx hn hp a
          obtain ⟨g2, e2, a2⟩ := g_num_ok (H := H) (s := s) hx hn hp1 a1 o1
          obtain ⟨g3, e3, a3⟩ := g_num_ok (H := H) (s := s) hx hn hp2 a2 o2
          rw [ex] at e2
          rw [ey] at e3
          refine ⟨g3, ?_, a3⟩
          rw [f_X4_takeHouse, rd_o hc_at, b_some, cw h g it hx a, b_some, if_pos w, if_neg n10, b_some, e1, b_some, rd_o hc_at, b_some, e2, b2_some, rd_o hc_at, b_some, e3, b2_some, rd_f6 hc_at, b_some, a3.2.2.2.2.2.1, if_pos rfl, hh_o (hc_ho hd), b_some, hc_restart hd, b_some, b_some]
        · obtain ⟨m', e1, e2⟩ := ref h m a
          unfold finO
          by_cases k3 : tkK c n (tkE c n (tkE c n (tkE c n p))) = 3
          · rw [if_pos k3] at e1
            rw [if_pos k3]
            exact ⟨m', e1, e2⟩
          · rw [if_neg k3] at e1
            rw [if_neg k3]
            exact ⟨m', e1, e2.1, e2.2.2.1⟩
      · refine ⟨.inl (tkS c n (tkE c n (tkE c n p))), s2, fun h g it hx a => COut_f (H := H) (s := s) ?_, fun h m a => ?_⟩
        · obtain ⟨g1, e1, a1⟩ := g_advC (H := H) (s := s) hx hn hp a
          obtain ⟨g2, e2, a2⟩ := g_num_ok (H := H) (s := s) hx hn hp1 a1 o1
          have e3 := g_num_no (b := b) (d := d) (t := t) (H := H) (s := s) (h := h) a2 o2
          refine ⟨sS g2 5 (nI (tkS c n (tkE c n (tkE c n p)))), ?_, rfl, a2.2.2.2.2.2.2⟩
          have F5 : (sS g2 5 (nI (tkS c n (tkE c n (tkE c n p))))).1 5 = nI (tkS c n (tkE c n (tkE c n p))) := rfl
          rw [f_X4_takeHouse, rd_o hc_at, b_some, cw h g it hx a, b_some, if_pos w, if_neg n10, b_some, e1, b_some, rd_o hc_at, b_some, e2, b2_some, rd_o hc_at, b_some, e3, b2_some, rd_f6 hc_at, b_some, F5, if_neg (nI_n1 (by omega)), b_some]
        · obtain ⟨m1, e1, a1, -⟩ := g8_behind (b := b8) (h := h) (l := l) (r := r) tx hn hp a
          obtain ⟨m2, e2, a2, v2⟩ := g8_num_ok (b := b8) (h := h) (l := l) (r := r) (k := 0) (i := 0) tx hn hp1 (by omega) rfl a1 o1
          refine ⟨m2, ?_, a2.1, a2.2.2.1⟩
          rw [f_X8_takesFirst, md_o (blk_at _ _ _), b_some, rw0 h m a, b_some, if_pos w, if_neg n10, b_some, e1, b_some, md_o (blk_at _ _ _), b_some, e2, b2_some, if_neg n10, md_o (blk_at _ _ _), b_some, g8_num_no a2 o2, b2_some, if_pos rfl]
    · refine ⟨.inl (tkS c n (tkE c n p)), s1, fun h g it hx a => COut_f (H := H) (s := s) ?_, fun h m a => ?_⟩
      · obtain ⟨g1, e1, a1⟩ := g_advC (H := H) (s := s) hx hn hp a
        have e2 := g_num_no (b := b) (d := d) (t := t) (H := H) (s := s) (h := h) a1 o1
        have F5 : (sS g1 5 (nI (tkS c n (tkE c n p)))).1 5 = nI (tkS c n (tkE c n p)) := rfl
        refine ⟨sS g1 5 (nI (tkS c n (tkE c n p))), ?_, rfl, a1.2.2.2.2.2.2⟩
        rw [f_X4_takeHouse, rd_o hc_at, b_some, cw h g it hx a, b_some, if_pos w, if_neg n10, b_some, e1, b_some, rd_o hc_at, b_some, e2, b2_some, rd_o hc_at, b_some, g_num_f (f := tkS c n (tkE c n p)) (by omega) F5, b2_some, rd_f6 hc_at, b_some, F5, if_neg (nI_n1 (by omega)), b_some]
      · obtain ⟨m1, e1, a1, -⟩ := g8_behind (b := b8) (h := h) (l := l) (r := r) tx hn hp a
        refine ⟨m1, ?_, a1.1, a1.2.2.1⟩
        rw [f_X8_takesFirst, md_o (blk_at _ _ _), b_some, rw0 h m a, b_some, if_pos w, if_neg n10, b_some, e1, b_some, md_o (blk_at _ _ _), b_some, g8_num_no a1 o1, b2_some, if_pos rfl]
  · refine ⟨.inl (tkS c n p), s0, fun h g it hx a => COut_f (H := H) (s := s) ⟨sS g 5 (nI (tkS c n p)), ?_, rfl, a.2.2.2.2.2.2⟩, fun h m a => ⟨m, ?_, a.1, a.2.2.1⟩⟩
    · rw [f_X4_takeHouse, rd_o hc_at, b_some, cw h g it hx a, b_some, if_neg w, if_pos rfl, rd_f3 hc_at, b_some, a.2.2.1, pI, hc_p6, b_some]
    · rw [f_X8_takesFirst, md_o (blk_at _ _ _), b_some, rw0 h m a, b_some, if_neg w, if_pos rfl]
/-- behind the stop -/
def COut2 (b d t : Nat) (h : Hea) (c : Nat → Int32) (n : Nat) (it : Int32) (o : OutT) (res : Option Hea) : Prop := match o with
  | .inl f => ∃ g H s, res = some (hcB b d t g H s h) ∧ g.1 5 = nI f
  | .inr (p, H, s, _) => ∃ g, res = some (hcB b d t g H s h) ∧ CC c n (tkE c n p) (-1) (it + 1) g
theorem g_stopI {h : Hea} {it : Int32} {o : OutT} {res : Option Hea} (hx : Txt b d t h c n) (hn : n ≤ 150) (go : goodO c n p o) (e : COut b d t h c n it o res) : COut2 b d t h c n it o (res.bind (stopF b)) := by
  cases o with
  | inl f =>
    obtain ⟨g, H, s, rfl, g6, e⟩ := e
    have hf : f ≤ n := go
    rcases e with e | ⟨p', a, k3, sf⟩
    · refine ⟨sS g 6 (it + 1), H, s, ?_, e⟩
      rw [b_some, stopF, rd_o hc_at, b_some, f_X4_takeStop, rd_f6 hc_at, b_some, e, if_neg (nI_n1 (by omega)), b_some, rd_f6 hc_at, b_some, e, if_neg (nI_n1 (by omega)), b_some, b_some, rd_f7 hc_at, b_some, g6, pI, hc_p7, b_some]
    · have k4 := tkK_le c n p'
      have F5 : (sS g 5 (nI f)).1 5 = nI f := rfl
      have F6 : (sS g 5 (nI f)).1 6 = it := g6
      refine ⟨sS (sS g 5 (nI f)) 6 (it + 1), H, s, ?_, rfl⟩
      rw [b_some, stopF, rd_o hc_at, b_some, f_X4_takeStop, rd_f6 hc_at, b_some, a.2.2.2.2.2.1, if_pos rfl, rd_f4 hc_at, b_some, a.2.2.2.1, if_neg (nl3 (by omega) k3), rd_f3 hc_at, b_some, a.2.2.1, sf, pI, hc_p6, b_some, b_some, rd_f6 hc_at, b_some, F5, if_neg (nI_n1 (by omega)), b_some, b_some, rd_f7 hc_at, b_some, F6, pI, hc_p7, b_some]
  | inr q =>
    obtain ⟨p', H, s, N'⟩ := q
    obtain ⟨g, rfl, a⟩ := e
    obtain ⟨-, hp', k3, -⟩ := go
    obtain ⟨g1, e1, a1⟩ := g_advC (H := H) (s := s) hx hn hp' a
    obtain ⟨b0, b1, b2, b3, b4, b5, b6⟩ := a1
    refine ⟨sS g1 6 (it + 1), ?_, b0, b1, b2, b3, b4, b5, rfl⟩
    rw [b_some, stopF, rd_o hc_at, b_some, f_X4_takeStop, rd_f6 hc_at, b_some, a.2.2.2.2.2.1, if_pos rfl, rd_f4 hc_at, b_some, a.2.2.2.1, k3, if_pos (show nI 3 = 3 from rfl), b_some, rd_f6 hc_at, b_some, a.2.2.2.2.2.1, if_pos rfl, rd_o hc_at, b_some, e1, b_some, b_some, b_some, rd_f7 hc_at, b_some, b6, pI, hc_p7, b_some]
end
