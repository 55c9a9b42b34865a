/-! ===== reading: the whole text; operation: read ===== -/
def RQ (m0 m : Blk) : Prop := m.1 2 = m0.1 2 ∧ ∀ j, 1 ≤ j → j < 14 → m.2 j = m0.2 j
def EndC (b d t : Nat) (h : Hea) (o : OutT) (res : Option Hea) : Prop := match o with
  | .inl f => ∃ g H s, res = some (hcB b d t g H s h) ∧ g.1 5 = nI f
  | .inr (it, H, s, _) => ∃ g, res = some (hcB b d t g H s h) ∧ g.1 5 = -1 ∧ g.1 6 = nI it
def EndR (b : Nat) (l : Nat → Int64) (r : Nat → Nat → Int64) (h : Hea) (m0 : Blk) (o : OutT) (res : Option (Int32 × Hea)) : Prop := match o with
  | .inl f => ∃ m, res = some (-10 - nI f, blk b (mdL b m l r) h) ∧ RS m0 m
  | .inr (it, _, _, N) => ∃ m, res = some (nI it, blk b (mdL b m l r) h) ∧ RQ m0 m ∧ m.2 0 = imG N (m0.2 0) 0 0 151
def EndG (n : Nat) (o : OutT) : Prop := match o with
  | .inl f => f ≤ n
  | .inr (it, H, s, N) => it ≤ 150 ∧ ST 0 H s 0 T00 N
section
variable {b d t b8 : Nat} {H s : Blk} {c : Nat → Int32} {n p : Nat} {N : Nat → Int32} {l : Nat → Int64} {r : Nat → Nat → Int64} {m0 : Blk} {h : Hea}
theorem g8_read68 {m : Blk} : ∀ (k j f : Nat) (F : Nat → Int32), j + k = 151 → k < f → f_X8_read_68 f (blk b (mdL b (sB m 0 F) l r) h) b (nI j) = some (blk b (mdL b (sB m 0 (imG (m.2 14) F 0 j 151)) l r) h) := by
  intro k
  induction k with
  | zero =>
    intro j f F hj hf
    obtain ⟨f, rfl⟩ : ∃ q, f = q + 1 := ⟨f - 1, by omega⟩
    rw [f_X8_read_68, if_pos (show (151 : Int32) ≤ nI j from nI_le (a := 151) (by omega) (by omega)), imG_0 _ _ _ (by omega)]
  | succ k ih =>
    intro j f F hj hf
    obtain ⟨f, rfl⟩ : ∃ q, f = q + 1 := ⟨f - 1, by omega⟩
    have r0 : (sB m 0 F).2 14 j = m.2 14 j := rfl
    have s0 := imG_s (m.2 14) F (D := 0) (j := j) (e := 151) (by omega)
    rw [Nat.zero_add] at s0
    rw [f_X8_read_68, if_neg (show ¬ (151 : Int32) ≤ nI j from nI_ge (b := 151) (by omega) (by omega)), md_f0 (blk_at _ _ _), b_some, md_f25 (blk_at _ _ _), b_some, md_m17 (blk_at _ _ _) (by omega), b_some, r0, md_w1 (by omega), sA_sB, b_some, nI_1, ih (j + 1) f _ (by omega) (by omega), s0]
theorem g8_readEnd {m : Blk} (a : RS m0 m) (m14 : m.2 14 = N) : ∃ m', f_X8_read_68 lots (blk b (mdL b m l r) h) b 0 = some (blk b (mdL b m' l r) h) ∧ RQ m0 m' ∧ m'.2 0 = imG N (m0.2 0) 0 0 151 := by
  have e := g8_read68 (h := h) (b := b) (l := l) (r := r) (m := m) 151 0 lots (m.2 0) (by omega) (by simp only [lots]; omega)
  rw [nI_0, sB_self] at e
  refine ⟨sB m 0 (imG (m.2 14) (m.2 0) 0 0 151), e, ⟨a.1, fun j h1 h2 => by rw [sB_2, if_neg (by omega)]; exact a.2 j h2⟩, ?_⟩
  rw [sB_2, if_pos rfl, m14, a.2 0 (by omega)]
theorem g_goes0 {f : Nat} {g : Blk} (hf : f < 2147483648) (e : g.1 5 = nI f) : f_X4_goesOn (hcB b d t g H s h) b = some 0 := by
  rw [f_X4_goesOn, rd_f6 hc_at, b_some, e, if_neg (nI_n1 hf)]; rfl
theorem g_loopF {f i : Nat} {y : Int32} {g : Blk} (hf : f < 2147483648) (e : g.1 5 = nI f) : f_X4_readInto_37 (i + 1) (hcB b d t g H s h) b d y = some (hcB b d t g H s h) := by
  rw [f_X4_readInto_37]
  by_cases c : (150 : Int32) ≤ y
  · rw [if_pos c]
  · rw [if_neg c, rd_o hc_at, b_some, g_goes0 hf e, b_some, if_pos rfl]
theorem j_loop (hd : d + 15 ≤ b) (hn : n ≤ 150) (tx : Tx8 m0 c n) : ∀ (k i p f f8 : Nat) (H s : Blk) (N : Nat → Int32), i + k = 150 → 1 ≤ i → i ≤ p → p ≤ n → k < f → k < f8 → ST 0 H s 0 T00 N → ∃ o : OutT, EndG n o ∧ (∀ (h : Hea) (g : Blk), Txt b d t h c n → CC c n p (-1) (nI i) g → EndC b d t h o (f_X4_readInto_37 f (hcB b d t g H s h) b d (nI i))) ∧ (∀ (h : Hea) (m : Blk), CR m0 c n p N m → EndR b8 l r h m0 o (f_X8_read_26 f8 (blk b8 (mdL b8 m l r) h) b8 (nI i))) := by
  intro k
  induction k with
  | zero =>
    intro i p f f8 H s N hi h1 hip hp hf hf8 st
    obtain ⟨f, rfl⟩ : ∃ q, f = q + 1 := ⟨f - 1, by omega⟩
    obtain ⟨f8, rfl⟩ : ∃ q, f8 = q + 1 := ⟨f8 - 1, by omega⟩
    have hpn : p = n := by omega
    have k0 : tkK c n p = 0 := by rw [hpn]; exact tkK_n
    refine ⟨.inr (i, H, s, N), ⟨by omega, st⟩, fun h g hx a => ⟨g, ?_, a.2.2.2.2.2.1, a.2.2.2.2.2.2⟩, fun h m a => ?_⟩
    · rw [f_X4_readInto_37, if_pos (show (150 : Int32) ≤ nI i from nI_le (a := 150) (by omega) (by omega))]
    · obtain ⟨m', e1, e2, e3⟩ := g8_readEnd (b := b8) (h := h) (l := l) (r := r) a.1 a.2.1
      refine ⟨m', ?_, e2, e3⟩
      rw [f_X8_read_26, md_f23 (blk_at _ _ _), b_some, a.2.2.2.2.1, k0, if_pos (show nI 0 = 0 from rfl), e1, b_some]
  | succ k ih =>
    intro i p f f8 H s N hi h1 hip hp hf hf8 st
    obtain ⟨f, rfl⟩ : ∃ q, f = q + 1 := ⟨f - 1, by omega⟩
    obtain ⟨f8, rfl⟩ : ∃ q, f8 = q + 1 := ⟨f8 - 1, by omega⟩
    have c150 : ¬ (150 : Int32) ≤ nI i := nI_ge (b := 150) (by omega) (by omega)
    have k4 := tkK_le c n p
    by_cases k0 : tkK c n p = 0
    · refine ⟨.inr (i, H, s, N), ⟨by omega, st⟩, fun h g hx a => ⟨g, ?_, a.2.2.2.2.2.1, a.2.2.2.2.2.2⟩, fun h m a => ?_⟩
      · have go : f_X4_goesOn (hcB b d t g H s h) b = some 0 := by
          rw [f_X4_goesOn, rd_f6 hc_at, b_some, a.2.2.2.2.2.1, if_pos rfl, rd_f7 hc_at, b_some, a.2.2.2.2.2.2, if_neg (nI_ne0 (by omega) (by omega)), rd_f4 hc_at, b_some, a.2.2.2.1, k0, if_pos (show nI 0 = 0 from rfl)]; rfl
        rw [f_X4_readInto_37, if_neg c150, rd_o hc_at, b_some, go, b_some, if_pos rfl]
      · obtain ⟨m', e1, e2, e3⟩ := g8_readEnd (b := b8) (h := h) (l := l) (r := r) a.1 a.2.1
        refine ⟨m', ?_, e2, e3⟩
        rw [f_X8_read_26, md_f23 (blk_at _ _ _), b_some, a.2.2.2.2.1, k0, if_pos (show nI 0 = 0 from rfl), e1, b_some]
    · obtain ⟨o1, go1, co, ro⟩ := j_body (b := b) (d := d) (t := t) (b8 := b8) (l := l) (r := r) hd hn tx hp st
      have go : ∀ (h : Hea) (g : Blk), CC c n p (-1) (nI i) g → f_X4_goesOn (hcB b d t g H s h) b = some 1 := fun h g a => by
        rw [f_X4_goesOn, rd_f6 hc_at, b_some, a.2.2.2.2.2.1, if_pos rfl, rd_f7 hc_at, b_some, a.2.2.2.2.2.2, if_neg (nI_ne0 (by omega) (by omega)), rd_f4 hc_at, b_some, a.2.2.2.1, if_neg (nl0 (by omega) k0)]; rfl
      have itm : ∀ (h : Hea) (g : Blk), Txt b d t h c n → CC c n p (-1) (nI i) g → COut2 b d t h c n (nI i) o1 (f_X4_takeItem (hcB b d t g H s h) b d) := fun h g hx a => by
        have g7 : gI (hcB b d t g H s h) b 4 7 = some (nI i) := by rw [rd_f7 hc_at, a.2.2.2.2.2.2]
        rw [item_n _ _ _ g7 (nI_ne0 (by omega) (by omega))]
        exact g_stopI hx hn go1 (co h g (nI i) hx a)
      cases o1 with
      | inl fl =>
        have hfl : fl ≤ n := go1
        refine ⟨.inl fl, hfl, fun h g hx a => ?_, fun h m a => ?_⟩
        · obtain ⟨g', H', s', e1, e2⟩ := itm h g hx a
          obtain ⟨f, rfl⟩ : ∃ q, f = q + 1 := ⟨f - 1, by omega⟩
          refine ⟨g', H', s', ?_, e2⟩
          rw [f_X4_readInto_37, if_neg c150, rd_o hc_at, b_some, go h g a, b_some, if_neg n10, b_some, e1, b_some, g_loopF (by omega) e2]
        · obtain ⟨m', x, e1, e2, e3, e4⟩ := ro h m a
          have e1' : f_X8_takesItem (blk b8 (mdL b8 m l r) h) b8 = some (x, blk b8 (mdL b8 m' l r) h) := e1
          refine ⟨m', ?_, e2⟩
          rw [f_X8_read_26, md_f23 (blk_at _ _ _), b_some, a.2.2.2.2.1, if_neg (nl0 (by omega) k0), md_o (blk_at _ _ _), b_some, e1', b2_some]
          rcases e4 with rfl | ⟨rfl, e5⟩
          · rw [if_pos rfl, md_f21 (blk_at _ _ _), b_some, e3]
          · rw [if_neg n10, md_f23 (blk_at _ _ _), b_some, if_neg e5, md_f21 (blk_at _ _ _), b_some, e3]
      | inr q =>
        obtain ⟨p', H', s', N'⟩ := q
        obtain ⟨q1, q2, q3, q4⟩ := go1
        have pe := tkE_le (c := c) q2
        obtain ⟨o, g2, c2, r2⟩ := ih (i + 1) (tkE c n p') f f8 H' s' N' (by omega) (by omega) (by omega) pe.2.1 (by omega) (by omega) q4
        refine ⟨o, g2, fun h g hx a => ?_, fun h m a => ?_⟩
        · obtain ⟨g', e1, e2⟩ := itm h g hx a
          rw [nI_1] at e2
          have := c2 h g' hx e2
          rw [f_X4_readInto_37, if_neg c150, rd_o hc_at, b_some, go h g a, b_some, if_neg n10, b_some, e1, b_some, nI_1]
          exact this
        · obtain ⟨m', e1, e2⟩ := ro h m a
          have e1' : f_X8_takesItem (blk b8 (mdL b8 m l r) h) b8 = some (1, blk b8 (mdL b8 m' l r) h) := e1
          obtain ⟨m2, e3, e4, -⟩ := g8_behind (b := b8) (h := h) (l := l) (r := r) tx hn q2 e2
          have := r2 h m2 e4
          rw [f_X8_read_26, md_f23 (blk_at _ _ _), b_some, a.2.2.2.2.1, if_neg (nl0 (by omega) k0), md_o (blk_at _ _ _), b_some, e1', b2_some, if_neg n10, md_f23 (blk_at _ _ _), b_some, e2.2.2.2.2.1, q3, if_pos (show nI 3 = 3 from rfl), md_o (blk_at _ _ _), b_some, e3, b_some, nI_1]
          exact this
theorem j_all (hd : d + 15 ≤ b) (hn : n ≤ 150) (tx : Tx8 m0 c n) : ∃ o : OutT, EndG n o ∧ (∀ (h : Hea) (g : Blk), Txt b d t h c n → CC c n 0 (-1) 0 g → EndC b d t h o (f_X4_readInto_37 lots (hcB b d t g H s h) b d 0)) ∧ (∀ (h : Hea) (m : Blk), CR m0 c n 0 N m → EndR b8 l r h m0 o (bind2 (f_X8_takesFirst (blk b8 (mdL b8 m l r) h) b8) fun x2 h3 => if x2 = 0 then ((gI h3 b8 8 21).bind fun x5 => some ((-10) - x5, h3)) else ((isO h3 b8 8).bind fun _ => (f_X8_goBehind h3 b8).bind fun h4 => f_X8_read_26 lots h4 b8 1))) := by
  obtain ⟨o1, go1, co, ro⟩ := j_first (b := b) (d := d) (t := t) (b8 := b8) (l := l) (r := r) (H := H) (s := s) (N := N) hd hn tx (Nat.zero_le n)
  have go : ∀ (h : Hea) (g : Blk), CC c n 0 (-1) 0 g → f_X4_goesOn (hcB b d t g H s h) b = some 1 := fun h g a => by
    rw [f_X4_goesOn, rd_f6 hc_at, b_some, a.2.2.2.2.2.1, if_pos rfl, rd_f7 hc_at, b_some, a.2.2.2.2.2.2, if_pos rfl]; rfl
  have itm : ∀ (h : Hea) (g : Blk), Txt b d t h c n → CC c n 0 (-1) 0 g → COut2 b d t h c n 0 o1 (f_X4_takeItem (hcB b d t g H s h) b d) := fun h g hx a => by
    have g7 : gI (hcB b d t g H s h) b 4 7 = some 0 := by rw [rd_f7 hc_at, a.2.2.2.2.2.2]
    rw [item_0 _ _ _ g7, rd_o hc_at, b_some, bind_id]
    exact g_stopI hx hn go1 (co h g 0 hx a)
  cases o1 with
  | inl fl =>
    have hfl : fl ≤ n := go1
    refine ⟨.inl fl, hfl, fun h g hx a => ?_, fun h m a => ?_⟩
    · obtain ⟨g', H', s', e1, e2⟩ := itm h g hx a
      refine ⟨g', H', s', ?_, e2⟩
      rw [show lots = 998 + 1 + 1 from rfl, f_X4_readInto_37, if_neg (show ¬ (150 : Int32) ≤ 0 by decide), rd_o hc_at, b_some, go h g a, b_some, if_neg n10, b_some, e1, b_some, g_loopF (by omega) e2]
    · obtain ⟨m', e1, e2, e3⟩ := ro h m a
      refine ⟨m', ?_, e2⟩
      rw [e1, b2_some, if_pos rfl, md_f21 (blk_at _ _ _), b_some, e3]
  | inr q =>
    obtain ⟨p', H', s', N'⟩ := q
    obtain ⟨q1, q2, q3, q4⟩ := go1
    have pe := tkE_le (c := c) q2
    obtain ⟨o, g2, c2, r2⟩ := j_loop (b := b) (d := d) (t := t) (b8 := b8) (l := l) (r := r) hd hn tx 149 1 (tkE c n p') 999 1000 H' s' N' (by omega) (by omega) (by omega) pe.2.1 (by omega) (by omega) q4
    refine ⟨o, g2, fun h g hx a => ?_, fun h m a => ?_⟩
    · obtain ⟨g', e1, e2⟩ := itm h g hx a
      have := c2 h g' hx e2
      rw [show lots = 999 + 1 from rfl, f_X4_readInto_37, if_neg (show ¬ (150 : Int32) ≤ 0 by decide), rd_o hc_at, b_some, go h g a, b_some, if_neg n10, b_some, e1, b_some]
      exact this
    · obtain ⟨m', e1, e2⟩ := ro h m a
      obtain ⟨m2, e3, e4, -⟩ := g8_behind (b := b8) (h := h) (l := l) (r := r) tx hn q2 e2
      have := r2 h m2 e4
      rw [e1, b2_some, if_neg n10, md_o (blk_at _ _ _), b_some, e3, b_some]
      exact this
end
theorem rd_r {h : Hea} {b t t' : Nat} {g : Blk} : pV (blk b (rdL b t g) h) b 4 0 (.ref t') = some (blk b (rdL b t' g) h) := by
  rw [pV_at (at_0 (blk_at b (rdL b t g) h) rfl) (Nat.le_of_ble_eq_true rfl)]
  exact congrArg some (blk_hup (k := 0) (fun j => by match j with
    | 0 => rfl
    | j + 1 => rfl))
theorem hc_p1 {b d t : Nat} {g H s : Blk} {h : Hea} {x : Int32} : pV (hcB b d t g H s h) b 4 1 (.int x) = some (hcB b d t (sS g 0 x) H s h) := rd_p1
theorem neg10 : ∀ f, f < 151 → (-10 : Int32) - nI f < 0 := by decide +kernel
theorem ST.row0 {k : Nat} {H s : Blk} {T T' : Nat → Blk} {N N' : Nat → Int32} (a : ST k H s 0 T N) (e : ∀ q, q < 151 → N' q = N q) : ST k H s 0 T' N' := by
  obtain ⟨wo, ws, wt, rH, rs, rp⟩ := a
  exact ⟨wo, ws, fun j hj => absurd hj (by omega), rH.lo wo (fun q h1 _ => e q h1), rs.lo wo (fun q h1 _ => e q h1), by rw [e 6 (by omega)]; exact rp.1, fun j hj => absurd hj (by omega)⟩
section
variable {B k : Nat} {h : Hea}
theorem op_read (a : Inv B k h) : Both B k h (fun h => f_X7_read h B) (fun h => f_X8_read h (B + 239)) := by
  obtain ⟨X, P, L, R, t, q, w, i⟩ := a
  obtain ⟨t1, n, hn, tn, tv⟩ := i.2.2.2.2.2.2.2.1
  have aL := wd_fl w
  have tx : Tx8 (X 16) ((X 16).2 13) n := ⟨by rw [t1, tn], fun _ _ => rfl⟩
  have hT : ∀ g H s, At (hcB (B + 106) (B + 66) (B + 108) g H s h) (B + 108) (txL (B + 108) (X 11)) := fun g H s => at_far (n := 1) (n' := 1) (at_far (n := 1) (n' := 15) (wd_tx w) (fun _ e => tx_hi e) (fun _ e => hh_hi e) (by omega)) (fun _ e => tx_hi e) (fun _ e => rd_hi e) (by omega)
  have hx : Txt (B + 106) (B + 66) (B + 108) h ((X 16).2 13) n := fun g H s j hj => by
    rw [tx_m0 (hT g H s) (by omega), (tv j hj).1]
  obtain ⟨o, og, oc, or⟩ := j_all (b := B + 106) (d := B + 66) (t := B + 108) (b8 := B + 239) (l := L 1) (r := R 1) (H := X 3) (s := X 4) (N := (X 16).2 14) (by omega) hn tx
  have e0 : blk (B + 106) (rdL (B + 106) t (X 10)) (blk (B + 66) (hhL (B + 66) (X 3) (X 4)) h) = h := by rw [(wd_dr w).eq, (wd_rd w).eq]
  have p0 := rd_r (h := blk (B + 66) (hhL (B + 66) (X 3) (X 4)) h) (b := B + 106) (t := t) (g := X 10) (t' := B + 108)
  rw [e0] at p0
  have p0' : pV h (B + 106) 4 0 (.ref (B + 108)) = some (hcB (B + 106) (B + 66) (B + 108) (X 10) (X 3) (X 4) h) := p0
  have pl : alen (hcB (B + 106) (B + 66) (B + 108) (X 10) (X 3) (X 4) h) 1 (B + 108) = some (nI 150) := by
    have q := tx_k0 (hT (X 10) (X 3) (X 4))
    simp only [alen, q, true_and]
    rfl
  obtain ⟨g1, e1, a1⟩ := g_adv (b := B + 106) (d := B + 66) (t := B + 108) (H := X 3) (s := X 4) (h := h) (c := (X 16).2 13) (n := n) (p := 0) (f := -1) (it := 0) hx hn (Nat.zero_le n) (g := sS (sS (sS (sS (X 10) 0 (nI n)) 1 0) 5 (-1)) 6 0) rfl rfl rfl rfl
  have cl := oc h g1 hx a1
  have rd : ∀ h0, At h0 (B + 239) (mdL (B + 239) (X 16) (L 1) (R 1)) → EndR (B + 239) (L 1) (R 1) h0 (X 16) o (f_X8_read h0 (B + 239)) := by
    intro h0 aM
    obtain ⟨m1, f1, c1, -⟩ := g8_look (b := B + 239) (h := h0) (l := L 1) (r := R 1) tx hn (m := X 16) (Nat.zero_le n) (N := (X 16).2 14) ⟨rfl, fun _ _ => rfl⟩ rfl
    rw [aM.eq, nI_0] at f1
    have := or h0 m1 c1
    rw [f_X8_read, md_o aM, b_some, f1, b_some, md_o (blk_at _ _ _), b_some]
    exact this
  have cls : ∀ (x : Int32) (g : Blk) (D Ds : Blk), f_X4_readInto_37 lots (hcB (B + 106) (B + 66) (B + 108) g1 (X 3) (X 4) h) (B + 106) (B + 66) 0 = some (hcB (B + 106) (B + 66) (B + 108) g D Ds h) → (if g.1 5 = -1 then g.1 6 else -10 - g.1 5) = x → f_X4_readInto h (B + 106) (B + 66) (B + 108) (nI n) = some (x, hcB (B + 106) (B + 66) (B + 108) g D Ds h) := by
    intro x g D Ds e2 e3
    rw [f_X4_readInto, pR, p0', b_some, pl, b_some, if_neg (show ¬ nI 150 < nI n from nI_nlt hn (by omega)), pI, hc_p1, b_some, pI, hc_p2, b_some, pI, hc_p6, b_some, pI, hc_p7, b_some, rd_o hc_at, b_some, e1, b_some, e2, b_some, rd_f6 hc_at, b_some, rd_f7 hc_at]
    rw [← e3]
    by_cases c : g.1 5 = -1
    · rw [if_pos c, if_pos c]; rfl
    · rw [if_neg c, if_neg c]; rfl
  cases o with
  | inl f =>
    have hf : f ≤ n := og
    obtain ⟨g, D, Ds, e2, e3⟩ := cl
    have e4 := cls (-10 - nI f) g D Ds e2 (by rw [e3, if_neg (nI_n1 (by omega))])
    have w1 : Wd B _ P L R (B + 108) (hcB (B + 106) (B + 66) (B + 108) g D Ds h) := wu_rd (wu_dr w D Ds) (B + 108) g
    generalize hcB (B + 106) (B + 66) (B + 108) g D Ds h = h1 at e4 w1
    have aM : At h1 (B + 239) (mdL (B + 239) (X 16) (L 1) (R 1)) := by
      have q := wd_md w1
      exact q
    obtain ⟨m', f1, f2⟩ := rd h1 aM
    refine ⟨-10 - nI f, h1, _, ?_, f1, md_o aM, inv_q (q := q) (r' := R 1) w1 (show InvX B (k + 1) _ P L q from i.up) ⟨f2.1, fun j hj => f2.2 j (by omega), f2.2 13 (by omega)⟩⟩
    show f_X7_read h B = _
    rw [f_X7_read, fl_f9 aL, b_some, fl_f2 aL, b_some, fl_f10 aL, b_some, fl_f11 aL, b_some, tn, rd_o (wd_rd w), b_some, e4, b2_some, if_pos (neg10 f (by omega)), b_some]
  | inr z =>
    obtain ⟨it, D, Ds, N'⟩ := z
    obtain ⟨hit, st⟩ := og
    obtain ⟨g, e2, e3, e3'⟩ := cl
    have e4 := cls (nI it) g D Ds e2 (by rw [if_pos e3, e3'])
    have w1 : Wd B _ P L R (B + 108) (hcB (B + 106) (B + 66) (B + 108) g D Ds h) := wu_rd (wu_dr w D Ds) (B + 108) g
    generalize hcB (B + 106) (B + 66) (B + 108) g D Ds h = h1 at e4 w1
    have aL1 : At h1 B (flL B (X 0) (L 0)) := by
      have q := wd_fl w1
      exact q
    have aH1 : At h1 (B + 1) (hhL (B + 1) (X 1) (X 2)) := by
      have q := wd_ho w1
      exact q
    have aD1 : At h1 (B + 66) (hhL (B + 66) D Ds) := by
      have q := wd_dr w1
      exact q
    have p1 := g_takeH (h := h1) (b := B + 1) (b' := B + 66) (H := X 1) (s := X 2) aD1 (by omega)
    rw [aH1.eq] at p1
    have w2 := wu_ho w1 (takeH D (X 1)) (takeS Ds (X 2))
    generalize hh2 : blk (B + 1) (hhL (B + 1) (takeH D (X 1)) (takeS Ds (X 2))) h1 = h2 at p1 w2
    have aL2 : At h2 B (flL B (X 0) (L 0)) := by
      have q := wd_fl w2
      exact q
    have aP2 : At h2 (B + 16) (pastL (B + 16) (P 0).1 (P 0).2.1 (P 0).2.2) := by
      have q := wd_pa w2
      exact q
    have p2 := past_size (h := h2) (p := B + 16) (z := (P 0).1) (f := (P 0).2.1) (S := (P 0).2.2) (z' := 0)
    rw [aP2.eq, nI_0] at p2
    have w3 := wu_pa w2 (0, (P 0).2.1, (P 0).2.2)
    generalize hh3 : blk (B + 16) (pastL (B + 16) 0 (P 0).2.1 (P 0).2.2) h2 = h3 at p2 w3
    have aM : At h3 (B + 239) (mdL (B + 239) (X 16) (L 1) (R 1)) := by
      have q := wd_md w3
      exact q
    obtain ⟨m', f1, f2, f3⟩ := rd h3 aM
    have w4 := wu_md w3 m' (L 1) (R 1)
    have hm := st.1.1.2.1
    have st2 : ST (k + 1) (takeH D (X 1)) (takeS Ds (X 2)) 0 (fun j => (P 0).2.2 (q 0 j)) (m'.2 0) := by
      refine (((st.mono (Nat.zero_le (k + 1))).row0 (T' := fun j => (P 0).2.2 (q 0 j)) (fun q hq => ?_)).eqS (takeS_eq hm) (fun i hi => absurd hi (by omega))).house
      rw [f3, imG_v, if_pos (by omega), Nat.sub_zero]
    have i' : InvX B k (va_up (va_up (va_up X 3 D) 4 Ds) 10 g) P L q := i
    refine ⟨nI it, h3, _, ?_, f1, md_o aM, ⟨_, _, _, _, _, _, w4, i'.now (p' := (0, (P 0).2.1, (P 0).2.2)) i.1.1 (Nat.zero_le _) st2 ⟨f2.1, f2.2 1 (by omega) (by omega), f2.2 2 (by omega) (by omega), f2.2 3 (by omega) (by omega), f2.2 13 (by omega) (by omega)⟩⟩⟩
    show f_X7_read h B = _
    rw [f_X7_read, fl_f9 aL, b_some, fl_f2 aL, b_some, fl_f10 aL, b_some, fl_f11 aL, b_some, tn, rd_o (wd_rd w), b_some, e4, b2_some, if_neg (nI_pos (by omega)), fl_f0 aL1, b_some, fl_f2 aL1, b_some, hh_o aH1, b_some, p1, b_some, fl_f1 aL2, b_some, pI, p2, b_some, b_some]
end
