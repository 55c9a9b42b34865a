/-! ===== the reference: the way, night by night ===== -/
section
variable {h : Hea} {b : Nat} {l : Nat → Int64} {r : Nat → Nat → Int64} {H s : Blk}
theorem m5_l (t : Nat) (ht : t < 1000000) : (if nI t ≤ 5 then nI t else (5 : Int32)) = nI (m5 t) := by
  rw [show (5 : Int32) = nI 5 from rfl, m5]
  by_cases h : 5 < t
  · rw [if_pos h, if_neg (nI_ge h (by omega))]
  · rw [if_neg h, if_pos (nI_le (by omega) (by omega))]
theorem g8_no31 (wH : wfH H) {m0 : Blk} (hN : hR H (m0.2 0)) (hd : hdR H s m0) {i N : Nat} (hi : i < hM H) (hNn : N < 1000000) {e0 : Nat → Option Nat} (hb0 : bdO e0 909) : ∀ (k j n : Nat) (m : Blk) (p : (Nat → Option Nat) × Option Nat), j + k = 48 → k < n → WX i m0 m → Rw 1000000 (m.2 9) e0 → Rw 1000000 (m.2 10) p.1 → bdO p.1 909 → (∀ u, p.2 = some u → u ≤ 909) → ∃ m', f_X8_nightOfOne_31 n (blk b (mdL b m l r) h) b (nI i) (nI N) (encO 1000000 0 p.2) (nI j) = some (encO 1000000 0 (pas H s i (lk H N) e0 k j p).2, blk b (mdL b m' l r) h) ∧ WX i m0 m' ∧ Rw 1000000 (m'.2 10) (pas H s i (lk H N) e0 k j p).1 := by
  have hm := wH.2.1
  have hi6 : i < 6 := by omega
  intro k
  induction k with
  | zero =>
    intro j n m p hj hn wx hR9 hT hb hp
    obtain ⟨n, rfl⟩ : ∃ q, n = q + 1 := ⟨n - 1, by omega⟩
    exact ⟨m, by rw [f_X8_nightOfOne_31, if_pos (show (48 : Int32) ≤ nI j from nI_le (a := 48) (by omega) (by omega)), pas], wx, hT⟩
  | succ k ih =>
    intro j n m p hj hn wx hR9 hT hb hp
    obtain ⟨n, rfl⟩ : ∃ q, n = q + 1 := ⟨n - 1, by omega⟩
    rw [f_X8_nightOfOne_31, if_neg (show ¬ (48 : Int32) ≤ nI j from nI_ge (b := 48) (by omega) (by omega)), md_f13 (blk_at _ _ _), b_some, md_m10 (blk_at _ _ _) (by omega), b_some, hR9 j (by omega), pas]
    simp only [enc6 (fun v e => by have := hb0 j v e; omega)]
    cases q : e0 j with
    | none =>
      obtain ⟨m', e, r1, r2⟩ := ih (j + 1) n m p (by omega) (by omega) wx hR9 hT hb hp
      rw [if_pos rfl, b2_some, nI_1]
      exact ⟨m', e, r1, r2⟩
    | some c =>
      have hc := hb0 j c q
      have e6 : nI j / 6 = nI (j / 6) := pk_div (d := 6) (by omega) (by omega) (by omega)
      have er : nI j - nI j / 6 * 6 = nI (j % 6) := pk_rem (d := 6) (by omega) (by omega) (by omega)
      have h5 := m5_lt (j % 6 + 1)
      have wx' : WX i m0 (sA (sA m 4 i (nI (j / 6))) 5 i (nI (j % 6))) := wx.set
      have hd' : hdR H (setI s i (j / 6) (j % 6)) (sA (sA m 4 i (nI (j / 6))) 5 i (nI (j % 6))) := wx.hd hd
      have hN' : hR H ((sA (sA m 4 i (nI (j / 6))) 5 i (nI (j % 6))).2 0) := by rw [wx'.now]; exact hN
      have r0 : (setI s i (j / 6) (j % 6)).2 0 i = nI (j / 6) := by simp [setI, sA_2]
      have w4 : (sA (sA m 4 i (nI (j / 6))) 5 i (nI (j % 6))).2 4 i = nI (j / 6) := by simp [sA_2]
      have w9 : (sA (sA m 4 i (nI (j / 6))) 5 i (nI (j % 6))).2 9 = m.2 9 := by rw [sA_row (by omega), sA_row (by omega)]
      have w10 : (sA (sA m 4 i (nI (j / 6))) 5 i (nI (j % 6))).2 10 = m.2 10 := by rw [sA_row (by omega), sA_row (by omega)]
      have hj1 : m.2 9 j = nI c := by rw [hR9 j (by omega), q, encO, Nat.zero_add]
      have hix : (6 : Int32) * nI (j / 6) + nI (m5 (j % 6 + 1)) = nI (j / 6 * 6 + m5 (j % 6 + 1)) := by rw [show (6 : Int32) = nI 6 from rfl, pk_mul, nI_add, Nat.mul_comm]
      have hidv := g8_hidden (h := h) (b := b) (l := l) (r := r) hN' hd' wH hi (by rw [r0]; exact inR_nI (by omega) (by omega))
      generalize hu : hid H (setI s i (j / 6) (j % 6)) i = u at hidv
      have om := omin_le (Mn := 1000000) (v := c) (o := p.1 (j / 6 * 6 + m5 (j % 6 + 1))) (by omega) (by omega) (fun u e => by have := hb _ _ e; omega)
      have om2 := omin_le (Mn := 1000000) (v := c) (o := p.2) (by omega) (by omega) (fun u e => by have := hp _ e; omega)
      rw [show nI 1000000 = (1000000 : Int32) from rfl] at om om2
      rw [if_neg (by intro e; cases e), md_f8 (blk_at _ _ _), b_some, er, e6, md_w5 hi6, b_some, md_f9 (blk_at _ _ _), b_some, md_w6 hi6, b_some, md_o (blk_at _ _ _), b_some, hidv, b_some, md_f0 (blk_at _ _ _), b_some, ln_2 (blk_at _ _ _), b_some, hN'.2.2.1, nI_1]
      generalize hm1 : sA (sA m 4 i (nI (j / 6))) 5 i (nI (j % 6)) = m1 at wx' hd' hN' w4 w9 w10
      simp only [md_o (blk_at b (mdL b m1 l r) h), g8_looks (blk_at b (mdL b m1 l r) h) hN' wH hNn, md_f8 (blk_at b (mdL b m1 l r) h), md_f0 (blk_at b (mdL b m1 l r) h), md_f13 (blk_at b (mdL b m1 l r) h), md_f14 (blk_at b (mdL b m1 l r) h), b_some, md_m5 (blk_at b (mdL b m1 l r) h) hi6, ln_1 (blk_at b (mdL b m1 l r) h), ln_2 (blk_at b (mdL b m1 l r) h), g8_least, m5_l (j % 6 + 1) (by omega), hix, md_m10 (blk_at b (mdL b m1 l r) h) (show j < 48 by omega), md_m11 (blk_at b (mdL b m1 l r) h) (show j / 6 * 6 + m5 (j % 6 + 1) < 48 by omega), hN'.2.1, hN'.2.2.1, w4, w9, w10, hj1, hT (j / 6 * 6 + m5 (j % 6 + 1)) (by omega), om, om2, pasO, hu, nI_1]
      have same : ∀ p' : (Nat → Option Nat) × Option Nat, p'.1 = p.1 → (∀ u, p'.2 = some u → u ≤ 909) → ∃ m', bind2 ((stI (blk b (mdL b m1 l r) h) 0 (b + 11) (nI (j / 6 * 6 + m5 (j % 6 + 1))) (encO 1000000 0 (p.1 (j / 6 * 6 + m5 (j % 6 + 1))))).bind fun h36 => some (encO 1000000 0 p'.2, h36)) (fun v3 h4 => f_X8_nightOfOne_31 n h4 b (nI i) (nI N) v3 (nI (j + 1))) = some (encO 1000000 0 (pas H s i (lk H N) e0 k (j + 1) p').2, blk b (mdL b m' l r) h) ∧ WX i m0 m' ∧ Rw 1000000 (m'.2 10) (pas H s i (lk H N) e0 k (j + 1) p').1 := by
        intro p' e1 e2
        have hs10 : Rw 1000000 ((sA m1 10 (j / 6 * 6 + m5 (j % 6 + 1)) (encO 1000000 0 (p.1 (j / 6 * 6 + m5 (j % 6 + 1))))).2 10) p'.1 := by
          rw [sA_own, w10, e1, ← hT _ (by omega)]; exact Rw_same hT
        obtain ⟨m', e, z1, z2⟩ := ih (j + 1) n (sA m1 10 (j / 6 * 6 + m5 (j % 6 + 1)) (encO 1000000 0 (p.1 (j / 6 * 6 + m5 (j % 6 + 1))))) p' (by omega) (by omega) (wx'.row rfl (fun c hc => sA_row (by omega))) (by rw [sA_row (by omega), w9]; exact hR9) hs10 (by rw [e1]; exact hb) e2
        refine ⟨m', ?_, z1, z2⟩
        rw [md_w11 (by omega), b_some, b2_some]
        exact e
      have low : ∃ m', bind2 ((stI (blk b (mdL b m1 l r) h) 0 (b + 11) (nI (j / 6 * 6 + m5 (j % 6 + 1))) (encO 1000000 0 (omin (p.1 (j / 6 * 6 + m5 (j % 6 + 1))) c))).bind fun h36 => some (encO 1000000 0 p.2, h36)) (fun v3 h4 => f_X8_nightOfOne_31 n h4 b (nI i) (nI N) v3 (nI (j + 1))) = some (encO 1000000 0 (pas H s i (lk H N) e0 k (j + 1) (upO p.1 (j / 6 * 6 + m5 (j % 6 + 1)) c, p.2)).2, blk b (mdL b m' l r) h) ∧ WX i m0 m' ∧ Rw 1000000 (m'.2 10) (pas H s i (lk H N) e0 k (j + 1) (upO p.1 (j / 6 * 6 + m5 (j % 6 + 1)) c, p.2)).1 := by
        obtain ⟨m', e, z1, z2⟩ := ih (j + 1) n (sA m1 10 (j / 6 * 6 + m5 (j % 6 + 1)) (encO 1000000 0 (omin (p.1 (j / 6 * 6 + m5 (j % 6 + 1))) c))) (upO p.1 (j / 6 * 6 + m5 (j % 6 + 1)) c, p.2) (by omega) (by omega) (wx'.row rfl (fun c hc => sA_row (by omega))) (by rw [sA_row (by omega), w9]; exact hR9) (by rw [sA_own, w10]; exact Rw_up hT rfl) (upO_bnd hb hc) hp
        refine ⟨m', ?_, z1, z2⟩
        rw [md_w11 (by omega), b_some, b2_some]
        exact e
      by_cases c1 : H.1 1 ≤ u
      · have c1' : ¬ u < H.1 1 := Int32.not_lt.mpr c1
        by_cases c2 : nI (j / 6) = lk H N
        · by_cases c3 : H.1 0 ≤ u
          · simp only [if_pos c1, if_neg c1', if_pos c2, if_pos c2.symm, if_pos c3, b_some, if_true]
            exact low
          · simp only [if_pos c1, if_neg c1', if_pos c2, if_pos c2.symm, if_neg c3, b_some, if_neg (show ¬ (1 : Int32) = 0 by decide)]
            exact same (p.1, omin p.2 c) rfl (omin_bnd hp hc)
        · simp only [if_pos c1, if_neg c1', if_neg c2, if_neg (fun e => c2 (Eq.symm e)), b_some, if_true]
          exact low
      · have c1' : u < H.1 1 := Int32.not_le.mp c1
        simp only [if_neg c1, if_pos c1', b_some, if_true]
        exact same p rfl hp
theorem g8_one (wH : wfH H) {m0 m : Blk} (hN : hR H (m0.2 0)) (hd : hdR H s m0) {i N : Nat} (hi : i < hM H) (hNn : N < 1000000) {e0 : Nat → Option Nat} (hb0 : bdO e0 909) (wx : WX i m0 m) (hR9 : Rw 1000000 (m.2 9) e0) : ∃ m', f_X8_nightOfOne (blk b (mdL b m l r) h) b (nI i) (nI N) = some (encO 1000000 0 (pas H s i (lk H N) e0 48 0 (fun _ => none, none)).2, blk b (mdL b m' l r) h) ∧ WX i m0 m' ∧ Rw 1000000 (m'.2 9) (pas H s i (lk H N) e0 48 0 (fun _ => none, none)).1 := by
  obtain ⟨m1, e1, a1, b1, c1⟩ := g8_no6 (h := h) (b := b) (l := l) (r := r) 48 0 lots m (by omega) (by simp only [lots]; omega) (fun q hq => by omega)
  obtain ⟨m2, e2, w2, r2⟩ := g8_no31 (h := h) (b := b) (l := l) (r := r) wH hN hd hi hNn hb0 48 0 lots m1 (fun _ => none, none) (by omega) (by simp only [lots]; omega) (wx.row b1 (fun c hc => c1 c (by omega))) (by rw [c1 9 (by omega)]; exact hR9) a1 (fun q v e => by cases e) (fun u e => by cases e)
  obtain ⟨m3, e3, a3, b3, c3⟩ := g8_no224 (h := h) (b := b) (l := l) (r := r) 48 0 lots m2 (by omega) (by simp only [lots]; omega) (fun q hq => by omega)
  rw [nI_0] at e1 e2 e3
  rw [show encO 1000000 0 (none : Option Nat) = 1000000 from rfl] at e2
  exact ⟨m3, by rw [f_X8_nightOfOne, e1, b_some, e2, b2_some, e3, b_some], w2.row b3 (fun c hc => c3 c (by omega)), fun q hq => by rw [a3 q hq]; exact r2 q hq⟩
theorem g8_way93 (wH : wfH H) (wC : wfC H) {m0 : Blk} (hN : hR H (m0.2 0)) (hs : sR H s (m0.2 0)) (hd : hdR H s m0) (wS : wfN H s 60) {i : Nat} (hi : i < hM H) {a2 : Int32} : ∀ (k j n : Nat) (m : Blk) (d : Nat → Option Nat), j + k = 12 → k < n → WX i m0 m → Rw 1000000 (m.2 9) d → bdO d (9 * j) → ∃ m', f_X8_way_93 n (blk b (mdL b m l r) h) b (nI i) a2 (nI j) = some (if a2 = 0 then (wayV (wayL H s i k j d)).1 else (wayV (wayL H s i k j d)).2, blk b (mdL b m' l r) h) ∧ WX i m0 m' := by
  have hm := wH.2.1
  have hi6 : i < 6 := by omega
  have hw := wS.2.1
  intro k
  induction k with
  | zero =>
    intro j n m d hj hn wx hR hb
    obtain ⟨n, rfl⟩ : ∃ q, n = q + 1 := ⟨n - 1, by omega⟩
    refine ⟨m, ?_, wx⟩
    rw [f_X8_way_93, if_pos (show (12 : Int32) ≤ nI j from nI_le (a := 12) (by omega) (by omega)), wayL, wayV]
    split <;> rfl
  | succ k ih =>
    intro j n m d hj hn wx hR hb
    obtain ⟨n, rfl⟩ : ∃ q, n = q + 1 := ⟨n - 1, by omega⟩
    obtain ⟨ma, ea, wa, ra⟩ := g8_mvAll (h := h) (b := b) (l := l) (r := r) hN wC (hb.le (by omega)) wx hR
    have mv : ∃ m1, (∀ K : Hea → Option (Int32 × Hea), ((if 0 < nI j then (isO (blk b (mdL b m l r) h) b 8).bind fun _ => (f_X8_moveAll (blk b (mdL b m l r) h) b).bind fun h2 => some h2 else (isO (blk b (mdL b m l r) h) b 8).bind fun _ => (f_X8_get (blk b (mdL b m l r) h) b (nI i) 6).bind fun x3 => if x3 = 0 then (isO (blk b (mdL b m l r) h) b 8).bind fun _ => (f_X8_moveAll (blk b (mdL b m l r) h) b).bind fun h4 => some h4 else some (blk b (mdL b m l r) h)).bind K) = K (blk b (mdL b m1 l r) h)) ∧ WX i m0 m1 ∧ Rw 1000000 (m1.2 9) (wayE H s i j d) := by
      have h6 : m.2 0 (91 + 7 * i + 6) = s.2 4 i := by rw [wx.now]; exact (hs.2 i hi).2.2.2.2
      rw [wayE]
      by_cases h1 : 0 < j
      · refine ⟨ma, fun K => ?_, wa, by rw [if_pos (Or.inl h1)]; exact ra⟩
        rw [if_pos (show (0 : Int32) < nI j from nI_lt (a := 0) h1 (by omega)), md_o (blk_at _ _ _), b_some, ea, b_some, b_some]
      · have hn0 : ¬ (0 : Int32) < nI j := nI_nlt (b := j) (a := 0) (by omega) (by omega)
        by_cases h2 : s.2 4 i = 0
        · refine ⟨ma, fun K => ?_, wa, by rw [if_pos (Or.inr h2)]; exact ra⟩
          rw [if_neg hn0, md_o (blk_at _ _ _), b_some, g8_get6 (blk_at _ _ _) hi6, b_some, h6, if_pos h2, b_some, ea, b_some, b_some]
        · refine ⟨m, fun K => ?_, wx, by rw [if_neg (fun e => e.elim h1 h2)]; exact hR⟩
          rw [if_neg hn0, md_o (blk_at _ _ _), b_some, g8_get6 (blk_at _ _ _) hi6, b_some, h6, if_neg h2, b_some]
    obtain ⟨m1, e1, w1, r1⟩ := mv
    obtain ⟨m2, e2, w2, r2⟩ := g8_one (h := h) (b := b) (l := l) (r := r) wH hN hd hi (N := sN s + j) (by omega) ((wayE_bnd (s := s) (i := i) (j := j) wC hb).le (by omega)) w1 r1
    have hbo := wayP_bnd (s := s) (i := i) (j := j) wC hb
    rw [f_X8_way_93, if_neg (show ¬ (12 : Int32) ≤ nI j from nI_ge (b := 12) (by omega) (by omega)), e1, md_f0 (blk_at _ _ _), b_some, ln_3 (blk_at _ _ _), b_some, w1.now, hs.1, wS.1, nI_add, md_o (blk_at _ _ _), b_some, e2, b2_some, wayL]
    have hP : (pas H s i (lk H (sN s + j)) (wayE H s i j d) 48 0 (fun _ => none, none)) = wayP H s i j d := rfl
    rw [hP] at e2 r2 ⊢
    simp only [enc6 (fun v e => by have := hbo.2 v e; omega)]
    cases q : (wayP H s i j d).2 with
    | none =>
      obtain ⟨m', e, z⟩ := ih (j + 1) n m2 (wayP H s i j d).1 (by omega) (by omega) w2 r2 (hbo.1.le (by omega))
      rw [if_pos rfl, nI_1]
      exact ⟨m', e, z⟩
    | some c =>
      refine ⟨m2, ?_, w2⟩
      rw [if_neg (by intro e; cases e), md_f0 (blk_at _ _ _), b_some, ln_3 (blk_at _ _ _), b_some, w2.now, hs.1, wS.1, nI_add, encO, Nat.zero_add, wayV]
      split <;> rfl
theorem g8_way (wH : wfH H) (wC : wfC H) {m0 : Blk} (hN : hR H (m0.2 0)) (hs : sR H s (m0.2 0)) (hd : hdR H s m0) (wS : wfN H s 60) (wT : wfT H s 0) {i : Nat} (hi : i < hM H) {a2 : Int32} : ∃ m', ((f_X8_way_45 lots (blk b (mdL b m0 l r) h) b 0).bind fun h7 => (gR h7 b 8 13).bind fun x8 => (isO h7 b 8).bind fun _ => (f_X8_get h7 b (nI i) 1).bind fun x9 => (isO h7 b 8).bind fun _ => (f_X8_get h7 b (nI i) 3).bind fun x10 => (f_X8_least 5 x10).bind fun x11 => (stI h7 0 x8 ((6 * x9) + x11) 0).bind fun h12 => f_X8_way_93 lots h12 b (nI i) a2 0) = some (if a2 = 0 then (wayV (wayL H s i 12 0 (way0 s i))).1 else (wayV (wayL H s i 12 0 (way0 s i))).2, blk b (mdL b m' l r) h) ∧ WX i m0 m' := by
  have hm := wH.2.1
  have hi6 : i < 6 := by omega
  obtain ⟨m1, e1, a1, b1, c1⟩ := g8_way45 (h := h) (b := b) (l := l) (r := r) 48 0 lots m0 (by omega) (by simp only [lots]; omega) (fun q hq => by omega)
  obtain ⟨er, hr⟩ := inR_cl (wS.2.2 i hi) (by omega)
  obtain ⟨v, hv, ev⟩ := wT i hi
  have h5 := m5_lt v
  have n1 : m1.2 0 = m0.2 0 := c1 0 (by omega)
  have hw0 : upO (fun _ => none) ((s.2 0 i).toNatClampNeg * 6 + m5 v) 0 = way0 s i := by
    funext q
    rw [upO, way0, ev, nI_clamp (by omega)]
    rfl
  obtain ⟨m2, e2, w2⟩ := g8_way93 (h := h) (b := b) (l := l) (r := r) (a2 := a2) wH wC hN hs hd wS hi 12 0 lots (sA m1 9 ((s.2 0 i).toNatClampNeg * 6 + m5 v) 0) (way0 s i) (by omega) (by simp only [lots]; omega) ⟨b1, fun j hj => by rw [sA_row (by omega)]; exact c1 j (by omega), fun q hq => by rw [sA_row (by omega), sA_row (by omega), c1 4 (by omega), c1 5 (by omega)]; exact ⟨rfl, rfl⟩⟩ (by rw [sA_own, ← hw0]; exact Rw_up a1 rfl) (fun q v e => by
    rw [way0] at e
    split at e
    · cases e; omega
    · cases e)
  refine ⟨m2, ?_, w2⟩
  rw [nI_0] at e1 e2
  have hix : (6 : Int32) * s.2 0 i + nI (m5 v) = nI ((s.2 0 i).toNatClampNeg * 6 + m5 v) := by
    conv => lhs; rw [er]
    rw [show (6 : Int32) = nI 6 from rfl, pk_mul, nI_add, Nat.mul_comm]
  rw [e1, b_some, md_f13 (blk_at _ _ _), b_some, md_o (blk_at _ _ _), b_some, g8_get1 (blk_at _ _ _) hi6, b_some, b_some, g8_get3 (blk_at _ _ _) hi6, b_some, n1, (hs.2 i hi).1, (hs.2 i hi).2.1, g8_least, b_some, ev, m5_l v (by omega), hix, md_w10 (by omega), b_some, e2]
end
