/-! ===== the reference: pairs, odds, seeds, who is passed ===== -/
section
variable {h : Hea} {b : Nat} {l : Nat → Int64} {r : Nat → Nat → Int64} {H : Blk} {ey : Int32}
theorem g8_aside2 {s0 m : Blk} (hN : hR H (m.2 0)) {i rm : Nat} (hi : i < 6) (hr : rm < 8) (hg : m.2 0 (91 + 7 * i + 1) = nI rm) : ∀ (k j n : Nat), j + k = 8 → k < n → f_X8_goAside_2 n (blk b (mdL b m l r) h) b (nI i) (nI j) = some (blk b (mdL b (match leastD H rm k j with | none => m | some q => sA (sA m 4 i (nI q)) 5 i 0) l r) h) := by
  intro k
  induction k with
  | zero =>
    intro j n hj hn
    obtain ⟨n, rfl⟩ : ∃ q, n = q + 1 := ⟨n - 1, by omega⟩
    rw [f_X8_goAside_2, if_pos (show (8 : Int32) ≤ nI j from nI_le (a := 8) (by omega) (by omega)), leastD]
  | succ k ih =>
    intro j n hj hn
    obtain ⟨n, rfl⟩ : ∃ q, n = q + 1 := ⟨n - 1, by omega⟩
    rw [f_X8_goAside_2, if_neg (show ¬ (8 : Int32) ≤ nI j from nI_ge (b := 8) (by omega) (by omega)), md_o (blk_at _ _ _), b_some, g8_get1 (blk_at _ _ _) hi, b_some, b_some, hg, g8_creaks (blk_at _ _ _) hN hr (by omega), b_some, nI_1, ih (j + 1) n (by omega) (by omega), md_f8 (blk_at _ _ _), b_some, md_w5 hi, b_some, md_f9 (blk_at _ _ _), b_some, md_w6 hi, b_some, leastD]
    by_cases hc : H.2 1 (rm * 8 + j) ≤ 0
    · rw [if_pos hc, if_pos hc]
    · rw [if_neg hc, if_neg hc]
theorem hdR.gS {s m : Blk} (d : hdR H s m) {i : Nat} {x : Int32} : hdR H (goS s i x) (sA (sA m 4 i x) 5 i 0) := ⟨d.1, fun q hq => by
  obtain ⟨d0, d1, d2, d3⟩ := d.2 q hq
  simp only [goS, sA_2]
  by_cases e : q = i
  · subst e; simp [d2, d3]
  · simp [e, d0, d1, d2, d3]⟩
theorem g8_aside {s m : Blk} (hN : hR H (m.2 0)) {i : Nat} (hi : i < hM H) (hm : hM H ≤ 6) (hr : inR (s.2 0 i) 8 = true) (hg : m.2 0 (91 + 7 * i + 1) = s.2 0 i) (d : hdR H s m) : ∃ m', f_X8_goAside (blk b (mdL b m l r) h) b (nI i) = some (blk b (mdL b m' l r) h) ∧ hdR H (goD H s i) m' ∧ SmH m m' ∧ m'.1 1 = m.1 1 := by
  obtain ⟨er, hlt⟩ := inR_cl hr (by omega)
  have := g8_aside2 (h := h) (b := b) (l := l) (r := r) (s0 := s) hN (show i < 6 by omega) hlt (hg.trans er) 8 0 lots (by omega) (by simp only [lots]; omega)
  rw [nI_0] at this
  rw [f_X8_goAside, this, goD]
  cases leastD H (s.2 0 i).toNatClampNeg 8 0 with
  | none => exact ⟨m, rfl, d, SmH.refl m, rfl⟩
  | some q => exact ⟨_, rfl, d.gS, ((SmH.refl m).sA (by omega)).sA (by omega), rfl⟩
theorem Sin.gS {s : Blk} (si : Sin H s) {i : Nat} {x : Int32} : Sin H (goS s i x) := ((si.mv (by omega)).mv (by omega)).mv (by omega)
theorem Sin.gD {s : Blk} (si : Sin H s) {i : Nat} : Sin H (goD H s i) := by
  rw [goD]
  cases leastD H (s.2 0 i).toNatClampNeg 8 0 with
  | none => exact si
  | some j => exact si.gS
theorem Sin.pS {s : Blk} (si : Sin H s) {i k p : Nat} : Sin H (prS H s i k p) := by
  rw [prS]
  split
  · exact si
  · split
    · exact si.gD
    · split
      · exact si.gD
      · exact si.gD.gD
theorem goD_room {s : Blk} {i q : Nat} (h : ¬ q = i) : (goD H s i).2 0 q = s.2 0 q := by
  rw [goD]
  cases leastD H (s.2 0 i).toNatClampNeg 8 0 with
  | none => rfl
  | some j => simp [goO, goS, sA_2, h]
theorem g8_has44 (wH : wfH H) {i q : Nat} (hi : i < hM H) (hq : q < hM H) : ∀ (k j n : Nat) (a c : Int32) (m s : Blk), j + k = 60 → k < n → wfN H s k → Sin H s → hR H (m.2 0) → hdR H s m → m.1 1 = ey → ∃ m', f_X8_layHas_44 n (blk b (mdL b m l r) h) b (nI i) (nI q) a c (nI j) = some (encO a 0 (fiN H ey i k j s), encO c 0 (fiN H ey q k j s), blk b (mdL b m' l r) h) ∧ SmH m m' := by
  have hm := wH.2.1
  have hi6 : i < 6 := by omega
  have hq6 : q < 6 := by omega
  intro k
  induction k with
  | zero =>
    intro j n a c m s hj hn w si hN hd he
    obtain ⟨n, rfl⟩ : ∃ q, n = q + 1 := ⟨n - 1, by omega⟩
    exact ⟨m, by rw [f_X8_layHas_44, if_pos (show (60 : Int32) ≤ nI j from nI_le (a := 60) (by omega) (by omega)), fiN, fiN, encO, encO], SmH.refl m⟩
  | succ k ih =>
    intro j n a c m s hj hn w si hN hd he
    obtain ⟨n, rfl⟩ : ∃ q, n = q + 1 := ⟨n - 1, by omega⟩
    obtain ⟨m1, e1, d1, s1, y1⟩ := g8_night (h := h) (b := b) (l := l) (r := r) wH w.S si hN hd
    rw [he] at e1 d1 y1
    have one : ∀ (x : Nat) (a : Int32), x < hM H → encO (if isFnd H s ey x = true then nI j else a) 0 (fiN H ey x k (j + 1) (nightS H ey s)) = encO a 0 (fiN H ey x (k + 1) j s) := by
      intro x a hx
      rw [fiN]
      by_cases f1 : isFnd H s ey x = true
      · have o1 : isOut H s x = false := by
          simp only [isFnd, isSee, Bool.and_eq_true] at f1
          simpa using f1.1.2
        have e2 : (nightS H ey s).2 2 x = 2 := by simp [nightS, hx, o1, f1]
        rw [if_pos f1, if_pos f1, fiN_out _ _ _ (by rw [e2]; decide), encO, encO, Nat.zero_add]
      · rw [if_neg f1, if_neg f1]
    obtain ⟨m2, e2, s2⟩ := ih (j + 1) n (if isFnd H s ey i = true then nI j else a) (if isFnd H s ey q = true then nI j else c) m1 (nightS H ey s) (by omega) (by omega) w.nx si.nx (by rw [s1.now]; exact hN) d1 y1
    rw [one i a hi, one q c hq] at e2
    refine ⟨m2, ?_, s1.trans s2⟩
    rw [f_X8_layHas_44, if_neg (show ¬ (60 : Int32) ≤ nI j from nI_ge (b := 60) (by omega) (by omega)), md_o (blk_at _ _ _), b_some, e1, b2_some, nI_1, ← e2]
    simp only [fnd, bits_tst (isFnd H s ey) hi6, bits_tst (isFnd H s ey) hq6]
    by_cases f1 : isFnd H s ey i = true <;> by_cases f2 : isFnd H s ey q = true <;> simp [f1, f2]
/-- what the reference holds of a pair -/
def hasV (H s : Blk) (i q p : Nat) : Int32 :=
  if encO 1000000 0 (fiN H (H.1 0) q 60 0 (prS H s i q p)) ≤ encO 1000000 0 (fiN H (H.1 0) i 60 0 (prS H s i q p)) then (if encO 1000000 0 (fiN H (H.1 0) i 60 0 (prS H s i q p)) = encO 1000000 0 (fiN H (H.1 0) q 60 0 (prS H s i q p)) then 1 else 0) else 2
/-- no more than the hand and the two rows differ -/
def SmP (m m' : Blk) : Prop := (∀ k, 2 ≤ k → m'.1 k = m.1 k) ∧ ∀ j, j < 4 ∨ 13 ≤ j ∨ j = 9 ∨ j = 10 → m'.2 j = m.2 j
theorem SmH.P {m m' : Blk} (a : SmH m m') : SmP m m' := ⟨a.1, fun j hj => a.2 j (by omega)⟩
theorem SmP.trans {m m' m'' : Blk} (a : SmP m m') (c : SmP m' m'') : SmP m m'' := ⟨fun k hk => (c.1 k hk).trans (a.1 k hk), fun j hj => (c.2 j hj).trans (a.2 j hj)⟩
theorem SmP.sA {m m' : Blk} (a : SmP m m') {j i : Nat} {x : Int32} (hj : j = 11 ∨ j = 12) : SmP m (sA m' j i x) := ⟨a.1, fun k hk => by rw [sA_row (by omega)]; exact a.2 k hk⟩
theorem SmP.now {m m' : Blk} (a : SmP m m') : m'.2 0 = m.2 0 := a.2 0 (by omega)
theorem g8_has2 (wH : wfH H) {s m0 : Blk} (w : wfN H s 60) (si : Sin H s) (hN : hR H (m0.2 0)) (hs : sR H s (m0.2 0)) {i q : Nat} (hi : i < hM H) (hq : q < hM H) (hne : ¬ i = q) : ∀ (k j n : Nat) (m : Blk), j + k = 4 → k < n → SmP m0 m → (∀ p, p < j → m.2 11 p = hasV H s i q p ∧ m.2 12 p = 2 - hasV H s i q p) → ∃ m', f_X8_layHas_2 n (blk b (mdL b m l r) h) b (nI i) (nI q) (nI j) = some (blk b (mdL b m' l r) h) ∧ SmP m0 m' ∧ ∀ p, p < 4 → m'.2 11 p = hasV H s i q p ∧ m'.2 12 p = 2 - hasV H s i q p := by
  have hm := wH.2.1
  have hi6 : i < 6 := by omega
  have hq6 : q < 6 := by omega
  intro k
  induction k with
  | zero =>
    intro j n m hj hn sm hp
    obtain ⟨n, rfl⟩ : ∃ q, n = q + 1 := ⟨n - 1, by omega⟩
    exact ⟨m, by rw [f_X8_layHas_2, if_pos (show (4 : Int32) ≤ nI j from nI_le (a := 4) (by omega) (by omega))], sm, fun p h4 => hp p (by omega)⟩
  | succ k ih =>
    intro j n m hj hn sm hp
    obtain ⟨n, rfl⟩ : ∃ q, n = q + 1 := ⟨n - 1, by omega⟩
    obtain ⟨m1, e1, d1, s1, y1⟩ := g8_hand (h := h) (b := b) (l := l) (r := r) (m := m) wH (by rw [sm.now]; exact hN) (by rw [sm.now]; exact hs)
    have n1 : m1.2 0 = m0.2 0 := by rw [s1.now, sm.now]
    obtain ⟨mi, ei, di, si', yi⟩ := g8_aside (h := h) (b := b) (l := l) (r := r) (m := m1) (s := s) (by rw [n1]; exact hN) hi hm (w.2.2 i hi) (by rw [n1]; exact (hs.2 i hi).1) d1
    obtain ⟨mq, eq, dq, sq', yq⟩ := g8_aside (h := h) (b := b) (l := l) (r := r) (m := m1) (s := s) (by rw [n1]; exact hN) hq hm (w.2.2 q hq) (by rw [n1]; exact (hs.2 q hq).1) d1
    obtain ⟨mb, eb, db, sb', yb⟩ := g8_aside (h := h) (b := b) (l := l) (r := r) (m := mi) (s := goD H s i) (i := q) (by rw [si'.now, n1]; exact hN) hq hm (w.gD.2.2 q hq) (by rw [si'.now, n1, goD_room (by omega)]; exact (hs.2 q hq).1) di
    -- both steps aside
    have as2 : ∃ m2, (∀ K : Hea → Option Hea, ((if nI j &&& 1 = 1 then (isO (blk b (mdL b m1 l r) h) b 8).bind fun _ => (f_X8_goAside (blk b (mdL b m1 l r) h) b (nI i)).bind fun h3 => some h3 else some (blk b (mdL b m1 l r) h)).bind fun h2 => (if nI j ≤ 1 then some h2 else (isO h2 b 8).bind fun _ => (f_X8_goAside h2 b (nI q)).bind fun h5 => some h5).bind K) = K (blk b (mdL b m2 l r) h)) ∧ hdR H (prS H s i q j) m2 ∧ SmH m1 m2 ∧ m2.1 1 = H.1 0 := by
      rcases (show j = 0 ∨ j = 1 ∨ j = 2 ∨ j = 3 by omega) with rfl | rfl | rfl | rfl
      · refine ⟨m1, fun K => ?_, d1, SmH.refl m1, y1⟩
        rw [if_neg (show ¬ nI 0 &&& 1 = 1 by decide), b_some, if_pos (show nI 0 ≤ 1 by decide), b_some]
      · refine ⟨mi, fun K => ?_, di, si', yi.trans y1⟩
        rw [if_pos (show nI 1 &&& 1 = 1 by decide), md_o (blk_at _ _ _), b_some, ei, b_some, b_some, if_pos (show nI 1 ≤ 1 by decide), b_some]
      · refine ⟨mq, fun K => ?_, dq, sq', yq.trans y1⟩
        rw [if_neg (show ¬ nI 2 &&& 1 = 1 by decide), b_some, if_neg (show ¬ nI 2 ≤ 1 by decide), md_o (blk_at _ _ _), b_some, eq, b_some, b_some]
      · refine ⟨mb, fun K => ?_, db, si'.trans sb', yb.trans (yi.trans y1)⟩
        rw [if_pos (show nI 3 &&& 1 = 1 by decide), md_o (blk_at _ _ _), b_some, ei, b_some, b_some, if_neg (show ¬ nI 3 ≤ 1 by decide), md_o (blk_at _ _ _), b_some, eb, b_some, b_some]
    obtain ⟨m2, e2, d2, s2, y2⟩ := as2
    obtain ⟨m3, e3, s3⟩ := g8_has44 (h := h) (b := b) (l := l) (r := r) (ey := H.1 0) wH hi hq 60 0 lots 1000000 1000000 m2 (prS H s i q j) (by omega) (by simp only [lots]; omega) w.pS si.pS (by rw [s2.now, n1]; exact hN) d2 y2
    rw [nI_0] at e3
    have sm3 : SmP m0 m3 := sm.trans ((s1.trans (s2.trans s3)).P)
    obtain ⟨m4, e4, s4, p4⟩ := ih (j + 1) n (sA (sA m3 11 j (hasV H s i q j)) 12 j (2 - hasV H s i q j)) (by omega) (by omega) ((sm3.sA (by omega)).sA (by omega)) (fun p h4 => by
      have r11 : m3.2 11 = m.2 11 := by rw [s3.2 11 (by omega), s2.2 11 (by omega), s1.2 11 (by omega)]
      have r12 : m3.2 12 = m.2 12 := by rw [s3.2 12 (by omega), s2.2 12 (by omega), s1.2 12 (by omega)]
      simp only [sA_2, r11, r12]
      by_cases hpj : p = j
      · simp [hpj]
      · simpa [hpj] using hp p (by omega))
    refine ⟨m4, ?_, s4, p4⟩
    have key : (if encO 1000000 0 (fiN H (H.1 0) q 60 0 (prS H s i q j)) ≤ encO 1000000 0 (fiN H (H.1 0) i 60 0 (prS H s i q j)) then (if encO 1000000 0 (fiN H (H.1 0) i 60 0 (prS H s i q j)) = encO 1000000 0 (fiN H (H.1 0) q 60 0 (prS H s i q j)) then some (1 : Int32) else some 0) else some 2) = some (hasV H s i q j) := by
      rw [hasV]
      split
      · split <;> rfl
      · rfl
    rw [f_X8_layHas_2, if_neg (show ¬ (4 : Int32) ≤ nI j from nI_ge (b := 4) (by omega) (by omega)), md_o (blk_at _ _ _), b_some, e1, b_some, e2, e3, b3_some, md_f15 (blk_at _ _ _), b_some, key, b_some, md_w12 (by omega), b_some, md_f16 (blk_at _ _ _), b_some, md_f15 (blk_at _ _ _), b_some, md_m12 (blk_at _ _ _) (by omega), b_some, md_w13 (by omega), b_some, nI_1, show (sA m3 11 j (hasV H s i q j)).2 11 j = hasV H s i q j by simp [sA_2]]
    exact e4
theorem g8_ch62 {m : Blk} {v : Nat → Int32} (hv : ∀ p, p < 4 → m.2 11 p = v p ∧ m.2 12 p = 2 - v p) (hv3 : ∀ p, v p = 0 ∨ v p = 1 ∨ v p = 2) : ∀ (k j n : Nat) (a : Int32), j + k = 4 → k < n → f_X8_choose_62 n (blk b (mdL b m l r) h) b a (nI j) = some (chL v k j a) := by
  intro k
  induction k with
  | zero =>
    intro j n a hj hn
    obtain ⟨n, rfl⟩ : ∃ q, n = q + 1 := ⟨n - 1, by omega⟩
    rw [f_X8_choose_62, if_pos (show (4 : Int32) ≤ nI j from nI_le (a := 4) (by omega) (by omega)), chL]
  | succ k ih =>
    intro j n a hj hn
    obtain ⟨n, rfl⟩ : ∃ q, n = q + 1 := ⟨n - 1, by omega⟩
    obtain ⟨x1, x2, l1, l2⟩ := xr_1 j (by omega)
    have h4 : j < 4 := by omega
    have two : ∀ x y : Int32, (x = 0 ∨ x = 1 ∨ x = 2) → (y = 0 ∨ y = 1 ∨ y = 2) → ((2 - x < 2 - y) ↔ y < x) := by
      rintro x y (rfl | rfl | rfl) (rfl | rfl | rfl) <;> decide
    rw [f_X8_choose_62, if_neg (show ¬ (4 : Int32) ≤ nI j from nI_ge (b := 4) (by omega) (by omega)), x1, x2]
    simp only [md_f15 (blk_at b (mdL b m l r) h), md_f16 (blk_at b (mdL b m l r) h), b_some, md_m12 (blk_at b (mdL b m l r) h) h4, md_m12 (blk_at b (mdL b m l r) h) l1, md_m13 (blk_at b (mdL b m l r) h) h4, md_m13 (blk_at b (mdL b m l r) h) l2, (hv j h4).1, (hv j h4).2, (hv _ l1).1, (hv _ l2).2, two _ _ (hv3 j) (hv3 (xr2 j)), nI_1]
    rw [chL, ← ih (j + 1) n _ (by omega) (by omega)]
    by_cases c1 : v j < v (xr1 j)
    · simp [c1]
    · by_cases c2 : v (xr2 j) < v j
      · simp [c1, c2]
      · simp [c1, c2]
theorem g8_odds19 (wH : wfH H) {s m0 : Blk} (w : wfN H s 60) (si : Sin H s) (hN : hR H (m0.2 0)) (hs : sR H s (m0.2 0)) {i : Nat} : ∀ (k j n : Nat) (a : Int32) (m : Blk), j + k = 26 → k < n → SmH m0 m → ∃ m', f_X8_odds_19 n (blk b (mdL b m l r) h) b (nI i) a (nI j) = some (oddL H i s k j a, blk b (mdL b m' l r) h) ∧ SmH m0 m' := by
  intro k
  induction k with
  | zero =>
    intro j n a m hj hn sm
    obtain ⟨n, rfl⟩ : ∃ q, n = q + 1 := ⟨n - 1, by omega⟩
    exact ⟨m, by rw [f_X8_odds_19, if_pos (show (26 : Int32) ≤ nI j from nI_le (a := 26) (by omega) (by omega)), oddL], sm⟩
  | succ k ih =>
    intro j n a m hj hn sm
    obtain ⟨n, rfl⟩ : ∃ q, n = q + 1 := ⟨n - 1, by omega⟩
    obtain ⟨m1, e1, d1, s1, y1⟩ := g8_hand (h := h) (b := b) (l := l) (r := r) (m := m) wH (by rw [sm.now]; exact hN) (by rw [sm.now]; exact hs)
    obtain ⟨m2, e2, d2, s2⟩ := g8_till (h := h) (b := b) (l := l) (r := r) (m := sS m1 1 (nI j)) (ey := nI j) wH w si (by rw [sS_2, s1.now, sm.now]; exact hN) ⟨d1.1, d1.2⟩ rfl
    obtain ⟨m3, e3, s3⟩ := ih (j + 1) n (a + (((tillF H (nI j) 60 0 s).1 >>> (nI i &&& 31)) &&& 1)) m2 (by omega) (by omega) (sm.trans ((s1.sS (by omega)).trans s2))
    refine ⟨m3, ?_, s3⟩
    rw [f_X8_odds_19, if_neg (show ¬ (26 : Int32) ≤ nI j from nI_ge (b := 26) (by omega) (by omega)), md_o (blk_at _ _ _), b_some, e1, b_some, pI, md_p7, b_some, md_o (blk_at _ _ _), b_some, e2, b2_some, nI_1, e3, oddL]
theorem g8_pass19 (wH : wfH H) {s m : Blk} (wS : wfS H s) (hN : hR H (m.2 0)) (hd : hdR H s m) : ∀ (k j n : Nat), j + k = hM H → k < n → f_X8_passed_19 n (blk b (mdL b m l r) h) b (bitsF (fun i => isSee H s i && !isFnd H s (m.1 1) i) j) (lk H (sN s)) (nI j) = some (bitsF (fun i => isSee H s i && !isFnd H s (m.1 1) i) (hM H)) := by
  have hm := wH.2.1
  intro k
  induction k with
  | zero =>
    intro j n hj hn
    obtain ⟨n, rfl⟩ : ∃ q, n = q + 1 := ⟨n - 1, by omega⟩
    rw [f_X8_passed_19, md_o (blk_at _ _ _), b_some, g8_heirs (blk_at _ _ _), b_some, hN.1, wH.1, if_pos (nI_le (by omega) (by omega)), show j = hM H by omega]
  | succ k ih =>
    intro j n hj hn
    obtain ⟨n, rfl⟩ : ∃ q, n = q + 1 := ⟨n - 1, by omega⟩
    have hj6 : j < 6 := by omega
    have hjm : j < hM H := by omega
    obtain ⟨d0, d1, d2, d3⟩ := hd.2 j hjm
    rw [f_X8_passed_19, md_o (blk_at _ _ _), b_some, g8_heirs (blk_at _ _ _), b_some, hN.1, wH.1, if_neg (nI_ge (by omega) (by omega)), b_some, g8_hidden hN hd wH hjm (wS.2.2 j hjm), b_some]
    simp only [md_f10 (blk_at b (mdL b m l r) h), md_f8 (blk_at b (mdL b m l r) h), md_f0 (blk_at b (mdL b m l r) h), md_f7 (blk_at b (mdL b m l r) h), b_some, md_m7 (blk_at b (mdL b m l r) h) hj6, md_m5 (blk_at b (mdL b m l r) h) hj6, ln_2 (blk_at b (mdL b m l r) h), d0, d2, hN.2.2.1, nI_1]
    rw [← ih (j + 1) n (by omega) (by omega), bitsF_s]
    by_cases h2 : s.2 2 j = 0
    · by_cases h3 : s.2 0 j = lk H (sN s)
      · by_cases h4 : hid H s j < H.1 1
        · have o1 : isOut H s j = true := by simp [isOut, h2, h4, hjm]
          simp [h2, h3, h4, isSee, o1]
        · have o1 : isOut H s j = false := by simp [isOut, h4]
          have i1 : isIn H s j = true := by simp [isIn, h2, h3, hjm]
          by_cases h5 : hid H s j < m.1 1
          · simp [h2, h3, h4, h5, isSee, isFnd, o1, i1]
          · simp [h2, h3, h4, h5, isSee, isFnd, o1, i1]
      · have i1 : isIn H s j = false := by simp [isIn, h3]
        simp [h2, h3, isSee, i1]
    · have i1 : isIn H s j = false := by simp [isIn, h2]
      simp [h2, isSee, i1]
theorem g8_seed50 (wH : wfH H) {m0 : Blk} (hN : hR H (m0.2 0)) {c : Nat} : ∀ (k j n : Nat) (z : Nat) (m s : Blk), j + k = hM H → k < n → wfN H s c → Sin H s → hdR H s m → SmH m0 m → z < 2147483648 → ∃ m', f_X8_nights_50 n (blk b (mdL b m l r) h) b (lN z) (nI j) = some (lN (seedM H k j z s).1, blk b (mdL b m' l r) h) ∧ hdR H (seedM H k j z s).2 m' ∧ SmH m0 m' ∧ m'.1 1 = m.1 1 ∧ wfN H (seedM H k j z s).2 c ∧ Sin H (seedM H k j z s).2 ∧ (seedM H k j z s).1 < 2147483648 := by
  have hm := wH.2.1
  intro k
  induction k with
  | zero =>
    intro j n z m s hj hn wS si hd sm hz
    obtain ⟨n, rfl⟩ : ∃ q, n = q + 1 := ⟨n - 1, by omega⟩
    exact ⟨m, by rw [f_X8_nights_50, md_o (blk_at _ _ _), b_some, g8_heirs (blk_at _ _ _), b_some, sm.now, hN.1, wH.1, if_pos (nI_le (by omega) (by omega)), seedM], hd, sm, rfl, wS, si, hz⟩
  | succ k ih =>
    intro j n z m s hj hn wS si hd sm hz
    obtain ⟨n, rfl⟩ : ∃ q, n = q + 1 := ⟨n - 1, by omega⟩
    have hj6 : j < 6 := by omega
    have hjm : j < hM H := by omega
    obtain ⟨d0, d1, d2, d3⟩ := hd.2 j hjm
    obtain ⟨er, hr⟩ := inR_cl (wS.2.2 j hjm) (by omega)
    have cr := g8_creaks (blk_at b (mdL b m l r) h) (sm.now ▸ hN) hr (lcrN_lt z)
    rw [← er] at cr
    have fin : ∀ (m1 s1 : Blk), wfN H s1 c → Sin H s1 → hdR H s1 m1 → SmH m0 m1 → m1.1 1 = m.1 1 → (if s.2 2 j = 0 then (if H.2 1 ((s.2 0 j).toNatClampNeg * 8 + lcrN z) ≤ 0 then s else goS s j (nI (lcrN z))) else s) = s1 → ∃ m', f_X8_nights_50 n (blk b (mdL b m1 l r) h) b (lN (lcgN z)) (nI (j + 1)) = some (lN (seedM H (k + 1) j z s).1, blk b (mdL b m' l r) h) ∧ hdR H (seedM H (k + 1) j z s).2 m' ∧ SmH m0 m' ∧ m'.1 1 = m.1 1 ∧ wfN H (seedM H (k + 1) j z s).2 c ∧ Sin H (seedM H (k + 1) j z s).2 ∧ (seedM H (k + 1) j z s).1 < 2147483648 := by
      intro m1 s1 w1 i1 d1 sm1 y1 e1
      obtain ⟨m', a1, a2, a3, a4, a5⟩ := ih (j + 1) n (lcgN z) m1 s1 (by omega) (by omega) w1 i1 d1 sm1 (lcgN_lt z)
      rw [seedM, e1]
      exact ⟨m', a1, a2, a3, a4.trans y1, a5⟩
    rw [f_X8_nights_50, md_o (blk_at _ _ _), b_some, g8_heirs (blk_at _ _ _), b_some, sm.now, hN.1, wH.1, if_neg (nI_ge (by omega) (by omega)), lcg_l z hz, lcr_l, md_f10 (blk_at _ _ _), b_some, md_m7 (blk_at _ _ _) hj6, b_some, d2, md_f8 (blk_at _ _ _), b_some, md_m5 (blk_at _ _ _) hj6, b_some, d0, b_some, cr, b_some, b_some, md_w5 hj6, b_some, md_f9 (blk_at _ _ _), b_some, md_w6 hj6, b_some, nI_1]
    by_cases h1 : s.2 2 j = 0
    · by_cases h2 : H.2 1 ((s.2 0 j).toNatClampNeg * 8 + lcrN z) ≤ 0
      · rw [if_pos h1, if_pos h2, b_some]
        exact fin m s wS si hd sm rfl (by rw [if_pos h1, if_pos h2])
      · rw [if_pos h1, if_neg h2, b_some]
        exact fin _ _ (wS.gS (inR_nI (lcrN_lt z) (by omega))) si.gS hd.gS ((sm.sA (by omega)).sA (by omega)) rfl (by rw [if_pos h1, if_neg h2])
    · rw [if_neg h1, b_some]
      exact fin m s wS si hd sm rfl (by rw [if_neg h1])
theorem g8_seed41 (wH : wfH H) {m0 : Blk} (hN : hR H (m0.2 0)) {t : Nat} (ht : t ≤ 30) : ∀ (k j n : Nat) (z : Nat) (m s : Blk), j + k = t → k < n → wfN H s k → Sin H s → hdR H s m → SmH m0 m → m.1 1 = ey → z < 2147483648 → ∃ m', f_X8_nights_41 n (blk b (mdL b m l r) h) b (nI t) (lN z) (nI j) = some (blk b (mdL b m' l r) h) ∧ hdR H (seedN H ey k z s) m' ∧ SmH m0 m' := by
  have hm := wH.2.1
  intro k
  induction k with
  | zero =>
    intro j n z m s hj hn wS si hd sm he hz
    obtain ⟨n, rfl⟩ : ∃ q, n = q + 1 := ⟨n - 1, by omega⟩
    exact ⟨m, by rw [f_X8_nights_41, if_pos (nI_le (by omega) (by omega))], hd, sm⟩
  | succ k ih =>
    intro j n z m s hj hn wS si hd sm he hz
    obtain ⟨n, rfl⟩ : ∃ q, n = q + 1 := ⟨n - 1, by omega⟩
    obtain ⟨m1, e1, d1, s1, y1, w1, i1, z1⟩ := g8_seed50 (h := h) (b := b) (l := l) (r := r) wH hN (hM H) 0 lots z m s (by omega) (by simp only [lots]; omega) wS si hd sm hz
    rw [nI_0] at e1
    obtain ⟨m2, e2, d2, s2, y2⟩ := g8_night (h := h) (b := b) (l := l) (r := r) wH w1.S i1 (by rw [s1.now]; exact hN) d1
    rw [y1, he] at e2 d2 y2
    obtain ⟨m3, e3, d3, s3⟩ := ih (j + 1) n (seedM H (hM H) 0 z s).1 m2 (nightS H ey (seedM H (hM H) 0 z s).2) (by omega) (by omega) w1.nx i1.nx d2 (s1.trans s2) y2 z1
    refine ⟨m3, ?_, d3, s3⟩
    rw [f_X8_nights_41, if_neg (nI_ge (by omega) (by omega)), e1, b2_some, md_o (blk_at _ _ _), b_some, e2, b2_some, nI_1, e3]
theorem g8_cnt152 (wH : wfH H) {s m : Blk} (hN : hR H (m.2 0)) (hd : hdR H s m) : ∀ (k j n : Nat), j + k = hM H → k < n → f_X8_nights_152 n (blk b (mdL b m l r) h) b (nI (cntF (fun q => decide (s.2 2 q = 2)) j)) (nI j) = some (nI (cntF (fun q => decide (s.2 2 q = 2)) (hM H))) := by
  have hm := wH.2.1
  intro k
  induction k with
  | zero =>
    intro j n hj hn
    obtain ⟨n, rfl⟩ : ∃ q, n = q + 1 := ⟨n - 1, by omega⟩
    rw [f_X8_nights_152, md_o (blk_at _ _ _), b_some, g8_heirs (blk_at _ _ _), b_some, hN.1, wH.1, if_pos (nI_le (by omega) (by omega)), show j = hM H by omega]
  | succ k ih =>
    intro j n hj hn
    obtain ⟨n, rfl⟩ : ∃ q, n = q + 1 := ⟨n - 1, by omega⟩
    have hj6 : j < 6 := by omega
    rw [f_X8_nights_152, md_o (blk_at _ _ _), b_some, g8_heirs (blk_at _ _ _), b_some, hN.1, wH.1, if_neg (nI_ge (by omega) (by omega)), md_f10 (blk_at _ _ _), b_some, md_m7 (blk_at _ _ _) hj6, b_some, (hd.2 j (by omega)).2.2.1, nI_1, ← ih (j + 1) n (by omega) (by omega)]
    by_cases h1 : s.2 2 j = 2
    · rw [if_pos h1, b_some, nI_1]; simp [cntF, h1]
    · rw [if_neg h1, b_some, Int32.add_zero]; simp [cntF, h1]
end
