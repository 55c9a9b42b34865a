/-! ===== the reference: the way ===== -/
section
variable {h : Hea} {b : Nat} {l : Nat → Int64} {r : Nat → Nat → Int64}
theorem g8_mv2 : ∀ (k j n : Nat) (m : Blk), j + k = 48 → k < n → (∀ q, q < j → m.2 10 q = m.2 9 q) → ∃ m', f_X8_moveAll_2 n (blk b (mdL b m l r) h) b (nI j) = some (blk b (mdL b m' l r) h) ∧ (∀ q, q < 48 → m'.2 10 q = m.2 9 q) ∧ m'.1 = m.1 ∧ ∀ c, ¬ c = 10 → m'.2 c = m.2 c := by
  intro k
  induction k with
  | zero =>
    intro j n m hj hn hg
    obtain ⟨n, rfl⟩ : ∃ q, n = q + 1 := ⟨n - 1, by omega⟩
    exact ⟨m, by rw [f_X8_moveAll_2, if_pos (show (48 : Int32) ≤ nI j from nI_le (a := 48) (by omega) (by omega))], fun q hq => hg q (by omega), rfl, fun _ _ => rfl⟩
  | succ k ih =>
    intro j n m hj hn hg
    obtain ⟨n, rfl⟩ : ∃ q, n = q + 1 := ⟨n - 1, by omega⟩
    obtain ⟨m', e, r1, r2, r3⟩ := ih (j + 1) n (sA m 10 j (m.2 9 j)) (by omega) (by omega) (fun q hq => by
      rw [sA_row (j := 9) (by omega), sA_2]
      by_cases e : q = j
      · simp [e]
      · simpa [e] using hg q (by omega))
    refine ⟨m', ?_, fun q hq => by rw [r1 q hq, sA_row (by omega)], r2, fun c hc => by rw [r3 c hc, sA_row hc]⟩
    rw [f_X8_moveAll_2, if_neg (show ¬ (48 : Int32) ≤ nI j from nI_ge (b := 48) (by omega) (by omega)), md_f14 (blk_at _ _ _), b_some, md_f13 (blk_at _ _ _), b_some, md_m10 (blk_at _ _ _) (by omega), b_some, md_w11 (by omega), b_some, nI_1, e]
theorem g8_mv122 : ∀ (k j n : Nat) (m : Blk), j + k = 48 → k < n → (∀ q, q < j → m.2 9 q = m.2 10 q) → ∃ m', f_X8_moveAll_122 n (blk b (mdL b m l r) h) b (nI j) = some (blk b (mdL b m' l r) h) ∧ (∀ q, q < 48 → m'.2 9 q = m.2 10 q) ∧ m'.1 = m.1 ∧ ∀ c, ¬ c = 9 → m'.2 c = m.2 c := by
  intro k
  induction k with
  | zero =>
    intro j n m hj hn hg
    obtain ⟨n, rfl⟩ : ∃ q, n = q + 1 := ⟨n - 1, by omega⟩
    exact ⟨m, by rw [f_X8_moveAll_122, if_pos (show (48 : Int32) ≤ nI j from nI_le (a := 48) (by omega) (by omega))], fun q hq => hg q (by omega), rfl, fun _ _ => rfl⟩
  | succ k ih =>
    intro j n m hj hn hg
    obtain ⟨n, rfl⟩ : ∃ q, n = q + 1 := ⟨n - 1, by omega⟩
    obtain ⟨m', e, r1, r2, r3⟩ := ih (j + 1) n (sA m 9 j (m.2 10 j)) (by omega) (by omega) (fun q hq => by
      rw [sA_row (j := 10) (by omega), sA_2]
      by_cases e : q = j
      · simp [e]
      · simpa [e] using hg q (by omega))
    refine ⟨m', ?_, fun q hq => by rw [r1 q hq, sA_row (by omega)], r2, fun c hc => by rw [r3 c hc, sA_row hc]⟩
    rw [f_X8_moveAll_122, if_neg (show ¬ (48 : Int32) ≤ nI j from nI_ge (b := 48) (by omega) (by omega)), md_f13 (blk_at _ _ _), b_some, md_f14 (blk_at _ _ _), b_some, md_m11 (blk_at _ _ _) (by omega), b_some, md_w10 (by omega), b_some, nI_1, e]
theorem g8_no224 : ∀ (k j n : Nat) (m : Blk), j + k = 48 → k < n → (∀ q, q < j → m.2 9 q = m.2 10 q) → ∃ m', f_X8_nightOfOne_224 n (blk b (mdL b m l r) h) b (nI j) = some (blk b (mdL b m' l r) h) ∧ (∀ q, q < 48 → m'.2 9 q = m.2 10 q) ∧ m'.1 = m.1 ∧ ∀ c, ¬ c = 9 → m'.2 c = m.2 c := by
  intro k
  induction k with
  | zero =>
    intro j n m hj hn hg
    obtain ⟨n, rfl⟩ : ∃ q, n = q + 1 := ⟨n - 1, by omega⟩
    exact ⟨m, by rw [f_X8_nightOfOne_224, if_pos (show (48 : Int32) ≤ nI j from nI_le (a := 48) (by omega) (by omega))], fun q hq => hg q (by omega), rfl, fun _ _ => rfl⟩
  | succ k ih =>
    intro j n m hj hn hg
    obtain ⟨n, rfl⟩ : ∃ q, n = q + 1 := ⟨n - 1, by omega⟩
    obtain ⟨m', e, r1, r2, r3⟩ := ih (j + 1) n (sA m 9 j (m.2 10 j)) (by omega) (by omega) (fun q hq => by
      rw [sA_row (j := 10) (by omega), sA_2]
      by_cases e : q = j
      · simp [e]
      · simpa [e] using hg q (by omega))
    refine ⟨m', ?_, fun q hq => by rw [r1 q hq, sA_row (by omega)], r2, fun c hc => by rw [r3 c hc, sA_row hc]⟩
    rw [f_X8_nightOfOne_224, if_neg (show ¬ (48 : Int32) ≤ nI j from nI_ge (b := 48) (by omega) (by omega)), md_f13 (blk_at _ _ _), b_some, md_f14 (blk_at _ _ _), b_some, md_m11 (blk_at _ _ _) (by omega), b_some, md_w10 (by omega), b_some, nI_1, e]
theorem g8_no6 : ∀ (k j n : Nat) (m : Blk), j + k = 48 → k < n → (∀ q, q < j → m.2 10 q = 1000000) → ∃ m', f_X8_nightOfOne_6 n (blk b (mdL b m l r) h) b (nI j) = some (blk b (mdL b m' l r) h) ∧ Rw 1000000 (m'.2 10) (fun _ => none) ∧ m'.1 = m.1 ∧ ∀ c, ¬ c = 10 → m'.2 c = m.2 c := by
  intro k
  induction k with
  | zero =>
    intro j n m hj hn hg
    obtain ⟨n, rfl⟩ : ∃ q, n = q + 1 := ⟨n - 1, by omega⟩
    exact ⟨m, by rw [f_X8_nightOfOne_6, if_pos (show (48 : Int32) ≤ nI j from nI_le (a := 48) (by omega) (by omega))], fun q hq => hg q (by omega), rfl, fun _ _ => rfl⟩
  | succ k ih =>
    intro j n m hj hn hg
    obtain ⟨n, rfl⟩ : ∃ q, n = q + 1 := ⟨n - 1, by omega⟩
    obtain ⟨m', e, r1, r2, r3⟩ := ih (j + 1) n (sA m 10 j 1000000) (by omega) (by omega) (fun q hq => by
      rw [sA_2]
      by_cases e : q = j
      · simp [e]
      · simpa [e] using hg q (by omega))
    refine ⟨m', ?_, r1, r2, fun c hc => by rw [r3 c hc, sA_row hc]⟩
    rw [f_X8_nightOfOne_6, if_neg (show ¬ (48 : Int32) ≤ nI j from nI_ge (b := 48) (by omega) (by omega)), md_f14 (blk_at _ _ _), b_some, md_w11 (by omega), b_some, nI_1, e]
theorem g8_way45 : ∀ (k j n : Nat) (m : Blk), j + k = 48 → k < n → (∀ q, q < j → m.2 9 q = 1000000) → ∃ m', f_X8_way_45 n (blk b (mdL b m l r) h) b (nI j) = some (blk b (mdL b m' l r) h) ∧ Rw 1000000 (m'.2 9) (fun _ => none) ∧ m'.1 = m.1 ∧ ∀ c, ¬ c = 9 → m'.2 c = m.2 c := by
  intro k
  induction k with
  | zero =>
    intro j n m hj hn hg
    obtain ⟨n, rfl⟩ : ∃ q, n = q + 1 := ⟨n - 1, by omega⟩
    exact ⟨m, by rw [f_X8_way_45, if_pos (show (48 : Int32) ≤ nI j from nI_le (a := 48) (by omega) (by omega))], fun q hq => hg q (by omega), rfl, fun _ _ => rfl⟩
  | succ k ih =>
    intro j n m hj hn hg
    obtain ⟨n, rfl⟩ : ∃ q, n = q + 1 := ⟨n - 1, by omega⟩
    obtain ⟨m', e, r1, r2, r3⟩ := ih (j + 1) n (sA m 9 j 1000000) (by omega) (by omega) (fun q hq => by
      rw [sA_2]
      by_cases e : q = j
      · simp [e]
      · simpa [e] using hg q (by omega))
    refine ⟨m', ?_, r1, r2, fun c hc => by rw [r3 c hc, sA_row hc]⟩
    rw [f_X8_way_45, if_neg (show ¬ (48 : Int32) ≤ nI j from nI_ge (b := 48) (by omega) (by omega)), md_f13 (blk_at _ _ _), b_some, md_w10 (by omega), b_some, nI_1, e]
/-- what stays while the way is sought -/
def WX (i : Nat) (m0 m : Blk) : Prop := m.1 = m0.1 ∧ (∀ j, ¬ (j = 4 ∨ j = 5 ∨ j = 9 ∨ j = 10) → m.2 j = m0.2 j) ∧ ∀ q, ¬ q = i → m.2 4 q = m0.2 4 q ∧ m.2 5 q = m0.2 5 q
theorem WX.row {i : Nat} {m0 m m' : Blk} (a : WX i m0 m) (h1 : m'.1 = m.1) (h2 : ∀ c, ¬ (c = 9 ∨ c = 10) → m'.2 c = m.2 c) : WX i m0 m' := ⟨h1.trans a.1, fun j hj => by rw [h2 j (by omega)]; exact a.2.1 j hj, fun q hq => by rw [h2 4 (by omega), h2 5 (by omega)]; exact a.2.2 q hq⟩
theorem WX.now {i : Nat} {m0 m : Blk} (a : WX i m0 m) : m.2 0 = m0.2 0 := a.2.1 0 (by omega)
theorem WX.set {i : Nat} {m0 m : Blk} (a : WX i m0 m) {x y : Int32} : WX i m0 (sA (sA m 4 i x) 5 i y) := ⟨a.1, fun j hj => by rw [sA_row (by omega), sA_row (by omega)]; exact a.2.1 j hj, fun q hq => by
  simp only [sA_2]
  simpa [hq] using a.2.2 q hq⟩
theorem WX.hd {H s : Blk} {i : Nat} {m0 m : Blk} (a : WX i m0 m) (d : hdR H s m0) {x y : Nat} : hdR H (setI s i x y) (sA (sA m 4 i (nI x)) 5 i (nI y)) := ⟨by rw [show (sA (sA m 4 i (nI x)) 5 i (nI y)).1 = m.1 from rfl, a.1]; exact d.1, fun q hq => by
  obtain ⟨d0, d1, d2, d3⟩ := d.2 q hq
  have r6 := a.2.1 6 (by omega)
  have r7 := a.2.1 7 (by omega)
  simp only [setI, sA_2]
  by_cases e : q = i
  · subst e; simp [r6, r7, d2, d3]
  · obtain ⟨w4, w5⟩ := a.2.2 q e
    simp [e, r6, r7, w4, w5, d0, d1, d2, d3]⟩
theorem Rw_same {M : Int32} {f : Nat → Int32} {d : Nat → Option Nat} {q : Nat} (h : Rw M f d) : Rw M (upd f q (f q)) d := by
  intro j hj
  rw [upd]
  by_cases e : j = q
  · rw [if_pos e, ← e]; exact h j hj
  · rw [if_neg e]; exact h j hj
theorem sA_own {m : Blk} {k i : Nat} {x : Int32} : (sA m k i x).2 k = upd (m.2 k) i x := by simp [sA]
theorem enc6 {o : Option Nat} (hb : ∀ v, o = some v → v ≤ 1000) : (1000000 ≤ encO 1000000 0 o) ↔ o = none := by
  cases o with
  | none => exact ⟨fun _ => rfl, fun _ => Int32.le_refl _⟩
  | some v =>
    have := hb v rfl
    refine ⟨fun e => ?_, fun e => by cases e⟩
    rw [encO, show (1000000 : Int32) = nI 1000000 from rfl, nI_leI (by omega) (by omega)] at e
    omega
variable {H : Blk}
theorem g8_mv36 {m0 : Blk} (hN : hR H (m0.2 0)) (wC : wfC H) {i a c : Nat} (ha : a < 48) (hc : c ≤ 900) : ∀ (k j n : Nat) (m : Blk) (d : Nat → Option Nat), j + k = 8 → k < n → WX i m0 m → m.2 9 a = nI c → Rw 1000000 (m.2 10) d → bdO d 909 → ∃ m', f_X8_moveAll_36 n (blk b (mdL b m l r) h) b (nI a) (nI j) = some (blk b (mdL b m' l r) h) ∧ WX i m0 m' ∧ m'.2 9 = m.2 9 ∧ Rw 1000000 (m'.2 10) (sprR H (a / 6) c k j d) := by
  intro k
  induction k with
  | zero =>
    intro j n m d hj hn wx h9 hR hb
    obtain ⟨n, rfl⟩ : ∃ q, n = q + 1 := ⟨n - 1, by omega⟩
    exact ⟨m, by rw [f_X8_moveAll_36, if_pos (show (8 : Int32) ≤ nI j from nI_le (a := 8) (by omega) (by omega))], wx, rfl, hR⟩
  | succ k ih =>
    intro j n m d hj hn wx h9 hR hb
    obtain ⟨n, rfl⟩ : ∃ q, n = q + 1 := ⟨n - 1, by omega⟩
    obtain ⟨v, hv, ev⟩ := wC (a / 6 * 8 + j) (by omega)
    have ecn : cn H (a / 6 * 8 + j) = v := by rw [cn, ev, nI_clamp (by omega)]
    rw [f_X8_moveAll_36, if_neg (show ¬ (8 : Int32) ≤ nI j from nI_ge (b := 8) (by omega) (by omega)), md_f13 (blk_at _ _ _), b_some, md_m10 (blk_at _ _ _) ha, b_some, h9, if_neg (show ¬ (1000000 : Int32) ≤ nI c from nI_ge (b := 1000000) (by omega) (by omega)), md_o (blk_at _ _ _), b_some, show nI a / 6 = nI (a / 6) from pk_div (d := 6) (by omega) (by omega) (by omega), g8_creaks (blk_at _ _ _) (wx.now ▸ hN) (by omega) (by omega), b_some, show (6 : Int32) * nI j = nI (j * 6) by rw [show (6 : Int32) = nI 6 from rfl, pk_mul, Nat.mul_comm], md_f14 (blk_at _ _ _), b_some, b_some, md_m11 (blk_at _ _ _) (by omega), b_some, sprR]
    by_cases h0 : H.2 1 (a / 6 * 8 + j) ≤ 0
    · obtain ⟨m', e, r1, r2, r3⟩ := ih (j + 1) n (sA m 10 (j * 6) (m.2 10 (j * 6))) d (by omega) (by omega) (wx.row rfl (fun c hc => sA_row (by omega))) (by rw [sA_row (by omega)]; exact h9) (by rw [sA_own]; exact Rw_same hR) hb
      rw [if_pos h0, if_pos h0, b_some, md_w11 (by omega), b_some, nI_1]
      exact ⟨m', e, r1, r2.trans (sA_row (by omega)), r3⟩
    · obtain ⟨m', e, r1, r2, r3⟩ := ih (j + 1) n (sA m 10 (j * 6) (encO 1000000 0 (omin (d (j * 6)) (c + v)))) (upO d (j * 6) (c + v)) (by omega) (by omega) (wx.row rfl (fun c hc => sA_row (by omega))) (by rw [sA_row (by omega)]; exact h9) (by rw [sA_own]; exact Rw_up hR rfl) (upO_bnd hb (by omega))
      rw [if_neg h0, if_neg h0, b_some, md_m11 (blk_at _ _ _) (by omega), b_some, b_some, md_m10 (blk_at _ _ _) ha, b_some, h9, ev, nI_add, g8_least, b_some, b_some, hR _ (by omega), show (1000000 : Int32) = nI 1000000 from rfl, omin_le (by omega) (by omega) (fun u e => by have := hb _ _ e; omega), md_w11 (by omega), b_some, nI_1, ecn]
      exact ⟨m', e, r1, r2.trans (sA_row (by omega)), r3⟩
theorem g8_mv28 {m0 : Blk} (hN : hR H (m0.2 0)) (wC : wfC H) {i : Nat} {d0 : Nat → Option Nat} (hb0 : bdO d0 900) : ∀ (k j n : Nat) (m : Blk) (d : Nat → Option Nat), j + k = 48 → k < n → WX i m0 m → Rw 1000000 (m.2 9) d0 → Rw 1000000 (m.2 10) d → bdO d 909 → ∃ m', f_X8_moveAll_28 n (blk b (mdL b m l r) h) b (nI j) = some (blk b (mdL b m' l r) h) ∧ WX i m0 m' ∧ Rw 1000000 (m'.2 10) (sprA H d0 k j d) := by
  intro k
  induction k with
  | zero =>
    intro j n m d hj hn wx h9 hR hb
    obtain ⟨n, rfl⟩ : ∃ q, n = q + 1 := ⟨n - 1, by omega⟩
    exact ⟨m, by rw [f_X8_moveAll_28, if_pos (show (48 : Int32) ≤ nI j from nI_le (a := 48) (by omega) (by omega))], wx, hR⟩
  | succ k ih =>
    intro j n m d hj hn wx h9 hR hb
    obtain ⟨n, rfl⟩ : ∃ q, n = q + 1 := ⟨n - 1, by omega⟩
    rw [f_X8_moveAll_28, if_neg (show ¬ (48 : Int32) ≤ nI j from nI_ge (b := 48) (by omega) (by omega)), sprA]
    cases q : d0 j with
    | none =>
      obtain ⟨m', e, r1, r3⟩ := ih (j + 1) n m d (by omega) (by omega) wx h9 hR hb
      have e36 : f_X8_moveAll_36 lots (blk b (mdL b m l r) h) b (nI j) 0 = some (blk b (mdL b m l r) h) := by
        rw [show lots = 999 + 1 from rfl, f_X8_moveAll_36, if_neg (show ¬ (8 : Int32) ≤ 0 by decide), md_f13 (blk_at _ _ _), b_some, md_m10 (blk_at _ _ _) (by omega), b_some, h9 j (by omega), q, if_pos (show (1000000 : Int32) ≤ encO 1000000 0 none from Int32.le_refl _)]
      rw [e36, b_some, nI_1]
      exact ⟨m', e, r1, r3⟩
    | some c =>
      have hc := hb0 j c q
      obtain ⟨m1, e1, a1, a2, a3⟩ := g8_mv36 (h := h) (b := b) (l := l) (r := r) hN wC (i := i) (a := j) (c := c) (by omega) hc 8 0 lots m d (by omega) (by simp only [lots]; omega) wx (by rw [h9 j (by omega), q, encO, Nat.zero_add]) hR hb
      rw [nI_0] at e1
      obtain ⟨m', e, r1, r3⟩ := ih (j + 1) n m1 (sprR H (j / 6) c 8 0 d) (by omega) (by omega) a1 (by rw [a2]; exact h9) a3 (sprR_bnd' (C := 900) wC (by omega) hc 8 0 d (by omega) hb)
      rw [e1, b_some, nI_1]
      exact ⟨m', e, r1, r3⟩
theorem g8_mvAll {m0 m : Blk} (hN : hR H (m0.2 0)) (wC : wfC H) {i : Nat} {d : Nat → Option Nat} (hb : bdO d 900) (wx : WX i m0 m) (h9 : Rw 1000000 (m.2 9) d) : ∃ m', f_X8_moveAll (blk b (mdL b m l r) h) b = some (blk b (mdL b m' l r) h) ∧ WX i m0 m' ∧ Rw 1000000 (m'.2 9) (sprA H d 48 0 d) := by
  obtain ⟨m1, e1, a1, b1, c1⟩ := g8_mv2 (h := h) (b := b) (l := l) (r := r) 48 0 lots m (by omega) (by simp only [lots]; omega) (fun q hq => by omega)
  obtain ⟨m2, e2, w2, r2⟩ := g8_mv28 (h := h) (b := b) (l := l) (r := r) hN wC (i := i) hb 48 0 lots m1 d (by omega) (by simp only [lots]; omega) (wx.row b1 (fun c hc => c1 c (by omega))) (by rw [c1 9 (by omega)]; exact h9) (fun q hq => by rw [a1 q hq]; exact h9 q hq) (hb.le (by omega))
  obtain ⟨m3, e3, a3, b3, c3⟩ := g8_mv122 (h := h) (b := b) (l := l) (r := r) 48 0 lots m2 (by omega) (by simp only [lots]; omega) (fun q hq => by omega)
  rw [nI_0] at e1 e2 e3
  exact ⟨m3, by rw [f_X8_moveAll, e1, b_some, e2, b_some, e3, b_some], w2.row b3 (fun c hc => c3 c (by omega)), fun q hq => by rw [a3 q hq]; exact r2 q hq⟩
end
