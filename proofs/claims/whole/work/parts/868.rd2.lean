/-! ===== reading: the reference's tokens, words, numbers ===== -/
def RS (m0 m : Blk) : Prop := m.1 2 = m0.1 2 ∧ ∀ j, j < 14 → m.2 j = m0.2 j
def Tx8 (m0 : Blk) (c : Nat → Int32) (n : Nat) : Prop := m0.1 2 = nI n ∧ ∀ j, j < n → m0.2 13 j = c j
/-- the reference stands at the token of p -/
def CR (m0 : Blk) (c : Nat → Int32) (n p : Nat) (N : Nat → Int32) (m : Blk) : Prop := RS m0 m ∧ m.2 14 = N ∧ m.1 3 = nI (tkS c n p) ∧ m.1 4 = nI (tkE c n p - tkS c n p) ∧ m.1 5 = nI (tkK c n p) ∧ (tkK c n p = 2 → m.1 6 = tkV c n p)
def EM (L : Nat → Prop) (m m' : Blk) : Prop := (∀ j, ¬ L j → m'.1 j = m.1 j) ∧ m'.2 = m.2
theorem EM.rs {L : Nat → Prop} {m0 m m' : Blk} (e : EM L m m') (a : RS m0 m) (h : ¬ L 2) : RS m0 m' := ⟨by rw [e.1 2 h]; exact a.1, fun j hj => by rw [e.2]; exact a.2 j hj⟩
theorem RS.sS {m0 m : Blk} (a : RS m0 m) {k : Nat} {x : Int32} (h : ¬ k = 2) : RS m0 (sS m k x) := ⟨by rw [sS_1, if_neg (fun e => h e.symm)]; exact a.1, a.2⟩
theorem RS.sB {m0 m : Blk} (a : RS m0 m) {k : Nat} {f : Nat → Int32} (h : 14 ≤ k) : RS m0 (sB m k f) := ⟨a.1, fun j hj => by rw [sB_2, if_neg (by omega)]; exact a.2 j hj⟩
theorem ar10 (v x : Int32) : 10 * v + x - 48 = v * 10 + (x - 48) := by
  rw [Int32.mul_comm 10 v, Int32.sub_eq_add_neg, Int32.sub_eq_add_neg, Int32.add_assoc]
theorem vG_stop (c : Nat → Int32) : ∀ (k q : Nat) (w : Int32), runP fgB c k q = q → vG c k q w = w := by
  intro k q w h
  cases k with
  | zero => rfl
  | succ k =>
    rw [runP_s] at h
    rw [vG_s]
    by_cases e : fgB (c q) = true
    · rw [if_pos e] at h
      have := runP_ge fgB c k (q + 1)
      omega
    · rw [if_neg e]
theorem vG_1 (c : Nat → Int32) (k q : Nat) (w : Int32) (h : runP fgB c k q = q + 1) : vG c k q w = w * 10 + (c q - 48) := by
  cases k with
  | zero => exact absurd h (by show ¬ q = q + 1; omega)
  | succ k =>
    rw [runP_s] at h
    rw [vG_s]
    by_cases e : fgB (c q) = true
    · rw [if_pos e] at h
      rw [if_pos e, vG_stop c k (q + 1) _ h]
    · rw [if_neg e] at h; omega
theorem vG_2 (c : Nat → Int32) (k q : Nat) (w : Int32) (h : runP fgB c k q = q + 2) : vG c k q w = (w * 10 + (c q - 48)) * 10 + (c (q + 1) - 48) := by
  cases k with
  | zero => exact absurd h (by show ¬ q = q + 2; omega)
  | succ k =>
    rw [runP_s] at h
    rw [vG_s]
    by_cases e : fgB (c q) = true
    · rw [if_pos e] at h
      rw [if_pos e, vG_1 c k (q + 1) _ h]
    · rw [if_neg e] at h; omega
section
variable {b : Nat} {h : Hea} {l : Nat → Int64} {r : Nat → Nat → Int64} {m0 : Blk} {c : Nat → Int32} {n : Nat}
theorem by8 (tx : Tx8 m0 c n) (hn : n ≤ 150) {m : Blk} (a : RS m0 m) {i : Nat} (hi : i < n) : ldI (blk b (mdL b m l r) h) 0 (b + 16) (nI i) = some (c i) := by
  rw [md_m16 (blk_at _ _ _) (by omega), a.2 13 (by omega), tx.2 i hi]
theorem g8_look5 (tx : Tx8 m0 c n) (hn : n ≤ 150) : ∀ (k p f : Nat) (m : Blk), p + k = n → k < f → RS m0 m → m.1 3 = nI p → ∃ m', f_X8_lookAt_5 f (blk b (mdL b m l r) h) b = some (blk b (mdL b m' l r) h) ∧ m'.1 3 = nI (runP spB c k p) ∧ EM (fun j => j = 3) m m' := by
  intro k
  induction k with
  | zero =>
    intro p f m hp hf a m3
    obtain ⟨f, rfl⟩ : ∃ q, f = q + 1 := ⟨f - 1, by omega⟩
    exact ⟨m, by rw [f_X8_lookAt_5, md_f21 (blk_at _ _ _), b_some, md_f20 (blk_at _ _ _), b_some, a.1, tx.1, m3, if_pos (nI_le (by omega) (by omega))], m3, fun _ _ => rfl, rfl⟩
  | succ k ih =>
    intro p f m hp hf a m3
    obtain ⟨f, rfl⟩ : ∃ q, f = q + 1 := ⟨f - 1, by omega⟩
    by_cases e : c p = 32
    · obtain ⟨m', e1, e2, e3, e4⟩ := ih (p + 1) f (sS m 3 (nI (p + 1))) (by omega) (by omega) (a.sS (by omega)) rfl
      refine ⟨m', ?_, ?_, fun j hj => ?_, e4⟩
      · rw [f_X8_lookAt_5, md_f21 (blk_at _ _ _), b_some, md_f20 (blk_at _ _ _), b_some, a.1, tx.1, m3, if_neg (nI_ge (by omega) (by omega)), md_f19 (blk_at _ _ _), b_some, b_some, by8 tx hn a (by omega), b_some, if_pos e, b_some, nI_1, pI, md_p21, b_some, e1]
      · rw [e2, runP_s, if_pos (by simp [spB, e])]
      · rw [e3 j hj, sS_1, if_neg hj]
    · refine ⟨m, ?_, ?_, fun _ _ => rfl, rfl⟩
      · rw [f_X8_lookAt_5, md_f21 (blk_at _ _ _), b_some, md_f20 (blk_at _ _ _), b_some, a.1, tx.1, m3, if_neg (nI_ge (by omega) (by omega)), md_f19 (blk_at _ _ _), b_some, b_some, by8 tx hn a (by omega), b_some, if_neg e]
      · rw [m3, runP_s, if_neg (by simp [spB, e])]
theorem g8_look136 (tx : Tx8 m0 c n) (hn : n ≤ 150) {S : Nat} {P : Int32 → Bool} : ∀ (k L f : Nat) (m : Blk), S + L + k = n → k + 1 < f → RS m0 m → m.1 3 = nI S → m.1 4 = nI L → ((m.1 5 = 1 ∧ P = ltB) ∨ (m.1 5 = 2 ∧ P = fgB)) → ∃ m', f_X8_lookAt_136 f (blk b (mdL b m l r) h) b 1 = some (blk b (mdL b m' l r) h) ∧ m'.1 4 = nI (runP P c k (S + L) - S) ∧ EM (fun j => j = 4) m m' := by
  intro k
  induction k with
  | zero =>
    intro L f m hp hf a m3 m4 hq
    obtain ⟨f, rfl⟩ : ∃ q, f = q + 1 := ⟨f - 1, by omega⟩
    refine ⟨m, ?_, ?_, fun _ _ => rfl, rfl⟩
    · rw [f_X8_lookAt_136, if_neg n10, md_f21 (blk_at _ _ _), b_some, md_f22 (blk_at _ _ _), b_some, md_f20 (blk_at _ _ _), b_some, a.1, tx.1, m3, m4, nI_add, if_pos (nI_le (by omega) (by omega))]
    · rw [m4, show runP P c 0 (S + L) - S = L by show S + L - S = L; omega]
  | succ k ih =>
    intro L f m hp hf a m3 m4 hq
    obtain ⟨f, rfl⟩ : ∃ q, f = q + 1 := ⟨f - 1, by omega⟩
    have hv : (if m.1 5 = 1 then (f_X8_isSmall (c (S + L))).bind fun x11 => some x11 else (f_X8_isFigure (c (S + L))).bind fun x10 => some x10) = some (if P (c (S + L)) = true then (1 : Int32) else 0) := by
      rcases hq with ⟨e, rfl⟩ | ⟨e, rfl⟩
      · rw [if_pos e, let8_v, b_some]
      · rw [if_neg (by rw [e]; decide), fig8_v, b_some]
    by_cases e : P (c (S + L)) = true
    · obtain ⟨m', e1, e2, e3, e4⟩ := ih (L + 1) f (sS m 4 (nI (L + 1))) (by omega) (by omega) (a.sS (by omega)) m3 rfl hq
      refine ⟨m', ?_, ?_, fun j hj => ?_, e4⟩
      · rw [f_X8_lookAt_136, if_neg n10, md_f21 (blk_at _ _ _), b_some, md_f22 (blk_at _ _ _), b_some, md_f20 (blk_at _ _ _), b_some, a.1, tx.1, m3, m4, nI_add, if_neg (nI_ge (by omega) (by omega)), md_f19 (blk_at _ _ _), b_some, b_some, b_some, nI_add, by8 tx hn a (by omega), b_some, md_f23 (blk_at _ _ _), b_some, hv, b_some, b_some, if_pos e, if_neg n10, b_some, nI_1, pI, md_p22, b_some, e1]
      · rw [e2, runP_s, if_pos e, Nat.add_assoc]
      · rw [e3 j hj, sS_1, if_neg hj]
    · obtain ⟨f, rfl⟩ : ∃ q, f = q + 1 := ⟨f - 1, by omega⟩
      refine ⟨sS m 4 (nI L), ?_, ?_, fun j hj => ?_, rfl⟩
      · have z0 : nI L + 0 = nI L := by rw [show (0 : Int32) = nI 0 from rfl, nI_add, Nat.add_zero]
        rw [f_X8_lookAt_136, if_neg n10, md_f21 (blk_at _ _ _), b_some, md_f22 (blk_at _ _ _), b_some, md_f20 (blk_at _ _ _), b_some, a.1, tx.1, m3, m4, nI_add, if_neg (nI_ge (by omega) (by omega)), md_f19 (blk_at _ _ _), b_some, b_some, b_some, nI_add, by8 tx hn a (by omega), b_some, md_f23 (blk_at _ _ _), b_some, hv, b_some, b_some, if_neg e, if_pos rfl, b_some, z0, pI, md_p22, b_some, f_X8_lookAt_136, if_pos rfl]
      · rw [runP_s, if_neg e, show S + L - S = L by omega]; rfl
      · rw [sS_1, if_neg hj]
theorem g8_look218n {m : Blk} {L : Nat} (h1 : 1 ≤ L) (hL : L ≤ 150) (m4 : m.1 4 = nI L) (m5 : ¬ m.1 5 = 2) : f_X8_lookAt_218 lots (blk b (mdL b m l r) h) b 0 = some (blk b (mdL b m l r) h) := by
  rw [show lots = 999 + 1 from rfl, f_X8_lookAt_218, md_f22 (blk_at _ _ _), b_some, m4, if_neg (nI_nle (by omega) (by omega)), if_neg (show ¬ (2 : Int32) ≤ 0 by decide), md_f23 (blk_at _ _ _), b_some, if_neg m5]
theorem g8_look218 (tx : Tx8 m0 c n) (hn : n ≤ 150) {m : Blk} {S L : Nat} (h1 : 1 ≤ L) (hL : S + L ≤ n) (a : RS m0 m) (m3 : m.1 3 = nI S) (m4 : m.1 4 = nI L) (m5 : m.1 5 = 2) (m6 : m.1 6 = 0) : ∃ m', f_X8_lookAt_218 lots (blk b (mdL b m l r) h) b 0 = some (blk b (mdL b m' l r) h) ∧ (L = 1 → m'.1 6 = 0 * 10 + (c S - 48)) ∧ (L = 2 → m'.1 6 = (0 * 10 + (c S - 48)) * 10 + (c (S + 1) - 48)) ∧ EM (fun j => j = 6) m m' := by
  have z0 : nI S + 0 = nI S := by rw [show (0 : Int32) = nI 0 from rfl, nI_add, Nat.add_zero]
  have z1 : nI S + (0 + 1) = nI (S + 1) := by rw [show (0 : Int32) + 1 = nI 1 from rfl, nI_add]
  have l1 : ∀ (f : Nat) (m : Blk), m.1 4 = nI L → L ≤ 1 → f_X8_lookAt_218 (f + 1) (blk b (mdL b m l r) h) b (0 + 1) = some (blk b (mdL b m l r) h) := fun f m m4 hl => by
    rw [f_X8_lookAt_218, md_f22 (blk_at _ _ _), b_some, m4, if_pos (show nI L ≤ (0 : Int32) + 1 from nI_le (b := 1) hl (by omega))]
  have l2 : ∀ (f : Nat) (m : Blk), m.1 4 = nI L → f_X8_lookAt_218 (f + 1) (blk b (mdL b m l r) h) b (0 + 1 + 1) = some (blk b (mdL b m l r) h) := fun f m m4 => by
    rw [f_X8_lookAt_218, md_f22 (blk_at _ _ _), b_some, m4]
    by_cases e : nI L ≤ (0 : Int32) + 1 + 1
    · rw [if_pos e]
    · rw [if_neg e, if_pos (show (2 : Int32) ≤ 0 + 1 + 1 by decide)]
  have s0 : ∀ f, f_X8_lookAt_218 (f + 1) (blk b (mdL b m l r) h) b 0 = f_X8_lookAt_218 f (blk b (mdL b (sS m 6 (0 * 10 + (c S - 48))) l r) h) b (0 + 1) := fun f => by
    rw [f_X8_lookAt_218, md_f22 (blk_at _ _ _), b_some, m4, if_neg (nI_nle (by omega) (by omega)), if_neg (show ¬ (2 : Int32) ≤ 0 by decide), md_f23 (blk_at _ _ _), b_some, if_pos m5, md_f24 (blk_at _ _ _), b_some, md_f19 (blk_at _ _ _), b_some, md_f21 (blk_at _ _ _), b_some, m3, z0, by8 tx hn a (by omega), b_some, m6, ar10, pI, md_p24, b_some]
  by_cases e1 : L = 1
  · refine ⟨sS m 6 (0 * 10 + (c S - 48)), ?_, fun _ => rfl, fun e => by omega, fun j hj => by rw [sS_1, if_neg hj], rfl⟩
    rw [show lots = 998 + 1 + 1 from rfl, s0]
    exact l1 _ _ m4 (by omega)
  · refine ⟨sS (sS m 6 (0 * 10 + (c S - 48))) 6 ((0 * 10 + (c S - 48)) * 10 + (c (S + 1) - 48)), ?_, fun e => by omega, fun _ => rfl, fun j hj => by rw [sS_1, if_neg hj, sS_1, if_neg hj], rfl⟩
    have q4 : (sS m 6 (0 * 10 + (c S - 48))).1 4 = nI L := m4
    have q3 : (sS m 6 (0 * 10 + (c S - 48))).1 3 = nI S := m3
    have q5 : (sS m 6 (0 * 10 + (c S - 48))).1 5 = 2 := m5
    have q6 : (sS m 6 (0 * 10 + (c S - 48))).1 6 = 0 * 10 + (c S - 48) := rfl
    rw [show lots = 997 + 1 + 1 + 1 from rfl, s0, f_X8_lookAt_218, md_f22 (blk_at _ _ _), b_some, q4, if_neg (show ¬ nI L ≤ (0 : Int32) + 1 from nI_ge (a := 1) (by omega) (by omega)), if_neg (show ¬ (2 : Int32) ≤ 0 + 1 by decide), md_f23 (blk_at _ _ _), b_some, if_pos q5, md_f24 (blk_at _ _ _), b_some, md_f19 (blk_at _ _ _), b_some, md_f21 (blk_at _ _ _), b_some, q3, z1, by8 tx hn (a.sS (by omega)) (by omega), b_some, q6, ar10, pI, md_p24, b_some]
    exact l2 _ _ m4
theorem g8_look (tx : Tx8 m0 c n) (hn : n ≤ 150) {m : Blk} {p : Nat} (hp : p ≤ n) {N : Nat → Int32} (a : RS m0 m) (m14 : m.2 14 = N) : ∃ m', f_X8_lookAt (blk b (mdL b m l r) h) b (nI p) = some (blk b (mdL b m' l r) h) ∧ CR m0 c n p N m' ∧ m'.2 15 = m.2 15 := by
  obtain ⟨ma, a1, a2, a3⟩ := g8_look5 (b := b) (h := h) (l := l) (r := r) tx hn (n - p) p lots (sS m 3 (nI p)) (by omega) (by simp only [lots]; omega) (a.sS (by omega)) rfl
  have a2' : ma.1 3 = nI (tkS c n p) := a2
  have ra : RS m0 ma := a3.rs (a.sS (by omega)) (by omega)
  have r2 : ma.2 = m.2 := a3.2
  obtain ⟨s1, s2⟩ := tkS_le (c := c) hp
  have hE : tkE c n p = if tkS c n p = n then n else if ltB (c (tkS c n p)) = true then runP ltB c (n - tkS c n p) (tkS c n p) else if fgB (c (tkS c n p)) = true then runP fgB c (n - tkS c n p) (tkS c n p) else tkS c n p + 1 := rfl
  have hK : tkK c n p = if tkS c n p = n then 0 else if ltB (c (tkS c n p)) = true then 1 else if fgB (c (tkS c n p)) = true then (if tkE c n p - tkS c n p ≤ 2 then 2 else 4) else if c (tkS c n p) = 59 then 3 else 4 := rfl
  have hV : tkV c n p = vG c (n - tkS c n p) (tkS c n p) 0 := rfl
  have hEl := tkE_le (c := c) hp
  unfold CR
  generalize tkS c n p = S at *
  generalize tkE c n p = E at *
  generalize tkK c n p = K at *
  generalize tkV c n p = V at *
  have r3 : RS m0 (sS (sS (sS ma 4 0) 5 0) 6 0) := ((ra.sS (by omega)).sS (by omega)).sS (by omega)
  have x3 : (sS (sS (sS ma 4 0) 5 0) 6 0).1 3 = nI S := a2'
  have x2 : (sS (sS (sS ma 4 0) 5 0) 6 0).1 2 = nI n := by rw [r3.1, tx.1]
  by_cases e0 : S = n
  · rw [if_pos e0] at hE hK
    refine ⟨sS (sS (sS ma 4 0) 5 0) 6 0, ?_, ⟨r3, by rw [← m14, ← r2]; rfl, a2', by rw [hE, e0, Nat.sub_self]; rfl, by rw [hK]; rfl, fun e => by omega⟩, by rw [← r2]; rfl⟩
    rw [f_X8_lookAt, pI, md_p21, b_some, a1, b_some, pI, md_p22, b_some, pI, md_p23, b_some, pI, md_p24, b_some, md_f21 (blk_at _ _ _), b_some, md_f20 (blk_at _ _ _), b_some, x3, x2, if_pos (by rw [e0])]
  · rw [if_neg e0] at hE hK
    have hS : S < n := by omega
    have hne : ¬ nI S = nI n := fun e => e0 ((nI_eq (by omega) (by omega)).mp e)
    by_cases e1 : ltB (c S) = true
    · rw [if_pos e1] at hE hK
      obtain ⟨t1, t2, t3⟩ := run_1 (c := c) (n := n) ltB (s := S) hS e1
      obtain ⟨mb, c1, c2, c3⟩ := g8_look136 (b := b) (h := h) (l := l) (r := r) tx hn (S := S) (P := ltB) (n - (S + 1)) 1 lots (sS (sS (sS (sS (sS ma 4 0) 5 0) 6 0) 5 1) 4 1) (by omega) (by simp only [lots]; omega) ((r3.sS (by omega)).sS (by omega)) a2' rfl (Or.inl ⟨rfl, rfl⟩)
      rw [← t3, ← hE] at c2
      have d5 : mb.1 5 = 1 := by rw [c3.1 5 (by omega)]; rfl
      have l2 := g8_look218n (b := b) (h := h) (l := l) (r := r) (m := mb) (L := E - S) (by omega) (by omega) c2 (by rw [d5]; decide)
      have y5 : (sS (sS (sS (sS (sS ma 4 0) 5 0) 6 0) 5 1) 4 1).1 5 = 1 := rfl
      refine ⟨sS mb 5 1, ?_, ⟨(c3.rs ((r3.sS (by omega)).sS (by omega)) (by omega)).sS (by omega), ?_, ?_, c2, by rw [hK]; rfl, fun e => by omega⟩, ?_⟩
      · rw [f_X8_lookAt, pI, md_p21, b_some, a1, b_some, pI, md_p22, b_some, pI, md_p23, b_some, pI, md_p24, b_some, md_f21 (blk_at _ _ _), b_some, md_f20 (blk_at _ _ _), b_some, x3, x2, if_neg hne, md_f19 (blk_at _ _ _), b_some, b_some, by8 tx hn r3 hS, b_some, let8_v, b_some, if_pos e1, if_neg n10, b_some, pI, md_p23, b_some, pI, md_p22, b_some, md_f23 (blk_at _ _ _), b_some, y5, if_neg (show ¬ (3 : Int32) ≤ 1 by decide), b_some, c1, b_some, l2, b_some, md_f23 (blk_at _ _ _), b_some, d5, if_neg (show ¬ (1 : Int32) = 2 by decide), b_some, b_some, pI, md_p23, b_some]
      · show mb.2 14 = N; rw [c3.2, ← m14, ← r2]; rfl
      · show mb.1 3 = _; rw [c3.1 3 (by omega)]; exact a2'
      · show mb.2 15 = _; rw [c3.2, ← r2]; rfl
    · rw [if_neg e1] at hE hK
      by_cases e2 : fgB (c S) = true
      · rw [if_pos e2] at hE hK
        obtain ⟨t1, t2, t3⟩ := run_1 (c := c) (n := n) fgB (s := S) hS e2
        obtain ⟨mb, c1, c2, c3⟩ := g8_look136 (b := b) (h := h) (l := l) (r := r) tx hn (S := S) (P := fgB) (n - (S + 1)) 1 lots (sS (sS (sS (sS (sS ma 4 0) 5 0) 6 0) 5 2) 4 1) (by omega) (by simp only [lots]; omega) ((r3.sS (by omega)).sS (by omega)) a2' rfl (Or.inr ⟨rfl, rfl⟩)
        rw [← t3, ← hE] at c2
        have rb : RS m0 mb := c3.rs ((r3.sS (by omega)).sS (by omega)) (by omega)
        have d5 : mb.1 5 = 2 := by rw [c3.1 5 (by omega)]; rfl
        obtain ⟨mc, l1, v1, v2, l3⟩ := g8_look218 (b := b) (h := h) (l := l) (r := r) tx hn (m := mb) (S := S) (L := E - S) (by omega) (by omega) rb (by rw [c3.1 3 (by omega)]; exact a2') c2 d5 (by rw [c3.1 6 (by omega)]; rfl)
        have y5 : (sS (sS (sS (sS (sS ma 4 0) 5 0) 6 0) 5 2) 4 1).1 5 = 2 := rfl
        have f5 : mc.1 5 = 2 := by rw [l3.1 5 (by omega)]; exact d5
        have f4 : mc.1 4 = nI (E - S) := by rw [l3.1 4 (by omega)]; exact c2
        have kk : (if (2 : Int32) = 2 then (some (nI (E - S))).bind fun x23 => if x23 ≤ 2 then (some (2 : Int32)).bind fun x24 => some x24 else some (4 : Int32) else (some (2 : Int32)).bind fun x22 => some x22) = some (nI K) := by
          rw [if_pos rfl, b_some, hK]
          by_cases e3 : E - S ≤ 2
          · rw [if_pos (show nI (E - S) ≤ (2 : Int32) from nI_le (b := 2) e3 (by omega)), if_pos e3]; rfl
          · rw [if_neg (show ¬ nI (E - S) ≤ (2 : Int32) from nI_ge (a := 2) (by omega) (by omega)), if_neg e3]; rfl
        refine ⟨sS mc 5 (nI K), ?_, ⟨(l3.rs rb (by omega)).sS (by omega), ?_, ?_, f4, rfl, fun e => ?_⟩, ?_⟩
        · rw [f_X8_lookAt, pI, md_p21, b_some, a1, b_some, pI, md_p22, b_some, pI, md_p23, b_some, pI, md_p24, b_some, md_f21 (blk_at _ _ _), b_some, md_f20 (blk_at _ _ _), b_some, x3, x2, if_neg hne, md_f19 (blk_at _ _ _), b_some, b_some, by8 tx hn r3 hS, b_some, let8_v, b_some, if_neg e1, if_pos rfl, fig8_v, b_some, if_pos e2, if_neg n10, b_some, pI, md_p23, b_some, pI, md_p22, b_some, md_f23 (blk_at _ _ _), b_some, y5, if_neg (show ¬ (3 : Int32) ≤ 2 by decide), b_some, c1, b_some, l1, b_some, md_f23 (blk_at _ _ _), b_some, md_f22 (blk_at _ _ _), f5, f4, kk, b_some, pI, md_p23, b_some]
        · show mc.2 14 = N; rw [l3.2, c3.2, ← m14, ← r2]; rfl
        · show mc.1 3 = _; rw [l3.1 3 (by omega), c3.1 3 (by omega)]; exact a2'
        · show mc.1 6 = V
          rw [hK] at e
          have e3 : E - S ≤ 2 := by
            by_cases e3 : E - S ≤ 2
            · exact e3
            · rw [if_neg e3] at e; omega
          by_cases e4 : E - S = 1
          · rw [v1 e4, hV, vG_1 c (n - S) S 0 (by omega)]
          · rw [v2 (by omega), hV, vG_2 c (n - S) S 0 (by omega)]
        · show mc.2 15 = _; rw [l3.2, c3.2, ← r2]; rfl
      · rw [if_neg e2] at hE hK
        have k2 : (if c S = 59 then some (3 : Int32) else some 4) = some (nI K) := by
          rw [hK]
          by_cases e3 : c S = 59
          · rw [if_pos e3, if_pos e3]; rfl
          · rw [if_neg e3, if_neg e3]; rfl
        have k3 : K = 3 ∨ K = 4 := by rw [hK]; split <;> omega
        have k4 : (3 : Int32) ≤ nI K ∧ ¬ nI K = 2 := by rcases k3 with e | e <;> rw [e] <;> decide
        have y5 : (sS (sS (sS (sS (sS ma 4 0) 5 0) 6 0) 5 (nI K)) 4 1).1 5 = nI K := rfl
        have l0 : f_X8_lookAt_136 lots (blk b (mdL b (sS (sS (sS (sS (sS ma 4 0) 5 0) 6 0) 5 (nI K)) 4 1) l r) h) b 0 = some (blk b (mdL b (sS (sS (sS (sS (sS ma 4 0) 5 0) 6 0) 5 (nI K)) 4 1) l r) h) := by
          rw [show lots = 999 + 1 from rfl, f_X8_lookAt_136, if_pos rfl]
        have l2 := g8_look218n (b := b) (h := h) (l := l) (r := r) (m := sS (sS (sS (sS (sS ma 4 0) 5 0) 6 0) 5 (nI K)) 4 1) (L := 1) (by omega) (by omega) rfl (by rw [y5]; exact k4.2)
        refine ⟨sS (sS (sS (sS (sS (sS ma 4 0) 5 0) 6 0) 5 (nI K)) 4 1) 5 (nI K), ?_, ⟨((r3.sS (by omega)).sS (by omega)).sS (by omega), ?_, a2', by rw [hE, show S + 1 - S = 1 by omega]; rfl, rfl, fun e => by omega⟩, ?_⟩
        · rw [f_X8_lookAt, pI, md_p21, b_some, a1, b_some, pI, md_p22, b_some, pI, md_p23, b_some, pI, md_p24, b_some, md_f21 (blk_at _ _ _), b_some, md_f20 (blk_at _ _ _), b_some, x3, x2, if_neg hne, md_f19 (blk_at _ _ _), b_some, b_some, by8 tx hn r3 hS, b_some, let8_v, b_some, if_neg e1, if_pos rfl, fig8_v, b_some, if_neg e2, if_pos rfl, k2, b_some, pI, md_p23, b_some, pI, md_p22, b_some, md_f23 (blk_at _ _ _), b_some, y5, if_pos k4.1, b_some, l0, b_some, l2, b_some, md_f23 (blk_at _ _ _), b_some, y5, if_neg k4.2, b_some, b_some, pI, md_p23, b_some]
        · show ma.2 14 = N; rw [r2, m14]
        · show ma.2 15 = _; rw [r2]
theorem g8_behind (tx : Tx8 m0 c n) (hn : n ≤ 150) {m : Blk} {p : Nat} (hp : p ≤ n) {N : Nat → Int32} (a : CR m0 c n p N m) : ∃ m', f_X8_goBehind (blk b (mdL b m l r) h) b = some (blk b (mdL b m' l r) h) ∧ CR m0 c n (tkE c n p) N m' ∧ m'.2 15 = m.2 15 := by
  obtain ⟨ra, r14, r3, r4, -⟩ := a
  obtain ⟨t1, t2, -⟩ := tkE_le (c := c) hp
  obtain ⟨m', e1, e2, e3⟩ := g8_look (b := b) (h := h) (l := l) (r := r) tx hn (p := tkE c n p) t2 ra r14
  refine ⟨m', ?_, e2, e3⟩
  rw [f_X8_goBehind, md_f21 (blk_at _ _ _), b_some, md_f22 (blk_at _ _ _), b_some, r3, r4, nI_add, show tkS c n p + (tkE c n p - tkS c n p) = tkE c n p by omega, md_o (blk_at _ _ _), b_some, e1, b_some]
end
