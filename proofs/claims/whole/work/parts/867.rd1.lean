/-! ===== reading: tokens ===== -/
def runP (P : Int32 → Bool) (c : Nat → Int32) : Nat → Nat → Nat
  | 0, p => p
  | k + 1, p => if P (c p) = true then runP P c k (p + 1) else p
theorem runP_s (P : Int32 → Bool) (c : Nat → Int32) (k p : Nat) : runP P c (k + 1) p = if P (c p) = true then runP P c k (p + 1) else p := rfl
theorem runP_ge (P : Int32 → Bool) (c : Nat → Int32) : ∀ k p, p ≤ runP P c k p ∧ runP P c k p ≤ p + k := by
  intro k
  induction k with
  | zero => intro p; exact ⟨Nat.le_refl _, Nat.le_refl _⟩
  | succ k ih =>
    intro p
    rw [runP_s]
    have := ih (p + 1)
    split <;> omega
def spB (x : Int32) : Bool := decide (x = 32)
def ltB (x : Int32) : Bool := decide (¬ (x < 97 ∨ 122 < x))
def fgB (x : Int32) : Bool := decide (¬ (x < 48 ∨ 57 < x))
def vG (c : Nat → Int32) : Nat → Nat → Int32 → Int32
  | 0, _, v => v
  | k + 1, p, v => if fgB (c p) = true then vG c k (p + 1) (v * 10 + (c p - 48)) else v
theorem vG_s (c : Nat → Int32) (k p : Nat) (v : Int32) : vG c (k + 1) p v = if fgB (c p) = true then vG c k (p + 1) (v * 10 + (c p - 48)) else v := rfl
/-- the token at p: where it starts, where it ends, its kind, its value -/
def tkS (c : Nat → Int32) (n p : Nat) : Nat := runP spB c (n - p) p
def tkE (c : Nat → Int32) (n p : Nat) : Nat := if tkS c n p = n then n else if ltB (c (tkS c n p)) = true then runP ltB c (n - tkS c n p) (tkS c n p) else if fgB (c (tkS c n p)) = true then runP fgB c (n - tkS c n p) (tkS c n p) else tkS c n p + 1
def tkK (c : Nat → Int32) (n p : Nat) : Nat := if tkS c n p = n then 0 else if ltB (c (tkS c n p)) = true then 1 else if fgB (c (tkS c n p)) = true then (if tkE c n p - tkS c n p ≤ 2 then 2 else 4) else if c (tkS c n p) = 59 then 3 else 4
def tkV (c : Nat → Int32) (n p : Nat) : Int32 := vG c (n - tkS c n p) (tkS c n p) 0
section
variable {c : Nat → Int32} {n p : Nat}
theorem tkS_le (hp : p ≤ n) : p ≤ tkS c n p ∧ tkS c n p ≤ n := by
  have := runP_ge spB c (n - p) p
  unfold tkS
  omega
theorem run_1 (P : Int32 → Bool) {s : Nat} (hs : s < n) (h : P (c s) = true) : s < runP P c (n - s) s ∧ runP P c (n - s) s ≤ n ∧ runP P c (n - s) s = runP P c (n - (s + 1)) (s + 1) := by
  obtain ⟨k, hk⟩ : ∃ k, n - s = k + 1 := ⟨n - s - 1, by omega⟩
  rw [hk, runP_s, if_pos h, show n - (s + 1) = k by omega]
  have := runP_ge P c k (s + 1)
  omega
theorem tkE_le (hp : p ≤ n) : tkS c n p ≤ tkE c n p ∧ tkE c n p ≤ n ∧ (tkK c n p = 0 ∨ p < tkE c n p) := by
  obtain ⟨h1, h2⟩ := tkS_le (c := c) hp
  unfold tkE tkK
  by_cases e0 : tkS c n p = n
  · rw [if_pos e0, if_pos e0]; exact ⟨by omega, by omega, Or.inl rfl⟩
  · rw [if_neg e0, if_neg e0]
    by_cases e1 : ltB (c (tkS c n p)) = true
    · rw [if_pos e1, if_pos e1]
      have := run_1 (c := c) (n := n) ltB (s := tkS c n p) (by omega) e1
      omega
    · rw [if_neg e1, if_neg e1]
      by_cases e2 : fgB (c (tkS c n p)) = true
      · rw [if_pos e2]
        have := run_1 (c := c) (n := n) fgB (s := tkS c n p) (by omega) e2
        omega
      · rw [if_neg e2]; omega
theorem tkK_end (hp : p ≤ n) (h : tkK c n p = 0) : tkS c n p = n ∧ tkE c n p = n := by
  unfold tkK at h
  unfold tkE
  by_cases e0 : tkS c n p = n
  · exact ⟨e0, if_pos e0⟩
  · rw [if_neg e0] at h
    split at h
    · omega
    · split at h
      · split at h <;> omega
      · split at h <;> omega
theorem tkK_n : tkK c n n = 0 := by
  have : tkS c n n = n := by unfold tkS; rw [Nat.sub_self]; rfl
  unfold tkK
  rw [if_pos this]
end
theorem let_v (x : Int32) : f_X4_isLetter x = some (if ltB x = true then 1 else 0) := by
  rw [f_X4_isLetter]
  by_cases h1 : x < 97
  · rw [if_pos h1, show ltB x = false by simp [ltB, h1]]; rfl
  · by_cases h2 : 122 < x
    · rw [if_neg h1, if_pos h2, show ltB x = false by simp [ltB, h2]]; rfl
    · rw [if_neg h1, if_neg h2, show ltB x = true by simp only [ltB, decide_eq_true_eq]; exact fun e => e.elim h1 h2]; rfl
theorem fig_v (x : Int32) : f_X4_isFigure x = some (if fgB x = true then 1 else 0) := by
  rw [f_X4_isFigure]
  by_cases h1 : x < 48
  · rw [if_pos h1, show fgB x = false by simp [fgB, h1]]; rfl
  · by_cases h2 : 57 < x
    · rw [if_neg h1, if_pos h2, show fgB x = false by simp [fgB, h2]]; rfl
    · rw [if_neg h1, if_neg h2, show fgB x = true by simp only [fgB, decide_eq_true_eq]; exact fun e => e.elim h1 h2]; rfl
theorem let8_v (x : Int32) : f_X8_isSmall x = some (if ltB x = true then 1 else 0) := by
  rw [f_X8_isSmall, L01 x 97 122 97 122 rfl rfl, b_some]
  by_cases h : x < 97 ∨ 122 < x
  · rw [if_pos h, show ltB x = false by simp only [ltB, decide_eq_false_iff_not]; exact fun e => e h]; rfl
  · rw [if_neg h, show ltB x = true by simp only [ltB, decide_eq_true_eq]; exact h]; rfl
theorem fig8_v (x : Int32) : f_X8_isFigure x = some (if fgB x = true then 1 else 0) := by
  rw [f_X8_isFigure, L01 x 48 57 48 57 rfl rfl, b_some]
  by_cases h : x < 48 ∨ 57 < x
  · rw [if_pos h, show fgB x = false by simp only [fgB, decide_eq_false_iff_not]; exact fun e => e h]; rfl
  · rw [if_neg h, show fgB x = true by simp only [fgB, decide_eq_true_eq]; exact h]; rfl
/-! the class's reader: its cell over the draft's block -/
def hcB (b d t : Nat) (g H s : Blk) (h : Hea) : Hea := blk b (rdL b t g) (blk d (hhL d H s) h)
section
variable {b d t : Nat} {g H s : Blk} {h : Hea} {x : Int32}
theorem hc_at : At (hcB b d t g H s h) b (rdL b t g) := blk_at _ _ _
theorem hc_ho (hd : d + 15 ≤ b) : At (hcB b d t g H s h) d (hhL d H s) := at_far (n := 15) (n' := 1) (blk_at _ _ _) (fun _ e => hh_hi e) (fun _ e => rd_hi e) (by omega)
theorem blk_comm {b b' : Nat} {f f' : Nat → Option Cel} {h : Hea} (hd : ∀ k k', b + k = b' + k' → f k = none ∨ f' k' = none) : blk b f (blk b' f' h) = blk b' f' (blk b f h) := by
  refine Prod.ext rfl (funext fun q => ?_)
  simp only [blk]
  by_cases h1 : b ≤ q
  · by_cases h2 : b' ≤ q
    · simp only [if_pos h1, if_pos h2]
      rcases hd (q - b) (q - b') (by omega) with e | e
      · rw [e]
      · rw [e]
    · simp only [if_pos h1, if_neg h2]
  · by_cases h2 : b' ≤ q
    · simp only [if_neg h1, if_pos h2]
    · simp only [if_neg h1, if_neg h2]
theorem hc_comm (hd : d + 15 ≤ b) : hcB b d t g H s h = blk d (hhL d H s) (blk b (rdL b t g) h) := blk_comm (fun k k' e => by
  by_cases h1 : 1 ≤ k
  · exact Or.inl (rd_hi h1)
  · exact Or.inr (hh_hi (by omega)))
theorem hc_p2 : pV (hcB b d t g H s h) b 4 2 (.int x) = some (hcB b d t (sS g 1 x) H s h) := rd_p2
theorem hc_p3 : pV (hcB b d t g H s h) b 4 3 (.int x) = some (hcB b d t (sS g 2 x) H s h) := rd_p3
theorem hc_p4 : pV (hcB b d t g H s h) b 4 4 (.int x) = some (hcB b d t (sS g 3 x) H s h) := rd_p4
theorem hc_p5 : pV (hcB b d t g H s h) b 4 5 (.int x) = some (hcB b d t (sS g 4 x) H s h) := rd_p5
theorem hc_p6 : pV (hcB b d t g H s h) b 4 6 (.int x) = some (hcB b d t (sS g 5 x) H s h) := rd_p6
theorem hc_p7 : pV (hcB b d t g H s h) b 4 7 (.int x) = some (hcB b d t (sS g 6 x) H s h) := rd_p7
end
/-- the text lies where the reader looks -/
def Txt (b d t : Nat) (h : Hea) (c : Nat → Int32) (n : Nat) : Prop := ∀ g H s i, i < n → ldI (hcB b d t g H s h) 1 t (nI i) = some (c i)
def ExG (L : Nat → Prop) (g g' : Blk) : Prop := ∀ j, ¬ L j → g'.1 j = g.1 j
/-- the class stands at the token of p -/
def CC (c : Nat → Int32) (n p : Nat) (f it : Int32) (g : Blk) : Prop := g.1 0 = nI n ∧ g.1 1 = nI (tkE c n p) ∧ g.1 2 = nI (tkS c n p) ∧ g.1 3 = nI (tkK c n p) ∧ (tkK c n p = 2 → g.1 4 = tkV c n p) ∧ g.1 5 = f ∧ g.1 6 = it
section
variable {b d t : Nat} {H s : Blk} {h : Hea} {c : Nat → Int32} {n : Nat}
theorem g_adv0 (hx : Txt b d t h c n) (hn : n ≤ 150) : ∀ (k p m : Nat) (g : Blk), p + k = n → k < m → g.1 0 = nI n → g.1 1 = nI p → ∃ g', f_X4_advance_0 m (hcB b d t g H s h) b = some (hcB b d t g' H s h) ∧ g'.1 1 = nI (runP spB c k p) ∧ ExG (fun j => j = 1) g g' := by
  intro k
  induction k with
  | zero =>
    intro p m g hp hm g0 g1
    obtain ⟨m, rfl⟩ : ∃ q, m = q + 1 := ⟨m - 1, by omega⟩
    exact ⟨g, by rw [f_X4_advance_0, rd_f2 hc_at, b_some, rd_f1 hc_at, b_some, g0, g1, if_pos (nI_le (by omega) (by omega))], g1, fun _ _ => rfl⟩
  | succ k ih =>
    intro p m g hp hm g0 g1
    obtain ⟨m, rfl⟩ : ∃ q, m = q + 1 := ⟨m - 1, by omega⟩
    by_cases e : c p = 32
    · obtain ⟨g', e1, e2, e3⟩ := ih (p + 1) m (sS g 1 (nI (p + 1))) (by omega) (by omega) g0 rfl
      refine ⟨g', ?_, ?_, fun j hj => ?_⟩
      · rw [f_X4_advance_0, rd_f2 hc_at, b_some, rd_f1 hc_at, b_some, g0, g1, if_neg (nI_ge (by omega) (by omega)), rd_f0 hc_at, b_some, b_some, hx _ _ _ _ (by omega), b_some, if_pos e, b_some, nI_1, pI, hc_p2, b_some, e1]
      · rw [e2, runP_s, if_pos (by simp [spB, e])]
      · rw [e3 j hj, sS_1, if_neg hj]
    · refine ⟨g, ?_, ?_, fun _ _ => rfl⟩
      · rw [f_X4_advance_0, rd_f2 hc_at, b_some, rd_f1 hc_at, b_some, g0, g1, if_neg (nI_ge (by omega) (by omega)), rd_f0 hc_at, b_some, b_some, hx _ _ _ _ (by omega), b_some, if_neg e]
      · rw [g1, runP_s, if_neg (by simp [spB, e])]
theorem g_adv85 (hx : Txt b d t h c n) (hn : n ≤ 150) : ∀ (k p m : Nat) (g : Blk), p + k = n → k < m → g.1 0 = nI n → g.1 1 = nI p → ∃ g', f_X4_advance_85 m (hcB b d t g H s h) b = some (hcB b d t g' H s h) ∧ g'.1 1 = nI (runP ltB c k p) ∧ ExG (fun j => j = 1) g g' := by
  intro k
  induction k with
  | zero =>
    intro p m g hp hm g0 g1
    obtain ⟨m, rfl⟩ : ∃ q, m = q + 1 := ⟨m - 1, by omega⟩
    exact ⟨g, by rw [f_X4_advance_85, rd_f2 hc_at, b_some, rd_f1 hc_at, b_some, g0, g1, if_pos (nI_le (by omega) (by omega))], g1, fun _ _ => rfl⟩
  | succ k ih =>
    intro p m g hp hm g0 g1
    obtain ⟨m, rfl⟩ : ∃ q, m = q + 1 := ⟨m - 1, by omega⟩
    by_cases e : ltB (c p) = true
    · obtain ⟨g', e1, e2, e3⟩ := ih (p + 1) m (sS g 1 (nI (p + 1))) (by omega) (by omega) g0 rfl
      refine ⟨g', ?_, ?_, fun j hj => ?_⟩
      · rw [f_X4_advance_85, rd_f2 hc_at, b_some, rd_f1 hc_at, b_some, g0, g1, if_neg (nI_ge (by omega) (by omega)), rd_f0 hc_at, b_some, b_some, hx _ _ _ _ (by omega), b_some, let_v, b_some, if_pos e, if_neg n10, b_some, nI_1, pI, hc_p2, b_some, e1]
      · rw [e2, runP_s, if_pos e]
      · rw [e3 j hj, sS_1, if_neg hj]
    · refine ⟨g, ?_, ?_, fun _ _ => rfl⟩
      · rw [f_X4_advance_85, rd_f2 hc_at, b_some, rd_f1 hc_at, b_some, g0, g1, if_neg (nI_ge (by omega) (by omega)), rd_f0 hc_at, b_some, b_some, hx _ _ _ _ (by omega), b_some, let_v, b_some, if_neg e, if_pos rfl]
      · rw [g1, runP_s, if_neg e]
theorem g_adv144 (hx : Txt b d t h c n) (hn : n ≤ 150) : ∀ (k p m : Nat) (g : Blk), p + k = n → k < m → g.1 0 = nI n → g.1 1 = nI p → ∃ g', f_X4_advance_144 m (hcB b d t g H s h) b = some (hcB b d t g' H s h) ∧ g'.1 1 = nI (runP fgB c k p) ∧ g'.1 4 = vG c k p (g.1 4) ∧ ExG (fun j => j = 1 ∨ j = 4) g g' := by
  intro k
  induction k with
  | zero =>
    intro p m g hp hm g0 g1
    obtain ⟨m, rfl⟩ : ∃ q, m = q + 1 := ⟨m - 1, by omega⟩
    exact ⟨g, by rw [f_X4_advance_144, rd_f2 hc_at, b_some, rd_f1 hc_at, b_some, g0, g1, if_pos (nI_le (by omega) (by omega))], g1, rfl, fun _ _ => rfl⟩
  | succ k ih =>
    intro p m g hp hm g0 g1
    obtain ⟨m, rfl⟩ : ∃ q, m = q + 1 := ⟨m - 1, by omega⟩
    by_cases e : fgB (c p) = true
    · obtain ⟨g', e1, e2, e4, e3⟩ := ih (p + 1) m (sS (sS g 4 (g.1 4 * 10 + (c p - 48))) 1 (nI (p + 1))) (by omega) (by omega) g0 rfl
      refine ⟨g', ?_, ?_, ?_, fun j hj => ?_⟩
      · have q1 : (sS g 4 (g.1 4 * 10 + (c p - 48))).1 1 = nI p := g1
        rw [f_X4_advance_144, rd_f2 hc_at, b_some, rd_f1 hc_at, b_some, g0, g1, if_neg (nI_ge (by omega) (by omega)), rd_f0 hc_at, b_some, b_some, hx _ _ _ _ (by omega), b_some, fig_v, b_some, if_pos e, if_neg n10, rd_f5 hc_at, b_some, b_some, b_some, hx _ _ _ _ (by omega), b_some, pI, hc_p5, b_some, rd_f2 hc_at, b_some, q1, nI_1, pI, hc_p2, b_some, e1]
      · rw [e2, runP_s, if_pos e]
      · rw [e4, vG_s, if_pos e]; rfl
      · rw [e3 j hj, sS_1, if_neg (fun e => hj (Or.inl e)), sS_1, if_neg (fun e => hj (Or.inr e))]
    · refine ⟨g, ?_, ?_, ?_, fun _ _ => rfl⟩
      · rw [f_X4_advance_144, rd_f2 hc_at, b_some, rd_f1 hc_at, b_some, g0, g1, if_neg (nI_ge (by omega) (by omega)), rd_f0 hc_at, b_some, b_some, hx _ _ _ _ (by omega), b_some, fig_v, b_some, if_neg e, if_pos rfl]
      · rw [g1, runP_s, if_neg e]
      · rw [vG_s, if_neg e]
theorem g_adv (hx : Txt b d t h c n) (hn : n ≤ 150) {p : Nat} {f it : Int32} (hp : p ≤ n) {g : Blk} (g0 : g.1 0 = nI n) (g1 : g.1 1 = nI p) (g5 : g.1 5 = f) (g6 : g.1 6 = it) : ∃ g', f_X4_advance (hcB b d t g H s h) b = some (hcB b d t g' H s h) ∧ CC c n p f it g' := by
  obtain ⟨ga, a1, a2, a3⟩ := g_adv0 (H := H) (s := s) hx hn (n - p) p lots g (by omega) (by simp only [lots]; omega) g0 g1
  have a2' : ga.1 1 = nI (tkS c n p) := a2
  obtain ⟨s1, s2⟩ := tkS_le (c := c) hp
  have ga0 : ga.1 0 = nI n := by rw [a3 0 (by omega), g0]
  have ga5 : ga.1 5 = f := by rw [a3 5 (by omega), g5]
  have ga6 : ga.1 6 = it := by rw [a3 6 (by omega), g6]
  have b1 : (sS ga 2 (nI (tkS c n p))).1 1 = nI (tkS c n p) := a2'
  have b0 : (sS ga 2 (nI (tkS c n p))).1 0 = nI n := ga0
  have hE : tkE c n p = if tkS c n p = n then n else if ltB (c (tkS c n p)) = true then runP ltB c (n - tkS c n p) (tkS c n p) else if fgB (c (tkS c n p)) = true then runP fgB c (n - tkS c n p) (tkS c n p) else tkS c n p + 1 := rfl
  have hK : tkK c n p = if tkS c n p = n then 0 else if ltB (c (tkS c n p)) = true then 1 else if fgB (c (tkS c n p)) = true then (if tkE c n p - tkS c n p ≤ 2 then 2 else 4) else if c (tkS c n p) = 59 then 3 else 4 := rfl
  have hV : tkV c n p = vG c (n - tkS c n p) (tkS c n p) 0 := rfl
  have hEl := tkE_le (c := c) hp
  unfold CC
  generalize tkS c n p = S at *
  generalize tkE c n p = E at *
  generalize tkK c n p = K at *
  generalize tkV c n p = V at *
  by_cases e0 : S = n
  · rw [if_pos e0] at hE hK
    refine ⟨sS (sS ga 2 (nI S)) 3 0, ?_, ⟨ga0, by rw [hE, ← e0]; exact a2', rfl, by rw [hK]; rfl, fun e => by omega, ga5, ga6⟩⟩
    rw [f_X4_advance, a1, b_some, rd_f2 hc_at, b_some, a2', pI, hc_p3, b_some, rd_f2 hc_at, b_some, b1, rd_f1 hc_at, b_some, b0, if_neg (nI_nlt (by omega) (by omega)), pI, hc_p4, b_some, b_some]
  · rw [if_neg e0] at hE hK
    have hS : S < n := by omega
    by_cases e1 : ltB (c S) = true
    · rw [if_pos e1] at hE hK
      obtain ⟨gb, c1, c2, c3⟩ := g_adv85 (H := H) (s := s) hx hn (n - S) S lots (sS (sS ga 2 (nI S)) 3 1) (by omega) (by simp only [lots]; omega) ga0 a2'
      refine ⟨gb, ?_, ⟨by rw [c3 0 (by omega)]; exact ga0, by rw [c2, hE], by rw [c3 2 (by omega)]; rfl, by rw [c3 3 (by omega), hK]; rfl, fun e => by omega, by rw [c3 5 (by omega)]; exact ga5, by rw [c3 6 (by omega)]; exact ga6⟩⟩
      rw [f_X4_advance, a1, b_some, rd_f2 hc_at, b_some, a2', pI, hc_p3, b_some, rd_f2 hc_at, b_some, b1, rd_f1 hc_at, b_some, b0, if_pos (nI_lt (by omega) (by omega)), rd_f0 hc_at, b_some, b_some, hx _ _ _ _ (by omega), b_some, let_v, b_some, if_pos e1, if_neg n10, pI, hc_p4, b_some, c1, b_some, b_some]
    · rw [if_neg e1] at hE hK
      by_cases e2 : fgB (c S) = true
      · rw [if_pos e2] at hE hK
        obtain ⟨gb, c1, c2, c4, c3⟩ := g_adv144 (H := H) (s := s) hx hn (n - S) S lots (sS (sS ga 2 (nI S)) 4 0) (by omega) (by simp only [lots]; omega) ga0 a2'
        have gb1 : gb.1 1 = nI E := by rw [c2, hE]
        have gb2 : gb.1 2 = nI S := by rw [c3 2 (by omega)]; rfl
        have k2 : (if 2 < nI E - nI S then some (4 : Int32) else some 2) = some (nI K) := by
          rw [pk_sub (by omega), hK]
          by_cases e3 : E - S ≤ 2
          · rw [if_neg (show ¬ (2 : Int32) < nI (E - S) from nI_nlt (a := 2) (by omega) (by omega)), if_pos e3]; rfl
          · rw [if_pos (show (2 : Int32) < nI (E - S) from nI_lt (a := 2) (by omega) (by omega)), if_neg e3]; rfl
        refine ⟨sS gb 3 (nI K), ?_, ⟨?_, gb1, gb2, rfl, fun _ => ?_, ?_, ?_⟩⟩
        · rw [f_X4_advance, a1, b_some, rd_f2 hc_at, b_some, a2', pI, hc_p3, b_some, rd_f2 hc_at, b_some, b1, rd_f1 hc_at, b_some, b0, if_pos (nI_lt (by omega) (by omega)), rd_f0 hc_at, b_some, b_some, hx _ _ _ _ (by omega), b_some, let_v, b_some, if_neg e1, if_pos rfl, b_some, b_some, hx _ _ _ _ (by omega), b_some, fig_v, b_some, if_pos e2, if_neg n10, pI, hc_p5, b_some, c1, b_some, rd_f2 hc_at, b_some, rd_f3 hc_at, b_some, gb1, gb2, k2, b_some, pI, hc_p4, b_some, b_some]
        · show gb.1 0 = _; rw [c3 0 (by omega)]; exact ga0
        · show gb.1 4 = _; rw [c4, hV]; rfl
        · show gb.1 5 = _; rw [c3 5 (by omega)]; exact ga5
        · show gb.1 6 = _; rw [c3 6 (by omega)]; exact ga6
      · rw [if_neg e2] at hE hK
        have k2 : (if c S = 59 then some (3 : Int32) else some 4) = some (nI K) := by
          rw [hK]
          by_cases e3 : c S = 59
          · rw [if_pos e3, if_pos e3]; rfl
          · rw [if_neg e3, if_neg e3]; rfl
        have k3 : ¬ K = 2 := by rw [hK]; split <;> omega
        have b3 : (sS (sS ga 2 (nI S)) 3 (nI K)).1 1 = nI S := a2'
        refine ⟨sS (sS (sS ga 2 (nI S)) 3 (nI K)) 1 (nI (S + 1)), ?_, ⟨ga0, by rw [hE]; rfl, rfl, rfl, fun e => absurd e k3, ga5, ga6⟩⟩
        rw [f_X4_advance, a1, b_some, rd_f2 hc_at, b_some, a2', pI, hc_p3, b_some, rd_f2 hc_at, b_some, b1, rd_f1 hc_at, b_some, b0, if_pos (nI_lt (by omega) (by omega)), rd_f0 hc_at, b_some, b_some, hx _ _ _ _ (by omega), b_some, let_v, b_some, if_neg e1, if_pos rfl, b_some, b_some, hx _ _ _ _ (by omega), b_some, fig_v, b_some, if_neg e2, if_pos rfl, b_some, b_some, hx _ _ _ _ (by omega), b_some, k2, b_some, pI, hc_p4, b_some, rd_f2 hc_at, b_some, b3, nI_1, pI, hc_p2, b_some, b_some]
end
