/-! ===== reading: words and numbers on both sides ===== -/
def wEq (c : Nat → Int32) (s : Nat) (φ : Nat → Int32) : Nat → Nat → Bool
  | 0, _ => true
  | k + 1, j => decide (c (s + j) = φ j) && wEq c s φ k (j + 1)
theorem wEq_s (c : Nat → Int32) (s : Nat) (φ : Nat → Int32) (k j : Nat) : wEq c s φ (k + 1) j = (decide (c (s + j) = φ j) && wEq c s φ k (j + 1)) := rfl
def phi (a b c d e : Int32) : Nat → Int32 := fun i => if i = 0 then a else if i = 1 then b else if i = 2 then c else if i = 3 then d else e
/-- the token at p is this word -/
def isW (c : Nat → Int32) (n p len : Nat) (φ : Nat → Int32) : Bool := decide (tkK c n p = 1 ∧ tkE c n p - tkS c n p = len) && wEq c (tkS c n p) φ len 0
theorem tkK_le (c : Nat → Int32) (n p : Nat) : tkK c n p ≤ 4 := by
  unfold tkK
  split
  · omega
  · split
    · omega
    · split
      · split <;> omega
      · split <;> omega
/-- the token at p is a number within these bounds -/
def okN (c : Nat → Int32) (n p : Nat) (lo hi : Int32) : Prop := tkK c n p = 2 ∧ ¬ (tkV c n p < lo ∨ hi < tkV c n p)
section
variable {b d t : Nat} {H s : Blk} {h : Hea} {c : Nat → Int32} {n : Nat}
theorem g_word28 (hx : Txt b d t h c n) (hn : n ≤ 150) {w len S : Nat} {φ : Nat → Int32} (h1 : sLen w = some (nI len)) (h2 : ∀ i, i < len → sCh w (nI i) = some (φ i)) {g : Blk} (g2 : g.1 2 = nI S) (hS : S + len ≤ n) : ∀ (k j f : Nat), j + k = len → k < f → f_X4_isWord_28 f (hcB b d t g H s h) b w (nI j) = some (if wEq c S φ k j = true then 1 else 0) := by
  intro k
  induction k with
  | zero =>
    intro j f hj hf
    obtain ⟨f, rfl⟩ : ∃ q, f = q + 1 := ⟨f - 1, by omega⟩
    rw [f_X4_isWord_28, h1, b_some, if_pos (nI_le (by omega) (by omega))]; rfl
  | succ k ih =>
    intro j f hj hf
    obtain ⟨f, rfl⟩ : ∃ q, f = q + 1 := ⟨f - 1, by omega⟩
    rw [f_X4_isWord_28, h1, b_some, if_neg (nI_ge (by omega) (by omega)), rd_f0 hc_at, b_some, rd_f3 hc_at, b_some, g2, nI_add, hx _ _ _ _ (by omega), b_some, h2 j (by omega), b_some, wEq_s]
    by_cases e : c (S + j) = φ j
    · rw [if_pos e, nI_1, ih (j + 1) f (by omega) (by omega), show decide (c (S + j) = φ j) = true by simp [e], Bool.true_and]
    · rw [if_neg e, show decide (c (S + j) = φ j) = false by simp [e], Bool.false_and]; rfl
theorem g_word (hx : Txt b d t h c n) (hn : n ≤ 150) {w len p : Nat} {φ : Nat → Int32} {f it : Int32} (hp : p ≤ n) (hl : len ≤ 5) (h1 : sLen w = some (nI len)) (h2 : ∀ i, i < len → sCh w (nI i) = some (φ i)) {g : Blk} (a : CC c n p f it g) : f_X4_isWord (hcB b d t g H s h) b w = some (if isW c n p len φ = true then 1 else 0) := by
  obtain ⟨a0, a1, a2, a3, -⟩ := a
  obtain ⟨t1, t2, -⟩ := tkE_le (c := c) hp
  have k4 := tkK_le c n p
  rw [f_X4_isWord, rd_f4 hc_at, b_some, a3]
  by_cases e : tkK c n p = 1
  · rw [e, if_pos (show nI 1 = 1 from rfl), rd_f2 hc_at, b_some, rd_f3 hc_at, b_some, h1, b_some, a1, a2, pk_sub (by omega)]
    by_cases e2 : tkE c n p - tkS c n p = len
    · have := g_word28 (H := H) (s := s) hx hn h1 h2 a2 (by omega) len 0 lots (by omega) (by simp only [lots]; omega)
      rw [nI_0] at this
      rw [if_pos (by rw [e2]), this, isW, show decide (tkK c n p = 1 ∧ tkE c n p - tkS c n p = len) = true by simp [e, e2], Bool.true_and]
    · rw [if_neg (fun x => e2 ((nI_eq (by omega) (by omega)).mp x)), isW, show decide (tkK c n p = 1 ∧ tkE c n p - tkS c n p = len) = false by simp [e2], Bool.false_and]; rfl
  · rw [if_neg (nl1 (by omega) e), isW, show decide (tkK c n p = 1 ∧ tkE c n p - tkS c n p = len) = false by simp [e], Bool.false_and]; rfl
theorem g_num_ok (hx : Txt b d t h c n) (hn : n ≤ 150) {p : Nat} {it lo hi : Int32} (hp : p ≤ n) {g : Blk} (a : CC c n p (-1) it g) (o : okN c n p lo hi) : ∃ g', f_X4_number (hcB b d t g H s h) b lo hi = some (tkV c n p, hcB b d t g' H s h) ∧ CC c n (tkE c n p) (-1) it g' := by
  obtain ⟨a0, a1, a2, a3, a4, a5, a6⟩ := a
  obtain ⟨t1, t2, -⟩ := tkE_le (c := c) hp
  obtain ⟨g', e1, e2⟩ := g_adv (H := H) (s := s) hx hn t2 a0 a1 a5 a6
  refine ⟨g', ?_, e2⟩
  rw [f_X4_number, rd_f6 hc_at, b_some, a5, if_pos rfl, rd_f4 hc_at, b_some, a3, o.1, if_pos (show nI 2 = 2 from rfl), rd_f5 hc_at, b_some, a4 o.1, wi_v, b_some, if_neg o.2, if_neg n10, b_some, rd_o hc_at, b_some, e1, b_some]
theorem g_num_no {p : Nat} {it lo hi : Int32} {g : Blk} (a : CC c n p (-1) it g) (o : ¬ okN c n p lo hi) : f_X4_number (hcB b d t g H s h) b lo hi = some (-1, hcB b d t (sS g 5 (nI (tkS c n p))) H s h) := by
  obtain ⟨a0, a1, a2, a3, a4, a5, a6⟩ := a
  have k4 := tkK_le c n p
  rw [f_X4_number, rd_f6 hc_at, b_some, a5, if_pos rfl, rd_f4 hc_at, b_some, a3]
  by_cases e : tkK c n p = 2
  · have o2 : tkV c n p < lo ∨ hi < tkV c n p := Decidable.of_not_not (fun q => o ⟨e, q⟩)
    rw [e, if_pos (show nI 2 = 2 from rfl), rd_f5 hc_at, b_some, a4 e, wi_v, b_some, if_pos o2, if_pos rfl, rd_f3 hc_at, b_some, a2, pI, hc_p6, b_some]
  · rw [if_neg (nl2 (by omega) e), rd_f3 hc_at, b_some, a2, pI, hc_p6, b_some]
theorem g_num_f {f : Nat} {lo hi : Int32} {g : Blk} (hf : f < 2147483648) (g5 : g.1 5 = nI f) : f_X4_number (hcB b d t g H s h) b lo hi = some (-1, hcB b d t g H s h) := by
  rw [f_X4_number, rd_f6 hc_at, b_some, g5, if_neg (nI_n1 hf)]
end
section
variable {b : Nat} {h : Hea} {l : Nat → Int64} {r : Nat → Nat → Int64} {m0 : Blk} {c : Nat → Int32} {n : Nat}
theorem w26_0 {f : Nat} {m : Blk} {y1 a0 a1 a2 a3 a4 y8 : Int32} : f_X8_isWord_26 (f + 1) (blk b (mdL b m l r) h) b y1 a0 a1 a2 a3 a4 0 y8 = some 0 := by
  rw [f_X8_isWord_26]
  by_cases e : y1 ≤ y8
  · rw [if_pos e]
  · rw [if_neg e, if_pos rfl]
theorem g8_word26 (tx : Tx8 m0 c n) (hn : n ≤ 150) {len S : Nat} {a0 a1 a2 a3 a4 : Int32} (hl : len ≤ 5) {m : Blk} (ra : RS m0 m) (m3 : m.1 3 = nI S) (hS : S + len ≤ n) : ∀ (k j f : Nat), j + k = len → k < f → f_X8_isWord_26 f (blk b (mdL b m l r) h) b (nI len) a0 a1 a2 a3 a4 1 (nI j) = some (if wEq c S (phi a0 a1 a2 a3 a4) k j = true then 1 else 0) := by
  intro k
  induction k with
  | zero =>
    intro j f hj hf
    obtain ⟨f, rfl⟩ : ∃ q, f = q + 1 := ⟨f - 1, by omega⟩
    rw [f_X8_isWord_26, if_pos (nI_le (by omega) (by omega))]; rfl
  | succ k ih =>
    intro j f hj hf
    obtain ⟨f, rfl⟩ : ∃ q, f = q + 1 := ⟨f - 1, by omega⟩
    have hv : (if nI j = 0 then some a0 else if nI j = 1 then some a1 else if nI j = 2 then some a2 else if nI j = 3 then some a3 else some a4) = some (phi a0 a1 a2 a3 a4 j) := by
      rcases (show j = 0 ∨ j = 1 ∨ j = 2 ∨ j = 3 ∨ j = 4 by omega) with rfl | rfl | rfl | rfl | rfl
      · rfl
      · rw [if_neg (nl0 (by omega) (by omega)), if_pos (show nI 1 = 1 from rfl)]; rfl
      · rw [if_neg (nl0 (by omega) (by omega)), if_neg (nl1 (by omega) (by omega)), if_pos (show nI 2 = 2 from rfl)]; rfl
      · rw [if_neg (nl0 (by omega) (by omega)), if_neg (nl1 (by omega) (by omega)), if_neg (nl2 (by omega) (by omega)), if_pos (show nI 3 = 3 from rfl)]; rfl
      · rw [if_neg (nl0 (by omega) (by omega)), if_neg (nl1 (by omega) (by omega)), if_neg (nl2 (by omega) (by omega)), if_neg (nl3 (by omega) (by omega))]; rfl
    rw [f_X8_isWord_26, if_neg (nI_ge (by omega) (by omega)), if_neg n10, md_f19 (blk_at _ _ _), b_some, md_f21 (blk_at _ _ _), b_some, m3, nI_add, by8 tx hn ra (by omega), b_some, hv, b_some, wEq_s]
    by_cases e : c (S + j) = phi a0 a1 a2 a3 a4 j
    · rw [if_pos e, b_some, nI_1, ih (j + 1) f (by omega) (by omega), show decide (c (S + j) = phi a0 a1 a2 a3 a4 j) = true by simp [e], Bool.true_and]
    · obtain ⟨f, rfl⟩ : ∃ q, f = q + 1 := ⟨f - 1, by omega⟩
      rw [if_neg e, b_some, w26_0, show decide (c (S + j) = phi a0 a1 a2 a3 a4 j) = false by simp [e], Bool.false_and]; rfl
theorem zb01 (c : Bool) : zb (if c = true then 1 else 0) = some (if c = true then 1 else 0) := by cases c <;> rfl
theorem g8_word (tx : Tx8 m0 c n) (hn : n ≤ 150) {len p : Nat} {a0 a1 a2 a3 a4 : Int32} (hp : p ≤ n) (hl : len ≤ 5) {N : Nat → Int32} {m : Blk} (a : CR m0 c n p N m) : f_X8_isWord (blk b (mdL b m l r) h) b (nI len) a0 a1 a2 a3 a4 = some (if isW c n p len (phi a0 a1 a2 a3 a4) = true then 1 else 0) := by
  obtain ⟨ra, r14, r3, r4, r5, -⟩ := a
  obtain ⟨t1, t2, -⟩ := tkE_le (c := c) hp
  have k4 := tkK_le c n p
  rw [f_X8_isWord, md_f23 (blk_at _ _ _), b_some, r5]
  by_cases e : tkK c n p = 1
  · rw [e, if_pos (show nI 1 = 1 from rfl), md_f22 (blk_at _ _ _), b_some, r4]
    by_cases e2 : tkE c n p - tkS c n p = len
    · have := g8_word26 (b := b) (h := h) (l := l) (r := r) (a0 := a0) (a1 := a1) (a2 := a2) (a3 := a3) (a4 := a4) tx hn hl ra r3 (by omega) len 0 lots (by omega) (by simp only [lots]; omega)
      rw [nI_0] at this
      rw [if_pos (by rw [e2]), b_some, this, b_some, isW, show decide (tkK c n p = 1 ∧ tkE c n p - tkS c n p = len) = true by simp [e, e2], Bool.true_and]
      exact zb01 _
    · rw [if_neg (fun x => e2 ((nI_eq (by omega) (by omega)).mp x)), b_some, show lots = 999 + 1 from rfl, w26_0, b_some, isW, show decide (tkK c n p = 1 ∧ tkE c n p - tkS c n p = len) = false by simp [e2], Bool.false_and]; rfl
  · rw [if_neg (nl1 (by omega) e), b_some, show lots = 999 + 1 from rfl, w26_0, b_some, isW, show decide (tkK c n p = 1 ∧ tkE c n p - tkS c n p = len) = false by simp [e], Bool.false_and]; rfl
theorem CR.vals {p : Nat} {N : Nat → Int32} {m : Blk} {k : Nat} {x : Int32} (a : CR m0 c n p N m) : CR m0 c n p N (sB m 15 (upd (m.2 15) k x)) := ⟨a.1.sB (by omega), a.2.1, a.2.2⟩
theorem g8_num_ok (tx : Tx8 m0 c n) (hn : n ≤ 150) {p k : Nat} {i lo hi : Int32} (hp : p ≤ n) (hk : k < 3) (hi' : i = nI k) {N : Nat → Int32} {m : Blk} (a : CR m0 c n p N m) (o : okN c n p lo hi) : ∃ m', f_X8_takes (blk b (mdL b m l r) h) b i lo hi = some (1, blk b (mdL b m' l r) h) ∧ CR m0 c n (tkE c n p) N m' ∧ m'.2 15 = upd (m.2 15) k (tkV c n p) := by
  subst hi'
  obtain ⟨m', e1, e2, e3⟩ := g8_behind (b := b) (h := h) (l := l) (r := r) tx hn hp (a.vals (k := k) (x := tkV c n p))
  obtain ⟨ra, r14, r3, r4, r5, r6⟩ := a
  refine ⟨m', ?_, e2, e3⟩
  rw [f_X8_takes, md_f23 (blk_at _ _ _), b_some, r5, o.1, if_pos (show nI 2 = 2 from rfl), md_f24 (blk_at _ _ _), b_some, r6 o.1, in_v, b_some, if_neg o.2, if_neg n10, md_f26 (blk_at _ _ _), b_some, b_some, md_w18 hk, sA_now, b_some, md_o (blk_at _ _ _), b_some, e1, b_some]
theorem g8_num_no {p : Nat} {i lo hi : Int32} {N : Nat → Int32} {m : Blk} (a : CR m0 c n p N m) (o : ¬ okN c n p lo hi) : f_X8_takes (blk b (mdL b m l r) h) b i lo hi = some (0, blk b (mdL b m l r) h) := by
  obtain ⟨ra, r14, r3, r4, r5, r6⟩ := a
  have k4 := tkK_le c n p
  rw [f_X8_takes, md_f23 (blk_at _ _ _), b_some, r5]
  by_cases e : tkK c n p = 2
  · have o2 : tkV c n p < lo ∨ hi < tkV c n p := Decidable.of_not_not (fun q => o ⟨e, q⟩)
    rw [e, if_pos (show nI 2 = 2 from rfl), md_f24 (blk_at _ _ _), b_some, r6 e, in_v, b_some, if_pos o2, if_pos rfl]
  · rw [if_neg (nl2 (by omega) e)]
theorem v8_0 {m : Blk} : ldI (blk b (mdL b m l r) h) 0 (b + 18) 0 = some (m.2 15 0) := md_m18 (i := 0) (blk_at _ _ _) (by omega)
theorem v8_1 {m : Blk} : ldI (blk b (mdL b m l r) h) 0 (b + 18) 1 = some (m.2 15 1) := md_m18 (i := 1) (blk_at _ _ _) (by omega)
theorem v8_2 {m : Blk} : ldI (blk b (mdL b m l r) h) 0 (b + 18) 2 = some (m.2 15 2) := md_m18 (i := 2) (blk_at _ _ _) (by omega)
end
/-! the five words, by their places -/
theorem ws_len : sLen 0 = some (nI 4) ∧ sLen 1 = some (nI 4) ∧ sLen 2 = some (nI 4) ∧ sLen 3 = some (nI 4) ∧ sLen 4 = some (nI 5) := ⟨rfl, rfl, rfl, rfl, rfl⟩
theorem ws_0 : ∀ i, i < 4 → sCh 0 (nI i) = some (phi 114 111 111 109 0 i) := by decide +kernel
theorem ws_1 : ∀ i, i < 4 → sCh 1 (nI i) = some (phi 100 111 111 114 0 i) := by decide +kernel
theorem ws_2 : ∀ i, i < 4 → sCh 2 (nI i) = some (phi 108 105 115 116 0 i) := by decide +kernel
theorem ws_3 : ∀ i, i < 4 → sCh 3 (nI i) = some (phi 104 101 105 114 0 i) := by decide +kernel
theorem ws_4 : ∀ i, i < 5 → sCh 4 (nI i) = some (phi 104 111 117 115 101 i) := by decide +kernel
