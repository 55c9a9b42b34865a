/-! ===== the reference: keep, undo, the end of a night ===== -/
def cpG (f : Nat → Int32) (S D j e : Nat) : Nat → Int32 := fun q => if D + j ≤ q ∧ q < D + e then f (S + (q - D)) else f q
theorem cpG_v (f : Nat → Int32) (S D j e q : Nat) : cpG f S D j e q = if D + j ≤ q ∧ q < D + e then f (S + (q - D)) else f q := rfl
theorem cpG_0 (f : Nat → Int32) (S D : Nat) {j e : Nat} (h : e ≤ j) : cpG f S D j e = f := by
  funext q
  rw [cpG_v, if_neg (by omega)]
theorem cpG_s (f : Nat → Int32) {S D j e : Nat} (hd : S + e ≤ D ∨ D < S) (h : j < e) : cpG (upd f (D + j) (f (S + j))) S D (j + 1) e = cpG f S D j e := by
  funext q
  rw [cpG_v, cpG_v]
  by_cases h1 : q = D + j
  · subst h1
    rw [if_neg (by omega), upd_v, if_pos rfl, if_pos (by omega), show S + (D + j - D) = S + j by omega]
  · by_cases h2 : D + (j + 1) ≤ q ∧ q < D + e
    · rw [if_pos h2, if_pos (by omega), upd_v, if_neg (by omega)]
    · rw [if_neg h2, if_neg (by omega), upd_v, if_neg h1]
section
variable {h : Hea} {b : Nat} {m : Blk} {l : Nat → Int64} {r : Nat → Nat → Int64}
theorem now_get {f : Nat → Int32} {i j : Nat} (hi : i < 6) (hj : j < 7) : f_X8_get (blk b (mdL b (sB m 0 f) l r) h) b (nI i) (nI j) = some (f (91 + 7 * i + j)) := g8_getN (blk_at _ _ _) hi hj
theorem now_set {f : Nat → Int32} {i j : Nat} {x : Int32} (hi : i < 6) (hj : j < 7) : f_X8_set (blk b (mdL b (sB m 0 f) l r) h) b (nI i) (nI j) x = some (blk b (mdL b (sB m 0 (upd f (91 + 7 * i + j) x)) l r) h) := by
  rw [g8_setN hi hj, sA_sB]
theorem g8_keep14 : ∀ (k j n : Nat) (f : Nat → Int32), j + k = 217 → k < n → f_X8_keep_14 n (blk b (mdL b (sB m 0 f) l r) h) b (nI j) = some (blk b (mdL b (sB m 0 (cpG f 182 151 j 217)) l r) h) := by
  intro k
  induction k with
  | zero =>
    intro j n f hj hn
    obtain ⟨n, rfl⟩ : ∃ q, n = q + 1 := ⟨n - 1, by omega⟩
    rw [f_X8_keep_14, if_pos (show (217 : Int32) ≤ nI j from nI_le (a := 217) (by omega) (by omega)), cpG_0 _ _ _ (by omega)]
  | succ k ih =>
    intro j n f hj hn
    obtain ⟨n, rfl⟩ : ∃ q, n = q + 1 := ⟨n - 1, by omega⟩
    rw [f_X8_keep_14, if_neg (show ¬ (217 : Int32) ≤ nI j from nI_ge (b := 217) (by omega) (by omega)), md_f0 (blk_at _ _ _), b_some, b_some, show (182 : Int32) = nI 182 from rfl, nI_add, now_m (by omega), b_some, show (151 : Int32) = nI 151 from rfl, nI_add, now_w (by omega), b_some, nI_1, ih (j + 1) n _ (by omega) (by omega), cpG_s _ (by omega) (by omega)]
theorem g8_keep111 {t i : Nat} (ht : 151 ≤ t) (ht2 : t + 31 ≤ 399) (hi : i < 6) : ∀ (k j n : Nat) (f : Nat → Int32), j + k = 4 → k < n → f_X8_keep_111 n (blk b (mdL b (sB m 0 f) l r) h) b (nI t) (nI i) (nI j) = some (blk b (mdL b (sB m 0 (cpG f (91 + 7 * i + 3) (t + 2 + 5 * i) j 4)) l r) h) := by
  intro k
  induction k with
  | zero =>
    intro j n f hj hn
    obtain ⟨n, rfl⟩ : ∃ q, n = q + 1 := ⟨n - 1, by omega⟩
    rw [f_X8_keep_111, if_pos (show (4 : Int32) ≤ nI j from nI_le (a := 4) (by omega) (by omega)), cpG_0 _ _ _ (by omega)]
  | succ k ih =>
    intro j n f hj hn
    obtain ⟨n, rfl⟩ : ∃ q, n = q + 1 := ⟨n - 1, by omega⟩
    have x1 : (3 : Int32) + nI j = nI (3 + j) := nI_add 3 j
    have x2 : ((nI t + 2) + 5 * nI i) + nI j = nI (t + 2 + 5 * i + j) := by rw [show (2 : Int32) = nI 2 from rfl, show (5 : Int32) = nI 5 from rfl, pk_mul, nI_add, nI_add, nI_add]
    rw [f_X8_keep_111, if_neg (show ¬ (4 : Int32) ≤ nI j from nI_ge (b := 4) (by omega) (by omega)), md_f0 (blk_at _ _ _), b_some, md_o (blk_at _ _ _), b_some, x1, now_get hi (by omega), b_some, x2, now_w (by omega), b_some, nI_1, ih (j + 1) n _ (by omega) (by omega), ← Nat.add_assoc, cpG_s _ (by omega) (by omega)]
theorem g8_keep85 {t : Nat} (ht : 151 ≤ t) (ht2 : t + 31 ≤ 399) : ∀ (k i n : Nat) (f : Nat → Int32), i + k = 6 → k < n → ∃ f', f_X8_keep_85 n (blk b (mdL b (sB m 0 f) l r) h) b (nI t) (nI i) = some (blk b (mdL b (sB m 0 f') l r) h) ∧ (∀ q, ¬ (t + 1 + 5 * i ≤ q ∧ q < t + 31) → f' q = f q) ∧ ∀ c, i ≤ c → c < 6 → f' (t + 1 + 5 * c) = f (91 + 7 * c + 1) ∧ ∀ o, o < 4 → f' (t + 2 + 5 * c + o) = f (91 + 7 * c + 3 + o) := by
  intro k
  induction k with
  | zero =>
    intro i n f hi hn
    obtain ⟨n, rfl⟩ : ∃ q, n = q + 1 := ⟨n - 1, by omega⟩
    exact ⟨f, by rw [f_X8_keep_85, if_pos (show (6 : Int32) ≤ nI i from nI_le (a := 6) (by omega) (by omega))], fun _ _ => rfl, fun c h1 h2 => by omega⟩
  | succ k ih =>
    intro i n f hi hn
    obtain ⟨n, rfl⟩ : ∃ q, n = q + 1 := ⟨n - 1, by omega⟩
    have hi6 : i < 6 := by omega
    have x1 : (nI t + 1) + 5 * nI i = nI (t + 1 + 5 * i) := by rw [show (1 : Int32) = nI 1 from rfl, show (5 : Int32) = nI 5 from rfl, pk_mul, nI_add, nI_add]
    have e1 := g8_keep111 (h := h) (b := b) (m := m) (l := l) (r := r) ht ht2 hi6 4 0 lots (upd f (t + 1 + 5 * i) (f (91 + 7 * i + 1))) (by omega) (by simp only [lots]; omega)
    rw [nI_0] at e1
    obtain ⟨f', e2, k1, k2⟩ := ih (i + 1) n (cpG (upd f (t + 1 + 5 * i) (f (91 + 7 * i + 1))) (91 + 7 * i + 3) (t + 2 + 5 * i) 0 4) (by omega) (by omega)
    have g1 := now_get (h := h) (b := b) (m := m) (l := l) (r := r) (f := f) (i := i) (j := 1) hi6 (by omega)
    rw [show nI 1 = 1 from rfl] at g1
    have lo : ∀ q, q < 151 → cpG (upd f (t + 1 + 5 * i) (f (91 + 7 * i + 1))) (91 + 7 * i + 3) (t + 2 + 5 * i) 0 4 q = f q := fun q hq => by
      rw [cpG_v, if_neg (by omega), upd_v, if_neg (by omega)]
    refine ⟨f', ?_, fun q hq => ?_, fun c h1 h2 => ?_⟩
    · rw [f_X8_keep_85, if_neg (show ¬ (6 : Int32) ≤ nI i from nI_ge (b := 6) (by omega) (by omega)), md_f0 (blk_at _ _ _), b_some, md_o (blk_at _ _ _), b_some, g1, b_some, x1, now_w (by omega), b_some, e1, b_some, nI_1, e2]
    · rw [k1 q (by omega), cpG_v, if_neg (by omega), upd_v, if_neg (by omega)]
    · by_cases e : c = i
      · subst e
        refine ⟨?_, fun o ho => ?_⟩
        · rw [k1 _ (by omega), cpG_v, if_neg (by omega), upd_v, if_pos rfl]
        · rw [k1 _ (by omega), cpG_v, if_pos (by omega), upd_v, if_neg (by omega), show 91 + 7 * c + 3 + (t + 2 + 5 * c + o - (t + 2 + 5 * c)) = 91 + 7 * c + 3 + o by omega]
      · obtain ⟨a1, a2⟩ := k2 c (by omega) h2
        exact ⟨by rw [a1, lo _ (by omega)], fun o ho => by rw [a2 o ho, lo _ (by omega)]⟩
/-- one more of the past, in the reference's row: z' of them -/
def kpR (z z' : Nat) (N N' : Nat → Int32) : Prop := z' = (if z < 8 then z + 1 else 8) ∧ (∀ q, q < 151 → ¬ q = 6 → N' q = N q) ∧ N' 6 = nI z' ∧ (∀ j o, j + 1 < z' → o < 31 → N' (151 + 31 * j + o) = N (151 + 31 * (if z < 8 then j else j + 1) + o)) ∧ N' (151 + 31 * (z' - 1)) = N 3 ∧ ∀ i, i < 6 → N' (151 + 31 * (z' - 1) + 1 + 5 * i) = N (91 + 7 * i + 1) ∧ ∀ o, o < 4 → N' (151 + 31 * (z' - 1) + 2 + 5 * i + o) = N (91 + 7 * i + 3 + o)
theorem g8_keep {z : Nat} (hz : z ≤ 8) (h6 : m.2 0 6 = nI z) : ∃ N' z', f_X8_keep (blk b (mdL b m l r) h) b = some (blk b (mdL b (sB m 0 N') l r) h) ∧ kpR z z' (m.2 0) N' := by
  have fin : ∀ (z1 : Nat) (f : Nat → Int32), z1 ≤ 7 → f 6 = nI z1 → ∃ f', ((gR (blk b (mdL b (sB m 0 f) l r) h) b 8 0).bind fun x7 => (ldI (blk b (mdL b (sB m 0 f) l r) h) 0 x7 6).bind fun x8 => (gR (blk b (mdL b (sB m 0 f) l r) h) b 8 0).bind fun x9 => (gR (blk b (mdL b (sB m 0 f) l r) h) b 8 0).bind fun x10 => (ldI (blk b (mdL b (sB m 0 f) l r) h) 0 x10 3).bind fun x11 => (stI (blk b (mdL b (sB m 0 f) l r) h) 0 x9 (151 + (31 * x8)) x11).bind fun h12 => (f_X8_keep_85 lots h12 b (151 + (31 * x8)) 0).bind fun h13 => (gR h13 b 8 0).bind fun x14 => (ldI h13 0 x14 6).bind fun x15 => (stI h13 0 x14 6 (x15 + 1)).bind fun h16 => some h16) = some (blk b (mdL b (sB m 0 f') l r) h) ∧ (∀ q, ¬ q = 6 → ¬ (151 + 31 * z1 ≤ q ∧ q < 151 + 31 * z1 + 31) → f' q = f q) ∧ f' 6 = nI (z1 + 1) ∧ f' (151 + 31 * z1) = f 3 ∧ ∀ i, i < 6 → f' (151 + 31 * z1 + 1 + 5 * i) = f (91 + 7 * i + 1) ∧ ∀ o, o < 4 → f' (151 + 31 * z1 + 2 + 5 * i + o) = f (91 + 7 * i + 3 + o) := by
    intro z1 f hz1 hf
    obtain ⟨f', e1, k1, k2⟩ := g8_keep85 (h := h) (b := b) (m := m) (l := l) (r := r) (t := 151 + 31 * z1) (by omega) (by omega) 6 0 lots (upd f (151 + 31 * z1) (f 3)) (by omega) (by simp only [lots]; omega)
    rw [nI_0] at e1
    have x1 : (151 : Int32) + 31 * nI z1 = nI (151 + 31 * z1) := by rw [show (151 : Int32) = nI 151 from rfl, show (31 : Int32) = nI 31 from rfl, pk_mul, nI_add]
    have l6 := now_m (h := h) (b := b) (m := m) (l := l) (r := r) (f := f) (i := 6) (by omega)
    rw [show nI 6 = 6 from rfl, hf] at l6
    have l3 := now_m (h := h) (b := b) (m := m) (l := l) (r := r) (f := f) (i := 3) (by omega)
    rw [show nI 3 = 3 from rfl] at l3
    have f6 : f' 6 = nI z1 := by rw [k1 6 (by omega), upd_v, if_neg (by omega), hf]
    have l6' := now_m (h := h) (b := b) (m := m) (l := l) (r := r) (f := f') (i := 6) (by omega)
    rw [show nI 6 = 6 from rfl, f6] at l6'
    have w6 := now_w (h := h) (b := b) (m := m) (l := l) (r := r) (f := f') (i := 6) (x := nI (z1 + 1)) (by omega)
    rw [show nI 6 = 6 from rfl] at w6
    refine ⟨upd f' 6 (nI (z1 + 1)), ?_, fun q h1 h2 => ?_, rfl, ?_, fun i hi => ⟨?_, fun o ho => ?_⟩⟩
    · rw [md_f0 (blk_at _ _ _), b_some, l6, b_some, b_some, b_some, l3, b_some, x1, now_w (by omega), b_some, e1, b_some, md_f0 (blk_at _ _ _), b_some, l6', b_some, nI_1, w6, b_some]
    · rw [upd_v, if_neg h1, k1 q (by omega), upd_v, if_neg (by omega)]
    · rw [upd_v, if_neg (by omega), k1 _ (by omega), upd_v, if_pos rfl]
    · rw [upd_v, if_neg (by omega), (k2 i (by omega) hi).1, upd_v, if_neg (by omega)]
    · rw [upd_v, if_neg (by omega), (k2 i (by omega) hi).2 o ho, upd_v, if_neg (by omega)]
  by_cases h8 : z = 8
  · subst h8
    have e0 := g8_keep14 (h := h) (b := b) (m := m) (l := l) (r := r) 217 0 lots (m.2 0) (by omega) (by simp only [lots]; omega)
    rw [nI_0, sB_self] at e0
    have w6 := now_w (h := h) (b := b) (m := m) (l := l) (r := r) (f := cpG (m.2 0) 182 151 0 217) (i := 6) (x := 7) (by omega)
    rw [show nI 6 = 6 from rfl] at w6
    obtain ⟨f', e1, k1, k6, k3, ki⟩ := fin 7 (upd (cpG (m.2 0) 182 151 0 217) 6 7) (by omega) rfl
    have lo : ∀ q, q < 151 → ¬ q = 6 → upd (cpG (m.2 0) 182 151 0 217) 6 7 q = m.2 0 q := fun q h1 h2 => by
      rw [upd_v, if_neg h2, cpG_v, if_neg (by omega)]
    refine ⟨f', 8, ?_, rfl, fun q h1 h2 => ?_, k6, fun j o hj ho => ?_, ?_, fun i hi => ⟨?_, fun o ho => ?_⟩⟩
    · rw [f_X8_keep, md_f0 (blk_at _ _ _), b_some, ln_6 (blk_at _ _ _), b_some, h6, if_pos (show nI 8 = 8 from rfl), e0, b_some, md_f0 (blk_at _ _ _), b_some, w6, b_some, b_some]
      exact e1
    · rw [k1 q h2 (by omega), lo q h1 h2]
    · rw [k1 _ (by omega) (by omega), upd_v, if_neg (by omega), cpG_v, if_pos (by omega), if_neg (show ¬ 8 < 8 by omega), show 182 + (151 + 31 * j + o - 151) = 151 + 31 * (j + 1) + o by omega]
    · rw [show 8 - 1 = 7 from rfl, k3, lo 3 (by omega) (by omega)]
    · rw [show 8 - 1 = 7 from rfl, (ki i hi).1, lo _ (by omega) (by omega)]
    · rw [show 8 - 1 = 7 from rfl, (ki i hi).2 o ho, lo _ (by omega) (by omega)]
  · obtain ⟨f', e1, k1, k6, k3, ki⟩ := fin z (m.2 0) (by omega) h6
    rw [sB_self] at e1
    refine ⟨f', z + 1, ?_, by rw [if_pos (show z < 8 by omega)], fun q h1 h2 => k1 q h2 (by omega), k6, fun j o hj ho => ?_, ?_, fun i hi => ?_⟩
    · rw [f_X8_keep, md_f0 (blk_at _ _ _), b_some, ln_6 (blk_at _ _ _), b_some, h6, if_neg (show ¬ nI z = 8 from fun e => h8 ((nI_eq (b := 8) (by omega) (by omega)).mp e)), b_some]
      exact e1
    · rw [k1 _ (by omega) (by omega), if_pos (show z < 8 by omega)]
    · exact k3
    · exact ki i hi
theorem g8_undo81 {t i : Nat} (ht : 151 ≤ t) (ht2 : t + 31 ≤ 399) (hi : i < 6) : ∀ (k j n : Nat) (f : Nat → Int32), j + k = 4 → k < n → f_X8_undo_81 n (blk b (mdL b (sB m 0 f) l r) h) b (nI t) (nI i) (nI j) = some (blk b (mdL b (sB m 0 (cpG f (t + 2 + 5 * i) (91 + 7 * i + 3) j 4)) l r) h) := by
  intro k
  induction k with
  | zero =>
    intro j n f hj hn
    obtain ⟨n, rfl⟩ : ∃ q, n = q + 1 := ⟨n - 1, by omega⟩
    rw [f_X8_undo_81, if_pos (show (4 : Int32) ≤ nI j from nI_le (a := 4) (by omega) (by omega)), cpG_0 _ _ _ (by omega)]
  | succ k ih =>
    intro j n f hj hn
    obtain ⟨n, rfl⟩ : ∃ q, n = q + 1 := ⟨n - 1, by omega⟩
    have x1 : (3 : Int32) + nI j = nI (3 + j) := nI_add 3 j
    have x2 : ((nI t + 2) + 5 * nI i) + nI j = nI (t + 2 + 5 * i + j) := by rw [show (2 : Int32) = nI 2 from rfl, show (5 : Int32) = nI 5 from rfl, pk_mul, nI_add, nI_add, nI_add]
    rw [f_X8_undo_81, if_neg (show ¬ (4 : Int32) ≤ nI j from nI_ge (b := 4) (by omega) (by omega)), md_f0 (blk_at _ _ _), b_some, x2, now_m (by omega), b_some, md_o (blk_at _ _ _), b_some, x1, now_set hi (by omega), b_some, nI_1, ih (j + 1) n _ (by omega) (by omega), ← Nat.add_assoc, cpG_s _ (by omega) (by omega)]
theorem g8_undo55 {t : Nat} (ht : 151 ≤ t) (ht2 : t + 31 ≤ 399) : ∀ (k i n : Nat) (f : Nat → Int32), i + k = 6 → k < n → ∃ f', f_X8_undo_55 n (blk b (mdL b (sB m 0 f) l r) h) b (nI t) (nI i) = some (blk b (mdL b (sB m 0 f') l r) h) ∧ (∀ q, ¬ (91 + 7 * i ≤ q ∧ q < 133) → f' q = f q) ∧ ∀ c, i ≤ c → c < 6 → f' (91 + 7 * c) = f (91 + 7 * c) ∧ f' (91 + 7 * c + 2) = f (91 + 7 * c + 2) ∧ f' (91 + 7 * c + 1) = f (t + 1 + 5 * c) ∧ ∀ o, o < 4 → f' (91 + 7 * c + 3 + o) = f (t + 2 + 5 * c + o) := by
  intro k
  induction k with
  | zero =>
    intro i n f hi hn
    obtain ⟨n, rfl⟩ : ∃ q, n = q + 1 := ⟨n - 1, by omega⟩
    exact ⟨f, by rw [f_X8_undo_55, if_pos (show (6 : Int32) ≤ nI i from nI_le (a := 6) (by omega) (by omega))], fun _ _ => rfl, fun c h1 h2 => by omega⟩
  | succ k ih =>
    intro i n f hi hn
    obtain ⟨n, rfl⟩ : ∃ q, n = q + 1 := ⟨n - 1, by omega⟩
    have hi6 : i < 6 := by omega
    have x1 : (nI t + 1) + 5 * nI i = nI (t + 1 + 5 * i) := by rw [show (1 : Int32) = nI 1 from rfl, show (5 : Int32) = nI 5 from rfl, pk_mul, nI_add, nI_add]
    have e1 := g8_undo81 (h := h) (b := b) (m := m) (l := l) (r := r) ht ht2 hi6 4 0 lots (upd f (91 + 7 * i + 1) (f (t + 1 + 5 * i))) (by omega) (by simp only [lots]; omega)
    rw [nI_0] at e1
    obtain ⟨f', e2, k1, k2⟩ := ih (i + 1) n (cpG (upd f (91 + 7 * i + 1) (f (t + 1 + 5 * i))) (t + 2 + 5 * i) (91 + 7 * i + 3) 0 4) (by omega) (by omega)
    have g1 := now_set (h := h) (b := b) (m := m) (l := l) (r := r) (f := f) (i := i) (j := 1) (x := f (t + 1 + 5 * i)) hi6 (by omega)
    rw [show nI 1 = 1 from rfl] at g1
    have lo : ∀ q, ¬ (91 + 7 * i + 1 ≤ q ∧ q < 91 + 7 * i + 7 ∧ ¬ q = 91 + 7 * i + 2) → cpG (upd f (91 + 7 * i + 1) (f (t + 1 + 5 * i))) (t + 2 + 5 * i) (91 + 7 * i + 3) 0 4 q = f q := fun q hq => by
      rw [cpG_v, if_neg (by omega), upd_v, if_neg (by omega)]
    refine ⟨f', ?_, fun q hq => ?_, fun c h1 h2 => ?_⟩
    · rw [f_X8_undo_55, if_neg (show ¬ (6 : Int32) ≤ nI i from nI_ge (b := 6) (by omega) (by omega)), md_f0 (blk_at _ _ _), b_some, x1, now_m (by omega), b_some, md_o (blk_at _ _ _), b_some, g1, b_some, e1, b_some, nI_1, e2]
    · rw [k1 q (by omega), lo q (by omega)]
    · by_cases e : c = i
      · subst e
        refine ⟨?_, ?_, ?_, fun o ho => ?_⟩
        · rw [k1 _ (by omega), lo _ (by omega)]
        · rw [k1 _ (by omega), lo _ (by omega)]
        · rw [k1 _ (by omega), cpG_v, if_neg (by omega), upd_v, if_pos rfl]
        · rw [k1 _ (by omega), cpG_v, if_pos (by omega), upd_v, if_neg (by omega), show t + 2 + 5 * c + (91 + 7 * c + 3 + o - (91 + 7 * c + 3)) = t + 2 + 5 * c + o by omega]
      · obtain ⟨a1, a2, a3, a4⟩ := k2 c (by omega) h2
        exact ⟨by rw [a1, lo _ (by omega)], by rw [a2, lo _ (by omega)], by rw [a3, lo _ (by omega)], fun o ho => by rw [a4 o ho, lo _ (by omega)]⟩
theorem g8_end25 {H : Blk} (wH : wfH H) : ∀ (k j n : Nat) (f : Nat → Int32), j + k = hM H → k < n → f 0 = nI (hM H) → ∃ f', f_X8_night_25 n (blk b (mdL b (sB m 0 f) l r) h) b (nI j) = some (blk b (mdL b (sB m 0 f') l r) h) ∧ (∀ q, ¬ (91 + 7 * j ≤ q ∧ q < 91 + 7 * hM H) → f' q = f q) ∧ ∀ c, j ≤ c → c < hM H → f' (91 + 7 * c) = f (91 + 7 * c) ∧ f' (91 + 7 * c + 1) = f (91 + 7 * c + 1) ∧ f' (91 + 7 * c + 2) = f (91 + 7 * c + 2) ∧ f' (91 + 7 * c + 3) = m.2 5 c ∧ f' (91 + 7 * c + 4) = m.2 6 c ∧ f' (91 + 7 * c + 5) = m.2 7 c ∧ f' (91 + 7 * c + 6) = 0 := by
  have hm := wH.2.1
  intro k
  induction k with
  | zero =>
    intro j n f hj hn h0
    obtain ⟨n, rfl⟩ : ∃ q, n = q + 1 := ⟨n - 1, by omega⟩
    have z0 : (sB m 0 f).2 0 0 = nI (hM H) := h0
    exact ⟨f, by rw [f_X8_night_25, md_o (blk_at _ _ _), b_some, g8_heirs (blk_at _ _ _), b_some, z0, if_pos (nI_le (by omega) (by omega))], fun _ _ => rfl, fun c h1 h2 => by omega⟩
  | succ k ih =>
    intro j n f hj hn h0
    obtain ⟨n, rfl⟩ : ∃ q, n = q + 1 := ⟨n - 1, by omega⟩
    have z0 : (sB m 0 f).2 0 0 = nI (hM H) := h0
    have hj6 : j < 6 := by omega
    have s3 := fun f x => now_set (h := h) (b := b) (m := m) (l := l) (r := r) (f := f) (i := j) (j := 3) (x := x) hj6 (by omega)
    have s4 := fun f x => now_set (h := h) (b := b) (m := m) (l := l) (r := r) (f := f) (i := j) (j := 4) (x := x) hj6 (by omega)
    have s5 := fun f x => now_set (h := h) (b := b) (m := m) (l := l) (r := r) (f := f) (i := j) (j := 5) (x := x) hj6 (by omega)
    have s6 := fun f x => now_set (h := h) (b := b) (m := m) (l := l) (r := r) (f := f) (i := j) (j := 6) (x := x) hj6 (by omega)
    simp only [show nI 3 = 3 from rfl] at s3
    simp only [show nI 4 = 4 from rfl] at s4
    simp only [show nI 5 = 5 from rfl] at s5
    simp only [show nI 6 = 6 from rfl] at s6
    obtain ⟨f', e2, k1, k2⟩ := ih (j + 1) n (upd (upd (upd (upd f (91 + 7 * j + 3) (m.2 5 j)) (91 + 7 * j + 4) (m.2 6 j)) (91 + 7 * j + 5) (m.2 7 j)) (91 + 7 * j + 6) 0) (by omega) (by omega) (by rw [upd_v, if_neg (by omega), upd_v, if_neg (by omega), upd_v, if_neg (by omega), upd_v, if_neg (by omega), h0])
    have lo : ∀ q, ¬ (91 + 7 * j + 3 ≤ q ∧ q < 91 + 7 * j + 7) → (upd (upd (upd (upd f (91 + 7 * j + 3) (m.2 5 j)) (91 + 7 * j + 4) (m.2 6 j)) (91 + 7 * j + 5) (m.2 7 j)) (91 + 7 * j + 6) 0) q = f q := fun q hq => by
      rw [upd_v, if_neg (by omega), upd_v, if_neg (by omega), upd_v, if_neg (by omega), upd_v, if_neg (by omega)]
    have r5 : ∀ f : Nat → Int32, (sB m 0 f).2 5 j = m.2 5 j := fun _ => rfl
    have r6 : ∀ f : Nat → Int32, (sB m 0 f).2 6 j = m.2 6 j := fun _ => rfl
    have r7 : ∀ f : Nat → Int32, (sB m 0 f).2 7 j = m.2 7 j := fun _ => rfl
    refine ⟨f', ?_, fun q hq => ?_, fun c h1 h2 => ?_⟩
    · rw [f_X8_night_25, md_o (blk_at _ _ _), b_some, g8_heirs (blk_at _ _ _), b_some, z0, if_neg (nI_ge (by omega) (by omega)), md_f9 (blk_at _ _ _), b_some, md_m6 (blk_at _ _ _) hj6, b_some, r5, b_some, s3, b_some, md_f10 (blk_at _ _ _), b_some, md_m7 (blk_at _ _ _) hj6, b_some, r6, md_o (blk_at _ _ _), b_some, s4, b_some, md_f11 (blk_at _ _ _), b_some, md_m8 (blk_at _ _ _) hj6, b_some, r7, md_o (blk_at _ _ _), b_some, s5, b_some, md_o (blk_at _ _ _), b_some, s6, b_some, nI_1, e2]
    · rw [k1 q (by omega), lo q (by omega)]
    · by_cases e : c = j
      · subst e
        refine ⟨?_, ?_, ?_, ?_, ?_, ?_, ?_⟩
        · rw [k1 _ (by omega), lo _ (by omega)]
        · rw [k1 _ (by omega), lo _ (by omega)]
        · rw [k1 _ (by omega), lo _ (by omega)]
        · rw [k1 _ (by omega), upd_v, if_neg (by omega), upd_v, if_neg (by omega), upd_v, if_neg (by omega), upd_v, if_pos rfl]
        · rw [k1 _ (by omega), upd_v, if_neg (by omega), upd_v, if_neg (by omega), upd_v, if_pos rfl]
        · rw [k1 _ (by omega), upd_v, if_neg (by omega), upd_v, if_pos rfl]
        · rw [k1 _ (by omega), upd_v, if_pos rfl]
      · obtain ⟨a1, a2, a3, a4, a5, a6, a7⟩ := k2 c (by omega) h2
        exact ⟨by rw [a1, lo _ (by omega)], by rw [a2, lo _ (by omega)], by rw [a3, lo _ (by omega)], a4, a5, a6, a7⟩
end
