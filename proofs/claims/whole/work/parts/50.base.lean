/-! ===== the pure half: blocks of cells ===== -/
/-- the cells f lie from b on -/
def At (h : Hea) (b : Nat) (f : Nat → Option Cel) : Prop := ∀ k c, f k = some c → h.2 (b + k) = some c
/-- h, with the cells f from b on -/
def blk (b : Nat) (f : Nat → Option Cel) (h : Hea) : Hea := (h.1, fun q => if b ≤ q then (match f (q - b) with | some c => some c | none => h.2 q) else h.2 q)
theorem blk_1 (b : Nat) (f : Nat → Option Cel) (h : Hea) : (blk b f h).1 = h.1 := rfl
theorem blk_in {b : Nat} {f : Nat → Option Cel} {h : Hea} {k : Nat} {c : Cel} (e : f k = some c) : (blk b f h).2 (b + k) = some c := by
  simp only [blk, if_pos (Nat.le_add_right b k), Nat.add_sub_cancel_left, e]
theorem blk_out {b : Nat} {f : Nat → Option Cel} {h : Hea} {q : Nat} (e : ∀ k, q = b + k → f k = none) : (blk b f h).2 q = h.2 q := by
  by_cases hb : b ≤ q
  · simp only [blk, if_pos hb, e (q - b) (by omega)]
  · simp only [blk, if_neg hb]
theorem blk_at (b : Nat) (f : Nat → Option Cel) (h : Hea) : At (blk b f h) b f := fun _ _ e => blk_in e
theorem At.eq {h : Hea} {b : Nat} {f : Nat → Option Cel} (a : At h b f) : blk b f h = h := by
  refine Prod.ext rfl (funext fun q => ?_)
  by_cases hb : b ≤ q
  · simp only [blk, if_pos hb]
    cases e : f (q - b) with
    | none => rfl
    | some c =>
      have := a _ _ e
      rw [show b + (q - b) = q by omega] at this
      exact this.symm
  · simp only [blk, if_neg hb]
theorem At.blk {h : Hea} {b b' : Nat} {f f' : Nat → Option Cel} (a : At h b f) (hd : ∀ k k', b + k = b' + k' → f k = none ∨ f' k' = none) : At (blk b' f' h) b f := by
  intro k c e
  rw [blk_out, a k c e]
  intro k' e'
  rcases hd k k' e' with q | q
  · rw [q] at e; cases e
  · exact q
theorem blk_ext {b : Nat} {f f' : Nat → Option Cel} {h : Hea} (e : ∀ k, f k = f' k) : blk b f h = blk b f' h := by rw [funext e]
theorem blk_blk {b : Nat} {f f' : Nat → Option Cel} {h : Hea} (e : ∀ k, f' k = none → f k = none) : blk b f' (blk b f h) = blk b f' h := by
  refine Prod.ext rfl (funext fun q => ?_)
  by_cases hb : b ≤ q
  · simp only [blk, if_pos hb]
    cases e' : f' (q - b) with
    | some c => rfl
    | none => simp only [e _ e']
  · simp only [blk, if_neg hb]
theorem blk_hup {b : Nat} {f f' : Nat → Option Cel} {h : Hea} {k : Nat} {c : Cel} (e : ∀ j, f' j = if j = k then some c else f j) : hup (blk b f h) (b + k) c = blk b f' h := by
  refine Prod.ext rfl (funext fun q => ?_)
  by_cases hb : b ≤ q
  · simp only [hup, blk, if_pos hb, e]
    by_cases hq : q = b + k
    · subst hq
      simp
    · rw [if_neg hq, if_neg (show ¬ q - b = k by omega)]
  · simp only [hup, blk, if_neg hb, if_neg (show ¬ q = b + k by omega)]
/-! numbers -/
theorem inR_nI {i n : Nat} (h : i < n) (hn : n < 2147483648) : inR (nI i) n = true := by
  simp only [inR, Bool.and_eq_true, decide_eq_true_eq]
  rw [nI_clamp (by omega)]
  exact ⟨nI_pos' (by omega), h⟩
theorem inR_of {x : Int32} {n : Nat} (h : inR x n = true) (hn : n < 2147483648) : ∃ j : Nat, j < n ∧ x = nI j := by
  simp only [inR, Bool.and_eq_true, decide_eq_true_eq] at h
  obtain ⟨j, hj, rfl⟩ := nI_of (Int32.not_lt.mpr h.1)
  rw [nI_clamp hj] at h
  exact ⟨j, h.2, rfl⟩
theorem lit_nI (n : Nat) : (OfNat.ofNat n : Int32) = nI n := rfl
/-! reading a block -/
theorem at_0 {h : Hea} {b : Nat} {f : Nat → Option Cel} {c : Cel} (a : At h b f) (e : f 0 = some c) : h.2 b = some c := a 0 c e
theorem isO_at {h : Hea} {b ci : Nat} {fs : List Value} (a : h.2 b = some (cO ci fs)) : isO h b ci = some () := by simp only [isO, a, if_true]
theorem gI_at {h : Hea} {b ci k : Nat} {fs : List Value} {x : Int32} (a : h.2 b = some (cO ci fs)) (e : fs[k]? = some (.int x)) : gI h b ci k = some x := by simp only [gI, gV, a, if_true, e]
theorem gJ_at {h : Hea} {b ci k : Nat} {fs : List Value} {x : Int64} (a : h.2 b = some (cO ci fs)) (e : fs[k]? = some (.long x)) : gJ h b ci k = some x := by simp only [gJ, gV, a, if_true, e]
theorem gR_at {h : Hea} {b ci k : Nat} {fs : List Value} {x : Nat} (a : h.2 b = some (cO ci fs)) (e : fs[k]? = some (.ref x)) : gR h b ci k = some x := by simp only [gR, gV, a, if_true, e]
theorem pV_at {h : Hea} {b ci k : Nat} {fs : List Value} {v : Value} (a : h.2 b = some (cO ci fs)) (e : k < fs.length) : pV h b ci k v = some (hup h b (cO ci (fs.set k v))) := by simp only [pV, a, true_and, if_pos e]
theorem ldI_at {h : Hea} {q kd n : Nat} {f : Nat → Int32} {i : Int32} (a : h.2 q = some (cI kd n f)) (hi : inR i n = true) : ldI h kd q i = some (f i.toNatClampNeg) := by simp only [ldI, a, true_and, if_pos hi]
theorem ldN_at {h : Hea} {q kd n : Nat} {f : Nat → Int32} {i : Nat} (a : h.2 q = some (cI kd n f)) (hi : i < n) (hn : n < 2147483648) : ldI h kd q (nI i) = some (f i) := by rw [ldI_at a (inR_nI hi hn), nI_clamp (by omega)]
theorem stI_at {h : Hea} {q kd n : Nat} {f : Nat → Int32} {i x : Int32} (a : h.2 q = some (cI kd n f)) (hi : inR i n = true) : stI h kd q i x = some (hup h q (cI kd n (upd f i.toNatClampNeg x))) := by simp only [stI, a, true_and, if_pos hi]
theorem stN_at {h : Hea} {q kd n : Nat} {f : Nat → Int32} {i : Nat} {x : Int32} (a : h.2 q = some (cI kd n f)) (hi : i < n) (hn : n < 2147483648) : stI h kd q (nI i) x = some (hup h q (cI kd n (upd f i x))) := by rw [stI_at a (inR_nI hi hn), nI_clamp (by omega)]
theorem ldJN_at {h : Hea} {q n : Nat} {f : Nat → Int64} {i : Nat} (a : h.2 q = some (cJ n f)) (hi : i < n) (hn : n < 2147483648) : ldJ h q (nI i) = some (f i) := by
  simp only [ldJ, a, true_and, if_pos (inR_nI hi hn), nI_clamp (show i < 2 ^ 31 by omega)]
theorem stJN_at {h : Hea} {q n : Nat} {f : Nat → Int64} {i : Nat} {x : Int64} (a : h.2 q = some (cJ n f)) (hi : i < n) (hn : n < 2147483648) : stJ h q (nI i) x = some (hup h q (cJ n (vp_updL f i x))) := by
  simp only [stJ, a, true_and, if_pos (inR_nI hi hn), nI_clamp (show i < 2 ^ 31 by omega)]
theorem ldRN_at {h : Hea} {q kd n : Nat} {f : Nat → Option Nat} {i : Nat} (a : h.2 q = some (cR kd n f)) (hi : i < n) (hn : n < 2147483648) : ldR h kd q (nI i) = f i := by
  simp only [ldR, a, true_and, if_pos (inR_nI hi hn), nI_clamp (show i < 2 ^ 31 by omega)]
theorem cpI_at {h : Hea} {p q n n0 n1 : Nat} {f g : Nat → Int32} (a : h.2 p = some (cI 0 n0 f)) (a' : h.2 q = some (cI 0 n1 g)) (h0 : n ≤ n0) (h1 : n ≤ n1) (hn : n < 2147483648) : cpI h p q (nI n) = some (hup h q (cI 0 n1 (va_cpy f g 0 0 n))) := by
  simp only [cpI, a, a', true_and, nI_clamp (show n < 2 ^ 31 by omega), nI_pos' (show n < 2 ^ 31 by omega), h0, h1, and_self, if_true]
theorem cpJ_at {h : Hea} {p q n n0 n1 : Nat} {f g : Nat → Int64} (a : h.2 p = some (cJ n0 f)) (a' : h.2 q = some (cJ n1 g)) (h0 : n ≤ n0) (h1 : n ≤ n1) (hn : n < 2147483648) : cpJ h p q (nI n) = some (hup h q (cJ n1 (va_cpy f g 0 0 n))) := by
  simp only [cpJ, a, a', true_and, nI_clamp (show n < 2 ^ 31 by omega), nI_pos' (show n < 2 ^ 31 by omega), h0, h1, and_self, if_true]
/-! a block's contents: numbers, rows -/
abbrev Blk : Type := (Nat → Int32) × (Nat → Nat → Int32)
def sS (s : Blk) (k : Nat) (x : Int32) : Blk := (upd s.1 k x, s.2)
def sA (s : Blk) (k i : Nat) (x : Int32) : Blk := (s.1, fun j => if j = k then upd (s.2 k) i x else s.2 j)
def sB (s : Blk) (k : Nat) (f : Nat → Int32) : Blk := (s.1, fun j => if j = k then f else s.2 j)
theorem sS_1 (s : Blk) (k : Nat) (x : Int32) (j : Nat) : (sS s k x).1 j = if j = k then x else s.1 j := rfl
theorem sS_2 (s : Blk) (k : Nat) (x : Int32) : (sS s k x).2 = s.2 := rfl
theorem sA_1 (s : Blk) (k i : Nat) (x : Int32) : (sA s k i x).1 = s.1 := rfl
theorem sA_2 (s : Blk) (k i : Nat) (x : Int32) (j q : Nat) : (sA s k i x).2 j q = if j = k ∧ q = i then x else s.2 j q := by
  simp only [sA]
  by_cases h : j = k
  · subst h
    simp [upd]
  · simp [h]
theorem sB_1 (s : Blk) (k : Nat) (f : Nat → Int32) : (sB s k f).1 = s.1 := rfl
theorem sB_2 (s : Blk) (k : Nat) (f : Nat → Int32) (j : Nat) : (sB s k f).2 j = if j = k then f else s.2 j := rfl
theorem b_some {α β : Type} (a : α) (K : α → Option β) : (some a).bind K = K a := rfl
theorem b2_some {α β ρ : Type} (a : α) (b : β) (K : α → β → Option ρ) : bind2 (some (a, b)) K = K a b := rfl
theorem b3_some {α β γ ρ : Type} (a : α) (b : β) (c : γ) (K : α → β → γ → Option ρ) : bind3 (some (a, b, c)) K = K a b c := rfl
