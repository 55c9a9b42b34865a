/-! ===== what a night is ===== -/
def anyF (P : Nat → Bool) : Nat → Nat → Bool
  | _, 0 => false
  | j, k + 1 => P j || anyF P (j + 1) k
/-- how many heirs, how many rooms of the list, which night -/
def hM (H : Blk) : Nat := (H.1 3).toNatClampNeg
def hL (H : Blk) : Nat := (H.1 2).toNatClampNeg
def sN (s : Blk) : Nat := (s.1 0).toNatClampNeg
def comp (H s : Blk) (i : Nat) : Bool := anyF (fun j => decide (¬ j = i ∧ s.2 2 j = 0 ∧ s.2 0 j = s.2 0 i)) 0 (hM H)
def pos0 (x : Int32) : Int32 := if 0 < x then x else 0
def le5 (x : Int32) : Int32 := if x < 5 then x else 5
def plainOf (H s : Blk) (i : Nat) : Int32 := H.2 0 (s.2 0 i).toNatClampNeg + H.2 4 i
def hid (H s : Blk) (i : Nat) : Int32 :=
  if H.2 3 i = 1 then pos0 (plainOf H s i - 3) else
  if H.2 3 i = 2 then (if comp H s i = true then plainOf H s i / 2 else plainOf H s i) else
  if H.2 3 i = 3 then plainOf H s i + le5 (s.2 1 i) else
  if H.2 3 i = 4 then (if s.2 1 i = 0 then pos0 (pos0 (plainOf H s i - 3) - 2) else pos0 (plainOf H s i - 3)) else
  if H.2 3 i = 5 then (if plainOf H s i + le5 (s.2 1 i) < H.1 1 then plainOf H s i + le5 (s.2 1 i) else H.1 1) else
  plainOf H s i
def lk (H : Blk) (n : Nat) : Int32 := if n % 7 = 6 then H.2 2 (hL H - 1 - n % hL H) else H.2 2 (n % hL H)
def isOut (H s : Blk) (i : Nat) : Bool := decide (i < hM H ∧ s.2 2 i = 0 ∧ hid H s i < H.1 1)
def isIn (H s : Blk) (i : Nat) : Bool := decide (i < hM H ∧ s.2 2 i = 0 ∧ s.2 0 i = lk H (sN s))
def isSee (H s : Blk) (i : Nat) : Bool := isIn H s i && !isOut H s i
def isFnd (H s : Blk) (ey : Int32) (i : Nat) : Bool := isSee H s i && decide (hid H s i < ey)
def bitsF (P : Nat → Bool) : Nat → Int32
  | 0 => 0
  | n + 1 => if P n then bitsF P n ||| ((1 : Int32) <<< (nI n &&& 31)) else bitsF P n
theorem bitsF_s (P : Nat → Bool) (n : Nat) : bitsF P (n + 1) = if P n then bitsF P n ||| ((1 : Int32) <<< (nI n &&& 31)) else bitsF P n := rfl
/-- who is found in the night -/
def fnd (H s : Blk) (ey : Int32) : Int32 := bitsF (isFnd H s ey) 6
/-- the scene behind the night -/
def nightS (H : Blk) (ey : Int32) (s : Blk) : Blk :=
  (upd s.1 0 (s.1 0 + 1), fun j q => if q < hM H then
    (if j = 1 then (if s.2 2 q = 0 ∧ isOut H s q = false ∧ isFnd H s ey q = false then s.2 1 q + 1 else s.2 1 q) else
     if j = 2 then (if isOut H s q = true then 1 else if isFnd H s ey q = true then 2 else s.2 2 q) else
     if j = 3 then (if isOut H s q = true ∨ isFnd H s ey q = true then s.1 0 else s.2 3 q) else
     if j = 4 then 0 else s.2 j q) else s.2 j q)
/-! bits -/
def val6 (b0 b1 b2 b3 b4 b5 : Bool) : Int32 := bitsF (fun i => if i = 0 then b0 else if i = 1 then b1 else if i = 2 then b2 else if i = 3 then b3 else if i = 4 then b4 else b5) 6
theorem val6_eq (P : Nat → Bool) : bitsF P 6 = val6 (P 0) (P 1) (P 2) (P 3) (P 4) (P 5) := by
  simp [val6, bitsF]
theorem val6_tst : ∀ b0 b1 b2 b3 b4 b5 : Bool, ∀ i, i < 6 → (((val6 b0 b1 b2 b3 b4 b5 >>> (nI i &&& 31)) &&& 1 = 1) ↔ (if i = 0 then b0 else if i = 1 then b1 else if i = 2 then b2 else if i = 3 then b3 else if i = 4 then b4 else b5) = true) := by decide +kernel
theorem val6_andn : ∀ b0 b1 b2 b3 b4 b5 c0 c1 c2 c3 c4 c5 : Bool, val6 b0 b1 b2 b3 b4 b5 &&& (val6 c0 c1 c2 c3 c4 c5 ^^^ (-1)) = val6 (b0 && !c0) (b1 && !c1) (b2 && !c2) (b3 && !c3) (b4 && !c4) (b5 && !c5) := by decide +kernel
theorem bits_tst (P : Nat → Bool) {i : Nat} (hi : i < 6) : ((bitsF P 6 >>> (nI i &&& 31)) &&& 1 = 1) ↔ P i = true := by
  rw [val6_eq, val6_tst _ _ _ _ _ _ i hi]
  rcases (show i = 0 ∨ i = 1 ∨ i = 2 ∨ i = 3 ∨ i = 4 ∨ i = 5 by omega) with rfl | rfl | rfl | rfl | rfl | rfl <;> simp
theorem bits_andn (P Q : Nat → Bool) : bitsF P 6 &&& (bitsF Q 6 ^^^ (-1)) = bitsF (fun i => P i && !Q i) 6 := by
  rw [val6_eq P, val6_eq Q, val6_andn, val6_eq]
theorem bits_low (P : Nat → Bool) {m : Nat} (hP : ∀ i, m ≤ i → P i = false) : ∀ k, bitsF P (m + k) = bitsF P m := by
  intro k
  induction k with
  | zero => rfl
  | succ k ih =>
    rw [← Nat.add_assoc, bitsF, hP (m + k) (by omega), ih]
    rfl
theorem bits_6 (P : Nat → Bool) {m : Nat} (hm : m ≤ 6) (hP : ∀ i, m ≤ i → P i = false) : bitsF P m = bitsF P 6 := by
  have := bits_low P hP (6 - m)
  rw [show m + (6 - m) = 6 by omega] at this
  exact this.symm
/-- what is known of a house and a scene -/
def wfH (H : Blk) : Prop := H.1 3 = nI (hM H) ∧ hM H ≤ 6 ∧ H.1 2 = nI (hL H) ∧ 1 ≤ hL H ∧ hL H ≤ 12
def wfS (H s : Blk) : Prop := s.1 0 = nI (sN s) ∧ sN s < 1000000 ∧ ∀ i, i < hM H → inR (s.2 0 i) 8 = true
