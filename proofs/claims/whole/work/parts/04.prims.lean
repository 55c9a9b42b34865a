/-! ===== the abstract heap and its functions (no machine in here) ===== -/
/-- what a cell holds: an array (its kind: 0 int, 1 byte, 2 boolean, 3 long, 4 House, 5 Past, 6 Scene), or an object (its class's number, its fields) -/
abbrev Cel : Type := (Nat × vp_A) ⊕ (Nat × List Value)
/-- the next free address, and what lies where -/
abbrev Hea : Type := Nat × (Nat → Option Cel)
def hup (h : Hea) (a : Nat) (c : Cel) : Hea := (h.1, fun q => if q = a then some c else h.2 q)
def hnew (h : Hea) (c : Cel) : Hea := (h.1 + 1, fun q => if q = h.1 then some c else h.2 q)
/-- a row of ints (bytes, booleans), of longs, of references -/
abbrev cI (k n : Nat) (f : Nat → Int32) : Cel := .inl (k, n, .inl f)
abbrev cJ (n : Nat) (f : Nat → Int64) : Cel := .inl (3, n, .inr (.inl f))
abbrev cR (k n : Nat) (f : Nat → Option Nat) : Cel := .inl (k, n, .inr (.inr (.inr (.inr f))))
abbrev cO (ci : Nat) (fs : List Value) : Cel := .inr (ci, fs)
/-- an object of the class ci? -/
def isO (h : Hea) (a ci : Nat) : Option Unit := match h.2 a with
  | some (.inr (c, _)) => if c = ci then some () else none
  | _ => none
def gV (h : Hea) (a ci k : Nat) : Option Value := match h.2 a with
  | some (.inr (c, fs)) => if c = ci then fs[k]? else none
  | _ => none
def gI (h : Hea) (a ci k : Nat) : Option Int32 := match gV h a ci k with
  | some (.int x) => some x
  | _ => none
def gJ (h : Hea) (a ci k : Nat) : Option Int64 := match gV h a ci k with
  | some (.long x) => some x
  | _ => none
def gR (h : Hea) (a ci k : Nat) : Option Nat := match gV h a ci k with
  | some (.ref x) => some x
  | _ => none
def pV (h : Hea) (a ci k : Nat) (v : Value) : Option Hea := match h.2 a with
  | some (.inr (c, fs)) => if c = ci ∧ k < fs.length then some (hup h a (cO c (fs.set k v))) else none
  | _ => none
abbrev pI (h : Hea) (a ci k : Nat) (x : Int32) : Option Hea := pV h a ci k (.int x)
abbrev pJ (h : Hea) (a ci k : Nat) (x : Int64) : Option Hea := pV h a ci k (.long x)
abbrev pR (h : Hea) (a ci k : Nat) (x : Nat) : Option Hea := pV h a ci k (.ref x)
/-- is the place in the row? -/
def inR (i : Int32) (n : Nat) : Bool := decide (0 ≤ i) && decide (i.toNatClampNeg < n)
def ldI (h : Hea) (kd a : Nat) (i : Int32) : Option Int32 := match h.2 a with
  | some (.inl (k, n, .inl f)) => if k = kd ∧ inR i n = true then some (f i.toNatClampNeg) else none
  | _ => none
def ldJ (h : Hea) (a : Nat) (i : Int32) : Option Int64 := match h.2 a with
  | some (.inl (k, n, .inr (.inl f))) => if k = 3 ∧ inR i n = true then some (f i.toNatClampNeg) else none
  | _ => none
def ldR (h : Hea) (kd a : Nat) (i : Int32) : Option Nat := match h.2 a with
  | some (.inl (k, n, .inr (.inr (.inr (.inr f))))) => if k = kd ∧ inR i n = true then f i.toNatClampNeg else none
  | _ => none
def stI (h : Hea) (kd a : Nat) (i x : Int32) : Option Hea := match h.2 a with
  | some (.inl (k, n, .inl f)) => if k = kd ∧ inR i n = true then some (hup h a (cI k n (upd f i.toNatClampNeg x))) else none
  | _ => none
def stB (h : Hea) (a : Nat) (i x : Int32) : Option Hea := match h.2 a with
  | some (.inl (k, n, .inl f)) => if k = 1 ∧ inR i n = true then some (hup h a (cI k n (upd f i.toNatClampNeg (vp_nar .byte x)))) else none
  | _ => none
def stZ (h : Hea) (a : Nat) (i x : Int32) : Option Hea := match h.2 a with
  | some (.inl (k, n, .inl f)) => if k = 2 ∧ inR i n = true then some (hup h a (cI k n (upd f i.toNatClampNeg (vp_nar .boolean x)))) else none
  | _ => none
def stJ (h : Hea) (a : Nat) (i : Int32) (x : Int64) : Option Hea := match h.2 a with
  | some (.inl (k, n, .inr (.inl f))) => if k = 3 ∧ inR i n = true then some (hup h a (cJ n (vp_updL f i.toNatClampNeg x))) else none
  | _ => none
def stR (h : Hea) (kd ci a : Nat) (i : Int32) (x : Nat) : Option Hea := match h.2 a, h.2 x with
  | some (.inl (k, n, .inr (.inr (.inr (.inr f))))), some (.inr (c, _)) => if k = kd ∧ c = ci ∧ inR i n = true then some (hup h a (cR k n (va_up f i.toNatClampNeg (some x)))) else none
  | _, _ => none
def alen (h : Hea) (kd a : Nat) : Option Int32 := match h.2 a with
  | some (.inl (k, n, _)) => if k = kd ∧ n < 2147483648 then some (Int32.ofNat n) else none
  | _ => none
/-- System.arraycopy of whole starts: from place 0 to place 0, n of them -/
def cpI (h : Hea) (a b : Nat) (n : Int32) : Option Hea := match h.2 a, h.2 b with
  | some (.inl (k, n0, .inl f)), some (.inl (k1, n1, .inl g)) => if k = 0 ∧ k1 = 0 ∧ 0 ≤ n ∧ n.toNatClampNeg ≤ n0 ∧ n.toNatClampNeg ≤ n1 then some (hup h b (cI 0 n1 (va_cpy f g 0 0 n.toNatClampNeg))) else none
  | _, _ => none
def cpJ (h : Hea) (a b : Nat) (n : Int32) : Option Hea := match h.2 a, h.2 b with
  | some (.inl (k, n0, .inr (.inl f))), some (.inl (k1, n1, .inr (.inl g))) => if k = 3 ∧ k1 = 3 ∧ 0 ≤ n ∧ n.toNatClampNeg ≤ n0 ∧ n.toNatClampNeg ≤ n1 then some (hup h b (cJ n1 (va_cpy f g 0 0 n.toNatClampNeg))) else none
  | _, _ => none
def nwO (h : Hea) (c : Cel) : Option (Nat × Hea) := some (h.1, hnew h c)
def nz (y : Int32) : Option Unit := if y = 0 then none else some ()
def nzJ (y : Int64) : Option Unit := if y = 0 then none else some ()
/-- how often a loop may turn: far above what any needs -/
def lots : Nat := 1000
/-- a truth value: 0 or 1 -/
def zb (x : Int32) : Option Int32 := if x = 0 ∨ x = 1 then some x else none
/-- String constants by their places: room, door, list, heir, house -/
def lenS : List Nat := [4, 4, 4, 4, 5]
def bytS : List (List Int32) := [[114, 111, 111, 109], [100, 111, 111, 114], [108, 105, 115, 116], [104, 101, 105, 114], [104, 111, 117, 115, 101]]
def sLen (w : Nat) : Option Int32 := if w < 5 then some (Int32.ofNat (lenS.getD w 0)) else none
def sCh (w : Nat) (i : Int32) : Option Int32 := if w < 5 ∧ inR i (lenS.getD w 0) = true then some ((bytS.getD w []).getD i.toNatClampNeg 0) else none
/-- the script -/
def sLd (L : Nat) (xs : Nat → Int32) (i : Int32) : Option Int32 := if inR i L = true then some (xs i.toNatClampNeg) else none
def bind2 {α β ρ : Type} (A : Option (α × β)) (K : α → β → Option ρ) : Option ρ := match A with
  | some (x, y) => K x y
  | none => none
def bind3 {α β γ ρ : Type} (A : Option (α × β × γ)) (K : α → β → γ → Option ρ) : Option ρ := match A with
  | some (x, y, z) => K x y z
  | none => none
def bind4 {α β γ δ ρ : Type} (A : Option (α × β × γ × δ)) (K : α → β → γ → δ → Option ρ) : Option ρ := match A with
  | some (x, y, z, u) => K x y z u
  | none => none
def bind5 {α β γ δ ε ρ : Type} (A : Option (α × β × γ × δ × ε)) (K : α → β → γ → δ → ε → Option ρ) : Option ρ := match A with
  | some (x, y, z, u, v) => K x y z u v
  | none => none
theorem itp0 {α : Type} {c : Prop} [Decidable c] {A B : Option α} {o : α} (hc : c) (hf : (if c then A else B) = some o) : A = some o := by rwa [if_pos hc] at hf
theorem itn0 {α : Type} {c : Prop} [Decidable c] {A B : Option α} {o : α} (hc : ¬ c) (hf : (if c then A else B) = some o) : B = some o := by rwa [if_neg hc] at hf
theorem bnd {α β : Type} {A : Option α} {K : α → Option β} {o : β} (hf : A.bind K = some o) : ∃ x, A = some x ∧ K x = some o := Option.bind_eq_some_iff.mp hf
theorem bnd2 {α β ρ : Type} {A : Option (α × β)} {K : α → β → Option ρ} {o : ρ} (hf : bind2 A K = some o) : ∃ x y, A = some (x, y) ∧ K x y = some o := by
  cases A with
  | none => cases hf
  | some q => exact ⟨q.1, q.2, rfl, hf⟩
theorem reg1 {α ρ : Type} {A : Option α} {K : α → Option ρ} {o : ρ} {G : Prop} (Q : α → Prop) (hf : A.bind K = some o) (hJ : ∀ x, K x = some o → Q x) (hb : ∀ x, A = some x → Q x → G) : G := by
  cases A with
  | none => cases hf
  | some q => exact hb q rfl (hJ q hf)
theorem reg2 {α β ρ : Type} {A : Option (α × β)} {K : α → β → Option ρ} {o : ρ} {G : Prop} (Q : α → β → Prop) (hf : bind2 A K = some o) (hJ : ∀ x y, K x y = some o → Q x y) (hb : ∀ x y, A = some (x, y) → Q x y → G) : G := by
  cases A with
  | none => cases hf
  | some q => exact hb q.1 q.2 rfl (hJ q.1 q.2 hf)
theorem reg3 {α β γ ρ : Type} {A : Option (α × β × γ)} {K : α → β → γ → Option ρ} {o : ρ} {G : Prop} (Q : α → β → γ → Prop) (hf : bind3 A K = some o) (hJ : ∀ x y z, K x y z = some o → Q x y z) (hb : ∀ x y z, A = some (x, y, z) → Q x y z → G) : G := by
  cases A with
  | none => cases hf
  | some q => exact hb q.1 q.2.1 q.2.2 rfl (hJ q.1 q.2.1 q.2.2 hf)
theorem reg4 {α β γ δ ρ : Type} {A : Option (α × β × γ × δ)} {K : α → β → γ → δ → Option ρ} {o : ρ} {G : Prop} (Q : α → β → γ → δ → Prop) (hf : bind4 A K = some o) (hJ : ∀ x y z u, K x y z u = some o → Q x y z u) (hb : ∀ x y z u, A = some (x, y, z, u) → Q x y z u → G) : G := by
  cases A with
  | none => cases hf
  | some q => exact hb q.1 q.2.1 q.2.2.1 q.2.2.2 rfl (hJ q.1 q.2.1 q.2.2.1 q.2.2.2 hf)
theorem reg5 {α β γ δ ε ρ : Type} {A : Option (α × β × γ × δ × ε)} {K : α → β → γ → δ → ε → Option ρ} {o : ρ} {G : Prop} (Q : α → β → γ → δ → ε → Prop) (hf : bind5 A K = some o) (hJ : ∀ x y z u v, K x y z u v = some o → Q x y z u v) (hb : ∀ x y z u v, A = some (x, y, z, u, v) → Q x y z u v → G) : G := by
  cases A with
  | none => cases hf
  | some q => exact hb q.1 q.2.1 q.2.2.1 q.2.2.2.1 q.2.2.2.2 rfl (hJ q.1 q.2.1 q.2.2.1 q.2.2.2.1 q.2.2.2.2 hf)
theorem so1 {α : Type} {a x : α} (h : some a = some x) : x = a := (Option.some.inj h).symm
theorem so2 {α β : Type} {a x : α} {b y : β} (h : some (a, b) = some (x, y)) : x = a ∧ y = b := by
  have := Option.some.inj h
  simp only [Prod.mk.injEq] at this
  exact ⟨this.1.symm, this.2.symm⟩
theorem so3 {α β γ : Type} {a x : α} {b y : β} {c z : γ} (h : some (a, b, c) = some (x, y, z)) : x = a ∧ y = b ∧ z = c := by
  have := Option.some.inj h
  simp only [Prod.mk.injEq] at this
  exact ⟨this.1.symm, this.2.1.symm, this.2.2.symm⟩
theorem so4 {α β γ δ : Type} {a x : α} {b y : β} {c z : γ} {d u : δ} (h : some (a, b, c, d) = some (x, y, z, u)) : x = a ∧ y = b ∧ z = c ∧ u = d := by
  have := Option.some.inj h
  simp only [Prod.mk.injEq] at this
  exact ⟨this.1.symm, this.2.1.symm, this.2.2.1.symm, this.2.2.2.symm⟩
theorem so5 {α β γ δ ε : Type} {a x : α} {b y : β} {c z : γ} {d u : δ} {e v : ε} (h : some (a, b, c, d, e) = some (x, y, z, u, v)) : x = a ∧ y = b ∧ z = c ∧ u = d ∧ v = e := by
  have := Option.some.inj h
  simp only [Prod.mk.injEq] at this
  exact ⟨this.1.symm, this.2.1.symm, this.2.2.1.symm, this.2.2.2.1.symm, this.2.2.2.2.symm⟩
