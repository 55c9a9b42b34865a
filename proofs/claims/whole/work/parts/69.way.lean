/-! ===== WayFinder ===== -/
def omin (o : Option Nat) (v : Nat) : Option Nat := match o with
  | none => some v
  | some u => some (if v < u then v else u)
def upO (d : Nat → Option Nat) (q v : Nat) : Nat → Option Nat := fun j => if j = q then omin (d q) v else d j
def Rw (M : Int32) (f : Nat → Int32) (d : Nat → Option Nat) : Prop := ∀ q, q < 48 → f q = encO M 0 (d q)
def bdO (d : Nat → Option Nat) (c : Nat) : Prop := ∀ q v, d q = some v → v ≤ c
def wfC (H : Blk) : Prop := ∀ q, q < 64 → ∃ v, v ≤ 9 ∧ H.2 1 q = nI v
def cn (H : Blk) (q : Nat) : Nat := (H.2 1 q).toNatClampNeg
def m5 (t : Nat) : Nat := if 5 < t then 5 else t
def sprR (H : Blk) (rm c : Nat) : Nat → Nat → (Nat → Option Nat) → Nat → Option Nat
  | 0, _, d => d
  | k + 1, j, d => sprR H rm c k (j + 1) (if H.2 1 (rm * 8 + j) ≤ 0 then d else upO d (j * 6) (c + cn H (rm * 8 + j)))
def sprO (H : Blk) (rm : Nat) (d : Nat → Option Nat) : Option Nat → Nat → Option Nat
  | none => d
  | some c => sprR H rm c 8 0 d
def sprA (H : Blk) (e : Nat → Option Nat) : Nat → Nat → (Nat → Option Nat) → Nat → Option Nat
  | 0, _, d => d
  | k + 1, j, d => sprA H e k (j + 1) (sprO H (j / 6) d (e j))
def setI (s : Blk) (i x y : Nat) : Blk := sA (sA s 0 i (nI x)) 1 i (nI y)
def pasO (H s : Blk) (i : Nat) (lr : Int32) (j : Nat) (p : (Nat → Option Nat) × Option Nat) : Option Nat → (Nat → Option Nat) × Option Nat
  | none => p
  | some c => if H.1 1 ≤ hid H (setI s i (j / 6) (j % 6)) i then (if nI (j / 6) = lr then (if H.1 0 ≤ hid H (setI s i (j / 6) (j % 6)) i then (upO p.1 (j / 6 * 6 + m5 (j % 6 + 1)) c, p.2) else (p.1, omin p.2 c)) else (upO p.1 (j / 6 * 6 + m5 (j % 6 + 1)) c, p.2)) else p
def pas (H s : Blk) (i : Nat) (lr : Int32) (e : Nat → Option Nat) : Nat → Nat → (Nat → Option Nat) × Option Nat → (Nat → Option Nat) × Option Nat
  | 0, _, p => p
  | k + 1, j, p => pas H s i lr e k (j + 1) (pasO H s i lr j p (e j))
def wayE (H s : Blk) (i j : Nat) (d : Nat → Option Nat) : Nat → Option Nat := if 0 < j ∨ s.2 4 i = 0 then sprA H d 48 0 d else d
def wayP (H s : Blk) (i j : Nat) (d : Nat → Option Nat) : (Nat → Option Nat) × Option Nat := pas H s i (lk H (sN s + j)) (wayE H s i j d) 48 0 (fun _ => none, none)
def wayL (H s : Blk) (i : Nat) : Nat → Nat → (Nat → Option Nat) → Option (Nat × Nat)
  | 0, _, _ => none
  | k + 1, j, d => match (wayP H s i j d).2 with
    | some c => some (sN s + j, c)
    | none => wayL H s i k (j + 1) (wayP H s i j d).1
def way0 (s : Blk) (i : Nat) : Nat → Option Nat := fun q => if q = (s.2 0 i).toNatClampNeg * 6 + m5 (s.2 1 i).toNatClampNeg then some 0 else none
theorem omin_lt {Mn v : Nat} {o : Option Nat} (hM : Mn < 2147483648) (hv : v < Mn) (ho : ∀ u, o = some u → u < Mn) : (if nI v < encO (nI Mn) 0 o then nI v else encO (nI Mn) 0 o) = encO (nI Mn) 0 (omin o v) := by
  cases o with
  | none => rw [encO, if_pos (nI_lt hv (by omega)), omin, encO, Nat.zero_add]
  | some u =>
    have := ho u rfl
    rw [encO, omin, encO, Nat.zero_add, Nat.zero_add]
    by_cases h : v < u
    · rw [if_pos h, if_pos (nI_lt h (by omega))]
    · rw [if_neg h, if_neg (nI_nlt (by omega) (by omega))]
theorem omin_le {Mn v : Nat} {o : Option Nat} (hM : Mn < 2147483648) (hv : v < Mn) (ho : ∀ u, o = some u → u < Mn) : (if nI v ≤ encO (nI Mn) 0 o then nI v else encO (nI Mn) 0 o) = encO (nI Mn) 0 (omin o v) := by
  cases o with
  | none => rw [encO, if_pos (nI_le (by omega) (by omega)), omin, encO, Nat.zero_add]
  | some u =>
    have := ho u rfl
    rw [encO, omin, encO, Nat.zero_add, Nat.zero_add]
    by_cases h : v < u
    · rw [if_pos h, if_pos (nI_le (by omega) (by omega))]
    · rw [if_neg h]
      by_cases e : v = u
      · rw [e, if_pos (Int32.le_refl _)]
      · rw [if_neg (nI_ge (by omega) (by omega))]
theorem omin_bnd {o : Option Nat} {v c : Nat} (ho : ∀ u, o = some u → u ≤ c) (hv : v ≤ c) : ∀ u, omin o v = some u → u ≤ c := by
  intro u e
  cases o with
  | none => cases e; exact hv
  | some w =>
    have := ho w rfl
    rw [omin] at e
    cases e
    split <;> omega
theorem upO_bnd {d : Nat → Option Nat} {q v c : Nat} (hd : bdO d c) (hv : v ≤ c) : bdO (upO d q v) c := by
  intro j u e
  rw [upO] at e
  split at e
  · exact omin_bnd (fun u h => hd q u h) hv u e
  · exact hd j u e
theorem Rw_up {M : Int32} {f : Nat → Int32} {d : Nat → Option Nat} {q v : Nat} {x : Int32} (h : Rw M f d) (hx : x = encO M 0 (omin (d q) v)) : Rw M (upd f q x) (upO d q v) := by
  intro j hj
  rw [upO, upd]
  by_cases e : j = q
  · rw [if_pos e, if_pos e, hx]
  · rw [if_neg e, if_neg e]; exact h j hj
theorem sprR_bnd {H : Blk} (wC : wfC H) {rm c : Nat} (hrm : rm < 8) : ∀ (k j : Nat) (d : Nat → Option Nat), j + k ≤ 8 → bdO d (c + 9) → bdO (sprR H rm c k j d) (c + 9) := by
  intro k
  induction k with
  | zero => intro j d _ h; exact h
  | succ k ih =>
    intro j d hj h
    rw [sprR]
    refine ih (j + 1) _ (by omega) ?_
    split
    · exact h
    · obtain ⟨v, hv, e⟩ := wC (rm * 8 + j) (by omega)
      refine upO_bnd h ?_
      rw [cn, e, nI_clamp (by omega)]; omega
theorem bdO.le {d : Nat → Option Nat} {c c' : Nat} (h : bdO d c) (hc : c ≤ c') : bdO d c' := fun q v e => by have := h q v e; omega
theorem sprR_bnd' {H : Blk} (wC : wfC H) {rm c C : Nat} (hrm : rm < 8) (hc : c ≤ C) : ∀ (k j : Nat) (d : Nat → Option Nat), j + k ≤ 8 → bdO d (C + 9) → bdO (sprR H rm c k j d) (C + 9) := by
  intro k
  induction k with
  | zero => intro j d _ h; exact h
  | succ k ih =>
    intro j d hj h
    rw [sprR]
    refine ih (j + 1) _ (by omega) ?_
    split
    · exact h
    · obtain ⟨v, hv, e⟩ := wC (rm * 8 + j) (by omega)
      refine upO_bnd h ?_
      rw [cn, e, nI_clamp (by omega)]; omega
theorem sprA_bnd {H : Blk} (wC : wfC H) {e : Nat → Option Nat} {C : Nat} (he : bdO e C) : ∀ (k j : Nat) (d : Nat → Option Nat), j + k ≤ 48 → bdO d (C + 9) → bdO (sprA H e k j d) (C + 9) := by
  intro k
  induction k with
  | zero => intro j d _ h; exact h
  | succ k ih =>
    intro j d hj h
    rw [sprA]
    refine ih (j + 1) _ (by omega) ?_
    cases q : e j with
    | none => exact h
    | some c => exact sprR_bnd' wC (by omega) (he j c q) 8 0 d (by omega) h
theorem pas_bnd {H s : Blk} {i : Nat} {lr : Int32} {e : Nat → Option Nat} {C : Nat} (he : bdO e C) : ∀ (k j : Nat) (p : (Nat → Option Nat) × Option Nat), bdO p.1 C → (∀ u, p.2 = some u → u ≤ C) → bdO (pas H s i lr e k j p).1 C ∧ ∀ u, (pas H s i lr e k j p).2 = some u → u ≤ C := by
  intro k
  induction k with
  | zero => intro j p h1 h2; exact ⟨h1, h2⟩
  | succ k ih =>
    intro j p h1 h2
    rw [pas]
    have : bdO (pasO H s i lr j p (e j)).1 C ∧ ∀ u, (pasO H s i lr j p (e j)).2 = some u → u ≤ C := by
      cases q : e j with
      | none => exact ⟨h1, h2⟩
      | some c =>
        have hc := he j c q
        rw [pasO]
        split
        · split
          · split
            · exact ⟨upO_bnd h1 hc, h2⟩
            · exact ⟨h1, omin_bnd h2 hc⟩
          · exact ⟨upO_bnd h1 hc, h2⟩
        · exact ⟨h1, h2⟩
    exact ih (j + 1) _ this.1 this.2
theorem wayE_bnd {H s : Blk} (wC : wfC H) {i j C : Nat} {d : Nat → Option Nat} (hd : bdO d C) : bdO (wayE H s i j d) (C + 9) := by
  rw [wayE]
  split
  · exact sprA_bnd wC hd 48 0 d (by omega) (hd.le (by omega))
  · exact hd.le (by omega)
theorem wayP_bnd {H s : Blk} (wC : wfC H) {i j C : Nat} {d : Nat → Option Nat} (hd : bdO d C) : bdO (wayP H s i j d).1 (C + 9) ∧ ∀ u, (wayP H s i j d).2 = some u → u ≤ C + 9 := pas_bnd (wayE_bnd wC hd) 48 0 _ (fun q v e => by cases e) (fun u e => by cases e)
/-- scenes that agree but for one heir's room and stay -/
def AgX (i : Nat) (s t : Blk) : Prop := s.1 = t.1 ∧ ∀ j q, ¬ ((j = 0 ∨ j = 1) ∧ q = i) → s.2 j q = t.2 j q
theorem AgX.set {i x y : Nat} {s t : Blk} (a : AgX i s t) : setI s i x y = setI t i x y := by
  refine Prod.ext a.1 (funext fun j => funext fun q => ?_)
  simp only [setI, sA_2]
  by_cases h1 : j = 1 ∧ q = i
  · rw [if_pos h1, if_pos h1]
  · rw [if_neg h1, if_neg h1]
    by_cases h0 : j = 0 ∧ q = i
    · rw [if_pos h0, if_pos h0]
    · rw [if_neg h0, if_neg h0]
      exact a.2 j q (fun e => e.1.elim (fun e1 => h0 ⟨e1, e.2⟩) (fun e1 => h1 ⟨e1, e.2⟩))
theorem AgX.of {i x y : Nat} {s : Blk} : AgX i (setI s i x y) s := ⟨rfl, fun j q h => by
  simp only [setI, sA_2]
  rw [if_neg (fun e => h ⟨Or.inr e.1, e.2⟩), if_neg (fun e => h ⟨Or.inl e.1, e.2⟩)]⟩
theorem AgX.trans {i : Nat} {s t u : Blk} (a : AgX i s t) (c : AgX i t u) : AgX i s u := ⟨a.1.trans c.1, fun j q h => (a.2 j q h).trans (c.2 j q h)⟩
section
variable {h : Hea} {b bh : Nat} {H s0 s g : Blk}
theorem wf_H (aH : At h bh (hhL bh H s0)) (hd : bh + 15 ≤ b ∨ b + 9 ≤ bh) (s g : Blk) : At (blk b (wfL b s g) h) bh (hhL bh H s0) := at_far (n := 15) (n' := 9) aH (fun _ => hh_hi) (fun _ => wf_hi) hd
theorem wf_ld {j i : Nat} (hj : j < 2) (hi : i < 48) : ldI (blk b (wfL b s g) h) 0 (b + (7 + j)) (nI i) = some (g.2 j i) := by
  rcases (show j = 0 ∨ j = 1 by omega) with rfl | rfl
  · exact wf_m7 (blk_at _ _ _) hi
  · exact wf_m8 (blk_at _ _ _) hi
theorem wf_st {j i : Nat} {x : Int32} (hj : j < 2) (hi : i < 48) : stI (blk b (wfL b s g) h) 0 (b + (7 + j)) (nI i) x = some (blk b (wfL b s (sA g j i x)) h) := by
  rcases (show j = 0 ∨ j = 1 by omega) with rfl | rfl
  · exact wf_w7 hi
  · exact wf_w8 hi
theorem m5_v (t : Nat) (ht : t < 1000000) : (if 5 < nI t then (5 : Int32) else nI t) = nI (m5 t) := by
  rw [show (5 : Int32) = nI 5 from rfl, m5]
  by_cases h : 5 < t
  · rw [if_pos h, if_pos (nI_lt h (by omega))]
  · rw [if_neg h, if_neg (nI_nlt (by omega) (by omega))]
theorem m5_lt (t : Nat) : m5 t < 6 := by rw [m5]; split <;> omega
theorem g_lower {j rm t v : Nat} {d : Nat → Option Nat} (hj : j < 2) (hrm : rm < 8) (ht : t < 1000000) (hv : v < 1000) (hR : Rw 2147483647 (g.2 j) d) (hb : bdO d 1000) : f_X6_lower (blk b (wfL b s g) h) (b + (7 + j)) (nI rm) (nI t) (nI v) = some (blk b (wfL b s (sA g j (rm * 6 + m5 t) (encO 2147483647 0 (omin (d (rm * 6 + m5 t)) v)))) h) := by
  have h5 := m5_lt t
  rw [f_X6_lower, m5_v t ht, show (6 : Int32) = nI 6 from rfl, pk_mul, nI_add, wf_ld hj (by omega), b_some, wf_st hj (by omega), b_some, hR _ (by omega), show (2147483647 : Int32) = nI 2147483647 from rfl, omin_lt (by omega) (by omega) (fun u e => by have := hb _ _ e; omega)]
theorem Rw_sA {M : Int32} {d : Nat → Option Nat} {j q v : Nat} (hR : Rw M (g.2 j) d) : Rw M ((sA g j q (encO M 0 (omin (d q) v))).2 j) (upO d q v) := by
  have : (sA g j q (encO M 0 (omin (d q) v))).2 j = upd (g.2 j) q (encO M 0 (omin (d q) v)) := by simp [sA]
  rw [this]
  exact Rw_up hR rfl
theorem g_spr3 (aH : At h bh (hhL bh H s0)) (hd : bh + 15 ≤ b ∨ b + 9 ≤ bh) (wC : wfC H) {rm c : Nat} (hrm : rm < 8) (hc : c ≤ 900) : ∀ (k j n : Nat) (g : Blk) (d : Nat → Option Nat), j + k = 8 → k < n → Rw 2147483647 (g.2 1) d → bdO d 909 → ∃ g', f_X6_spreadFrom_3 n (blk b (wfL b s g) h) b bh (nI rm) (nI c) (nI j) = some (blk b (wfL b s g') h) ∧ Rw 2147483647 (g'.2 1) (sprR H rm c k j d) ∧ g'.2 0 = g.2 0 ∧ g'.1 = g.1 := by
  intro k
  induction k with
  | zero =>
    intro j n g d hj hn hR hb
    obtain ⟨n, rfl⟩ : ∃ q, n = q + 1 := ⟨n - 1, by omega⟩
    exact ⟨g, by rw [f_X6_spreadFrom_3, if_pos (show (8 : Int32) ≤ nI j from nI_le (a := 8) (by omega) (by omega))], hR, rfl, rfl⟩
  | succ k ih =>
    intro j n g d hj hn hR hb
    obtain ⟨n, rfl⟩ : ∃ q, n = q + 1 := ⟨n - 1, by omega⟩
    obtain ⟨v, hv, ev⟩ := wC (rm * 8 + j) (by omega)
    have ecn : cn H (rm * 8 + j) = v := by rw [cn, ev, nI_clamp (by omega)]
    rw [f_X6_spreadFrom_3, if_neg (show ¬ (8 : Int32) ≤ nI j from nI_ge (b := 8) (by omega) (by omega)), hh_o (wf_H aH hd _ _), b_some, g_creaks (hh_ho (wf_H aH hd _ _)) hrm (by omega), b_some, sprR]
    by_cases h0 : H.2 1 (rm * 8 + j) ≤ 0
    · obtain ⟨g', e, r1, r2, r3⟩ := ih (j + 1) n g d (by omega) (by omega) hR hb
      rw [if_pos h0, if_pos h0, b_some, nI_1]
      exact ⟨g', e, r1, r2, r3⟩
    · have lw := g_lower (h := h) (b := b) (s := s) (j := 1) (rm := j) (t := 0) (v := c + v) (by omega) (by omega) (by omega) (by omega) hR (hb.le (by omega))
      rw [nI_0] at lw
      obtain ⟨g', e, r1, r2, r3⟩ := ih (j + 1) n (sA g 1 (j * 6 + m5 0) (encO 2147483647 0 (omin (d (j * 6 + m5 0)) (c + v)))) (upO d (j * 6) (c + v)) (by omega) (by omega) (Rw_sA hR) (upO_bnd hb (by omega))
      rw [if_neg h0, if_neg h0, wf_f4 (blk_at _ _ _), b_some, ev, nI_add, lw, b_some, b_some, nI_1, ecn]
      exact ⟨g', e, r1, r2.trans (sA_row (by omega)), r3⟩
theorem encM {o : Option Nat} (hb : ∀ v, o = some v → v ≤ 1000) : (encO 2147483647 0 o = 2147483647) ↔ o = none := by
  cases o with
  | none => exact ⟨fun _ => rfl, fun _ => rfl⟩
  | some v =>
    have := hb v rfl
    refine ⟨fun e => ?_, fun e => by cases e⟩
    rw [encO, show (2147483647 : Int32) = nI 2147483647 from rfl, nI_eq (by omega) (by omega)] at e
    omega
theorem g_spr22 (aH : At h bh (hhL bh H s0)) (hd : bh + 15 ≤ b ∨ b + 9 ≤ bh) (wC : wfC H) {d0 : Nat → Option Nat} (hb0 : bdO d0 900) : ∀ (k j n : Nat) (g : Blk) (d : Nat → Option Nat), j + k = 48 → k < n → Rw 2147483647 (g.2 0) d0 → Rw 2147483647 (g.2 1) d → bdO d 909 → ∃ g', f_X6_spread_22 n (blk b (wfL b s g) h) b bh (nI j) = some (blk b (wfL b s g') h) ∧ Rw 2147483647 (g'.2 1) (sprA H d0 k j d) ∧ g'.1 = g.1 := by
  intro k
  induction k with
  | zero =>
    intro j n g d hj hn hR0 hR hb
    obtain ⟨n, rfl⟩ : ∃ q, n = q + 1 := ⟨n - 1, by omega⟩
    exact ⟨g, by rw [f_X6_spread_22, if_pos (show (48 : Int32) ≤ nI j from nI_le (a := 48) (by omega) (by omega))], hR, rfl⟩
  | succ k ih =>
    intro j n g d hj hn hR0 hR hb
    obtain ⟨n, rfl⟩ : ∃ q, n = q + 1 := ⟨n - 1, by omega⟩
    rw [f_X6_spread_22, if_neg (show ¬ (48 : Int32) ≤ nI j from nI_ge (b := 48) (by omega) (by omega)), wf_f3 (blk_at _ _ _), b_some, wf_m7 (blk_at _ _ _) (by omega), b_some, b_some, wf_m7 (blk_at _ _ _) (by omega), b_some, wf_o (blk_at _ _ _), b_some, hR0 j (by omega), sprA]
    simp only [encM (fun v e => by have := hb0 j v e; omega)]
    cases q : d0 j with
    | none =>
      obtain ⟨g', e, r1, r3⟩ := ih (j + 1) n g d (by omega) (by omega) hR0 hR hb
      rw [if_pos rfl, b_some, nI_1]
      exact ⟨g', e, r1, r3⟩
    | some c =>
      have hc := hb0 j c q
      obtain ⟨g1, e1, a1, a2, a3⟩ := g_spr3 (s := s) aH hd wC (rm := j / 6) (c := c) (by omega) hc 8 0 lots g d (by omega) (by simp only [lots]; omega) hR hb
      rw [nI_0] at e1
      obtain ⟨g', e, r1, r3⟩ := ih (j + 1) n g1 (sprR H (j / 6) c 8 0 d) (by omega) (by omega) (by rw [a2]; exact hR0) a1 (sprR_bnd' (C := 900) wC (by omega) hc 8 0 d (by omega) hb)
      rw [if_neg (by intro e; cases e), show (6 : Int32) = nI 6 from rfl, pk_div (by omega) (by omega) (by omega), encO, Nat.zero_add, f_X6_spreadFrom, e1, b_some, b_some, b_some, nI_1]
      exact ⟨g', e, r1, r3.trans a3⟩
theorem wf_cp : cpI (blk b (wfL b s g) h) (b + 7) (b + 8) 48 = some (blk b (wfL b s (sB g 1 (va_cpy (g.2 0) (g.2 1) 0 0 48))) h) := by
  rw [show (48 : Int32) = nI 48 from rfl, cpI_at (wf_k7 (blk_at _ _ _)) (wf_k8 (blk_at _ _ _)) (Nat.le_refl _) (Nat.le_refl _) (by omega), wf_b8]
theorem g_spread (aH : At h bh (hhL bh H s0)) (hd : bh + 15 ≤ b ∨ b + 9 ≤ bh) (wC : wfC H) {d : Nat → Option Nat} (hb : bdO d 900) (hR : Rw 2147483647 (g.2 0) d) (c : Bool) : ∃ g', f_X6_spread (blk b (wfL b s g) h) b bh (if c = true then 1 else 0) = some (blk b (wfL b s g') h) ∧ Rw 2147483647 (g'.2 1) (if c = true then sprA H d 48 0 d else d) ∧ g'.1 = g.1 := by
  have r0 : Rw 2147483647 ((sB g 1 (va_cpy (g.2 0) (g.2 1) 0 0 48)).2 1) d := fun q hq => by
    rw [sB_2, if_pos rfl, cpy_lt hq]; exact hR q hq
  rw [f_X6_spread, wf_f3 (blk_at _ _ _), b_some, wf_f4 (blk_at _ _ _), b_some, wf_cp, b_some]
  cases c with
  | false => exact ⟨_, rfl, r0, rfl⟩
  | true =>
    obtain ⟨g', e, r1, r3⟩ := g_spr22 (s := s) aH hd wC hb 48 0 lots (sB g 1 (va_cpy (g.2 0) (g.2 1) 0 0 48)) d (by omega) (by simp only [lots]; omega) (by rw [sB_2, if_neg (by omega)]; exact hR) r0 (hb.le (by omega))
    rw [nI_0] at e
    rw [if_pos rfl, if_neg (show ¬ (1 : Int32) = 0 by decide), e, b_some]
    exact ⟨g', rfl, r1, r3⟩
theorem g_empty2 : ∀ (k j n : Nat) (g : Blk), j + k = 48 → k < n → (∀ q, q < j → g.2 0 q = 2147483647) → ∃ g', f_X6_empty_2 n (blk b (wfL b s g) h) (b + 7) (nI j) = some (blk b (wfL b s g') h) ∧ Rw 2147483647 (g'.2 0) (fun _ => none) ∧ g'.2 1 = g.2 1 ∧ g'.1 = g.1 := by
  intro k
  induction k with
  | zero =>
    intro j n g hj hn hg
    obtain ⟨n, rfl⟩ : ∃ q, n = q + 1 := ⟨n - 1, by omega⟩
    exact ⟨g, by rw [f_X6_empty_2, if_pos (show (48 : Int32) ≤ nI j from nI_le (a := 48) (by omega) (by omega))], fun q hq => hg q (by omega), rfl, rfl⟩
  | succ k ih =>
    intro j n g hj hn hg
    obtain ⟨n, rfl⟩ : ∃ q, n = q + 1 := ⟨n - 1, by omega⟩
    obtain ⟨g', e, r1, r2, r3⟩ := ih (j + 1) n (sA g 0 j 2147483647) (by omega) (by omega) (fun q hq => by
      rw [sA_2]
      by_cases e : q = j
      · simp [e]
      · simpa [e] using hg q (by omega))
    exact ⟨g', by rw [f_X6_empty_2, if_neg (show ¬ (48 : Int32) ≤ nI j from nI_ge (b := 48) (by omega) (by omega)), wf_w7 (by omega), b_some, nI_1, e], r1, r2.trans (sA_row (by omega)), r3⟩
theorem g_empty : ∃ g', f_X6_empty (blk b (wfL b s g) h) (b + 7) = some (blk b (wfL b s g') h) ∧ Rw 2147483647 (g'.2 0) (fun _ => none) ∧ g'.2 1 = g.2 1 ∧ g'.1 = g.1 := by
  obtain ⟨g', e, r1, r2, r3⟩ := g_empty2 (h := h) (b := b) (s := s) 48 0 lots g (by omega) (by simp only [lots]; omega) (fun q hq => by omega)
  rw [nI_0] at e
  exact ⟨g', by rw [f_X6_empty, e, b_some], r1, r2, r3⟩
theorem g_pass26 (aH : At h bh (hhL bh H s0)) (hd : bh + 15 ≤ b ∨ b + 9 ≤ bh) (wH : wfH H) {i : Nat} (hi : i < hM H) {lr : Int32} {e0 : Nat → Option Nat} (hb0 : bdO e0 909) {s1 : Blk} : ∀ (k j n : Nat) (s g : Blk) (p : (Nat → Option Nat) × Option Nat), j + k = 48 → k < n → AgX i s s1 → Rw 2147483647 (g.2 1) e0 → Rw 2147483647 (g.2 0) p.1 → bdO p.1 909 → (∀ u, p.2 = some u → u ≤ 909) → ∃ s' g', f_X6_passNight_26 n (blk b (wfL b s g) h) b bh (nI i) lr (encO 2147483647 0 p.2) (nI j) = some (encO 2147483647 0 (pas H s1 i lr e0 k j p).2, blk b (wfL b s' g') h) ∧ AgX i s' s1 ∧ Rw 2147483647 (g'.2 0) (pas H s1 i lr e0 k j p).1 ∧ g'.1 = g.1 := by
  have hm := wH.2.1
  have hi6 : i < 6 := by omega
  intro k
  induction k with
  | zero =>
    intro j n s g p hj hn ag hR1 hR0 hb hp
    obtain ⟨n, rfl⟩ : ∃ q, n = q + 1 := ⟨n - 1, by omega⟩
    exact ⟨s, g, by rw [f_X6_passNight_26, if_pos (show (48 : Int32) ≤ nI j from nI_le (a := 48) (by omega) (by omega)), pas], ag, hR0, rfl⟩
  | succ k ih =>
    intro j n s g p hj hn ag hR1 hR0 hb hp
    obtain ⟨n, rfl⟩ : ∃ q, n = q + 1 := ⟨n - 1, by omega⟩
    rw [f_X6_passNight_26, if_neg (show ¬ (48 : Int32) ≤ nI j from nI_ge (b := 48) (by omega) (by omega)), wf_f4 (blk_at _ _ _), b_some, wf_m8 (blk_at _ _ _) (by omega), b_some, hR1 j (by omega), pas]
    simp only [encM (fun v e => by have := hb0 j v e; omega)]
    cases q : e0 j with
    | none =>
      obtain ⟨s', g', e, r1, r2, r3⟩ := ih (j + 1) n s g p (by omega) (by omega) ag hR1 hR0 hb hp
      rw [if_pos rfl, b2_some, nI_1]
      exact ⟨s', g', e, r1, r2, r3⟩
    | some c =>
      have hc := hb0 j c q
      have hj1 : g.2 1 j = nI c := by rw [hR1 j (by omega), q, encO, Nat.zero_add]
      have e6 : nI j / 6 = nI (j / 6) := pk_div (d := 6) (by omega) (by omega) (by omega)
      have er : nI j - nI j / 6 * 6 = nI (j % 6) := pk_rem (d := 6) (by omega) (by omega) (by omega)
      have es : sA (sA s 0 i (nI (j / 6))) 1 i (nI (j % 6)) = setI s1 i (j / 6) (j % 6) := ag.set
      have ag' : AgX i (setI s1 i (j / 6) (j % 6)) s1 := AgX.of
      have hrI : inR ((setI s1 i (j / 6) (j % 6)).2 0 i) 8 = true := by
        have : (setI s1 i (j / 6) (j % 6)).2 0 i = nI (j / 6) := by simp [setI, sA_2]
        rw [this]; exact inR_nI (by omega) (by omega)
      have r0 : (setI s1 i (j / 6) (j % 6)).2 0 i = nI (j / 6) := by simp [setI, sA_2]
      have r1 : (setI s1 i (j / 6) (j % 6)).2 1 i = nI (j % 6) := by simp [setI, sA_2]
      have hid6 := g_hidden (hh_ho (wf_H aH hd (setI s1 i (j / 6) (j % 6)) g)) (wf_sn (blk_at b (wfL b (setI s1 i (j / 6) (j % 6)) g) h)) wH hi6 hrI
      have lw := g_lower (h := h) (b := b) (s := setI s1 i (j / 6) (j % 6)) (j := 0) (rm := j / 6) (t := j % 6 + 1) (v := c) (by omega) (by omega) (by omega) (by omega) hR0 (hb.le (by omega))
      rw [if_neg (by intro e; cases e), wf_f2 (blk_at _ _ _), b_some, wf_f1_1 (blk_at _ _ _), b_some, er, e6, wf_w2 hi6, b_some, wf_f2 (blk_at _ _ _), b_some, wf_f1_2 (blk_at _ _ _), b_some, wf_w3 hi6, b_some, es, wf_f2 (blk_at _ _ _), b_some, hh_o (wf_H aH hd _ _), b_some, hid6, b_some, hh_f1 (wf_H aH hd _ _), b_some, pasO]
      simp only [wf_f2 (blk_at b (wfL b (setI s1 i (j / 6) (j % 6)) g) h), wf_f3 (blk_at b (wfL b (setI s1 i (j / 6) (j % 6)) g) h), wf_f4 (blk_at b (wfL b (setI s1 i (j / 6) (j % 6)) g) h), b_some, wf_f1_1 (blk_at b (wfL b (setI s1 i (j / 6) (j % 6)) g) h), wf_f1_2 (blk_at b (wfL b (setI s1 i (j / 6) (j % 6)) g) h), wf_m2 (blk_at b (wfL b (setI s1 i (j / 6) (j % 6)) g) h) hi6, wf_m3 (blk_at b (wfL b (setI s1 i (j / 6) (j % 6)) g) h) hi6, r0, r1, hh_f0 (wf_H aH hd (setI s1 i (j / 6) (j % 6)) g), wf_m8 (blk_at b (wfL b (setI s1 i (j / 6) (j % 6)) g) h) (show j < 48 by omega), hj1, nI_1]
      have low : ∀ p' : (Nat → Option Nat) × Option Nat, p' = (upO p.1 (j / 6 * 6 + m5 (j % 6 + 1)) c, p.2) → ∃ s' g', (bind2 ((f_X6_lower (blk b (wfL b (setI s1 i (j / 6) (j % 6)) g) h) (b + 7) (nI (j / 6)) (nI (j % 6 + 1)) (nI c)).bind fun h37 => some (encO 2147483647 0 p.2, h37)) fun v3 h4 => f_X6_passNight_26 n h4 b bh (nI i) lr v3 (nI (j + 1))) = some (encO 2147483647 0 (pas H s1 i lr e0 k (j + 1) p').2, blk b (wfL b s' g') h) ∧ AgX i s' s1 ∧ Rw 2147483647 (g'.2 0) (pas H s1 i lr e0 k (j + 1) p').1 ∧ g'.1 = g.1 := by
        intro p' hp'
        subst hp'
        obtain ⟨s', g', e, z1, z2, z3⟩ := ih (j + 1) n (setI s1 i (j / 6) (j % 6)) (sA g 0 (j / 6 * 6 + m5 (j % 6 + 1)) (encO 2147483647 0 (omin (p.1 (j / 6 * 6 + m5 (j % 6 + 1))) c))) (upO p.1 (j / 6 * 6 + m5 (j % 6 + 1)) c, p.2) (by omega) (by omega) ag' (by rw [sA_row (by omega)]; exact hR1) (Rw_sA hR0) (upO_bnd hb hc) hp
        refine ⟨s', g', ?_, z1, z2, z3⟩
        rw [show b + 7 = b + (7 + 0) from rfl, lw, b_some, b2_some]
        exact e
      by_cases c1 : H.1 1 ≤ hid H (setI s1 i (j / 6) (j % 6)) i
      · by_cases c2 : nI (j / 6) = lr
        · by_cases c3 : H.1 0 ≤ hid H (setI s1 i (j / 6) (j % 6)) i
          · simp only [if_pos c1, if_pos c2, if_pos c3]
            exact low _ rfl
          · obtain ⟨s', g', e, z1, z2, z3⟩ := ih (j + 1) n (setI s1 i (j / 6) (j % 6)) g (p.1, omin p.2 c) (by omega) (by omega) ag' hR1 hR0 hb (omin_bnd hp hc)
            simp only [if_pos c1, if_pos c2, if_neg c3]
            rw [b2_some, show (2147483647 : Int32) = nI 2147483647 from rfl, omin_lt (Mn := 2147483647) (by omega) (by omega) (fun u e => by have := hp _ e; omega)]
            exact ⟨s', g', e, z1, z2, z3⟩
        · simp only [if_pos c1, if_neg c2]
          exact low _ rfl
      · obtain ⟨s', g', e, z1, z2, z3⟩ := ih (j + 1) n (setI s1 i (j / 6) (j % 6)) g p (by omega) (by omega) ag' hR1 hR0 hb hp
        simp only [if_neg c1]
        rw [b2_some]
        exact ⟨s', g', e, z1, z2, z3⟩
end
