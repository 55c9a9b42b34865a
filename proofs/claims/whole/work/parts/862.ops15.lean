/-! ===== rows that are written place by place; states that change ===== -/
def RowW (W : (Nat → Int32) → Hea) (a n : Nat) : Prop := (∀ f i x, i < n → stI (W f) 0 a (nI i) x = some (W (upd f i x))) ∧ ∀ f i, i < n → ldI (W f) 0 a (nI i) = some (f i)
theorem upd_v (f : Nat → Int32) (i : Nat) (x : Int32) (j : Nat) : upd f i x j = if j = i then x else f j := rfl
def fillR (f : Nat → Int32) (x : Int32) (p e : Nat) : Nat → Int32 := fun q => if p ≤ q ∧ q < e then x else f q
theorem fillR_0 (f : Nat → Int32) (x : Int32) {p e : Nat} (h : e ≤ p) : fillR f x p e = f := by
  funext q
  simp only [fillR]
  rw [if_neg (by omega)]
theorem fillR_s (f : Nat → Int32) (x : Int32) {p e : Nat} (h : p < e) : fillR (upd f p x) x (p + 1) e = fillR f x p e := by
  funext q
  simp only [fillR, upd]
  by_cases h1 : q = p
  · subst h1
    rw [if_neg (by omega), if_pos rfl, if_pos (by omega)]
  · by_cases h2 : p + 1 ≤ q ∧ q < e
    · rw [if_pos h2, if_pos (by omega)]
    · rw [if_neg h2, if_neg h1, if_neg (by omega)]
/-- a house begun anew, in the reference's row -/
def beginN (f : Nat → Int32) (e r : Int32) : Nat → Int32 := fillR (upd (upd (upd (fillR f 0 0 151) 1 e) 2 r) 4 1) 5 7 15
/-- an heir more, in the reference's row -/
def heirN (f : Nat → Int32) (m : Nat) (k r p : Int32) : Nat → Int32 := upd (upd (upd (upd (upd (fillR f 0 (91 + 7 * m) (91 + 7 * m + 7)) (91 + 7 * m) k) (91 + 7 * m + 1) r) (91 + 7 * m + 2) p) (91 + 7 * m + 5) (-1)) 0 (nI (m + 1))
section
variable {W : (Nat → Int32) → Hea} {a n : Nat}
theorem g8_door (w : RowW W a n) (hn : 79 ≤ n) {f : Nat → Int32} {i j : Nat} {x : Int32} (hi : i < 8) (hj : j < 8) : f_X8_layDoor (W f) a (nI i) (nI j) x = some (W (upd (upd f (15 + 8 * i + j) x) (15 + 8 * j + i) x)) := by
  have e1 : ∀ i j : Nat, ((15 : Int32) + 8 * nI i) + nI j = nI (15 + 8 * i + j) := fun i j => by rw [show (15 : Int32) = nI 15 from rfl, show (8 : Int32) = nI 8 from rfl, pk_mul, nI_add, nI_add]
  rw [f_X8_layDoor, e1, e1, w.1 _ _ _ (by omega), b_some, w.1 _ _ _ (by omega), b_some]
theorem g8_begin2 (w : RowW W a n) (hn : 151 ≤ n) : ∀ (k j c : Nat) (f : Nat → Int32), j + k = 151 → k < c → f_X8_begin_2 c (W f) a (nI j) = some (W (fillR f 0 j 151)) := by
  intro k
  induction k with
  | zero =>
    intro j c f hj hc
    obtain ⟨c, rfl⟩ : ∃ q, c = q + 1 := ⟨c - 1, by omega⟩
    rw [f_X8_begin_2, if_pos (show (151 : Int32) ≤ nI j from nI_le (a := 151) (by omega) (by omega)), fillR_0 _ _ (by omega)]
  | succ k ih =>
    intro j c f hj hc
    obtain ⟨c, rfl⟩ : ∃ q, c = q + 1 := ⟨c - 1, by omega⟩
    rw [f_X8_begin_2, if_neg (show ¬ (151 : Int32) ≤ nI j from nI_ge (b := 151) (by omega) (by omega)), w.1 _ _ _ (by omega), b_some, nI_1, ih (j + 1) c _ (by omega) (by omega), fillR_s _ _ (by omega)]
theorem g8_begin33 (w : RowW W a n) (hn : 151 ≤ n) : ∀ (k j c : Nat) (f : Nat → Int32), j + k = 8 → k < c → f_X8_begin_33 c (W f) a (nI j) = some (W (fillR f 5 (7 + j) 15)) := by
  intro k
  induction k with
  | zero =>
    intro j c f hj hc
    obtain ⟨c, rfl⟩ : ∃ q, c = q + 1 := ⟨c - 1, by omega⟩
    rw [f_X8_begin_33, if_pos (show (8 : Int32) ≤ nI j from nI_le (a := 8) (by omega) (by omega)), fillR_0 _ _ (by omega)]
  | succ k ih =>
    intro j c f hj hc
    obtain ⟨c, rfl⟩ : ∃ q, c = q + 1 := ⟨c - 1, by omega⟩
    rw [f_X8_begin_33, if_neg (show ¬ (8 : Int32) ≤ nI j from nI_ge (b := 8) (by omega) (by omega)), show (7 : Int32) = nI 7 from rfl, nI_add, w.1 _ _ _ (by omega), b_some, nI_1, ih (j + 1) c _ (by omega) (by omega), ← Nat.add_assoc, fillR_s _ _ (by omega)]
theorem g8_begin (w : RowW W a n) (hn : 151 ≤ n) {f : Nat → Int32} {e r : Int32} : f_X8_begin (W f) a e r = some (W (beginN f e r)) := by
  have e1 := g8_begin2 w hn 151 0 lots f (by omega) (by simp only [lots]; omega)
  have e2 := g8_begin33 w hn 8 0 lots (upd (upd (upd (fillR f 0 0 151) 1 e) 2 r) 4 1) (by omega) (by simp only [lots]; omega)
  have w1 := w.1 (fillR f 0 0 151) 1 e (by omega)
  have w2 := w.1 (upd (fillR f 0 0 151) 1 e) 2 r (by omega)
  have w4 := w.1 (upd (upd (fillR f 0 0 151) 1 e) 2 r) 4 1 (by omega)
  rw [show nI 1 = 1 from rfl] at w1
  rw [show nI 2 = 2 from rfl] at w2
  rw [show nI 4 = 4 from rfl] at w4
  rw [nI_0] at e1 e2
  rw [f_X8_begin, e1, b_some, w1, b_some, w2, b_some, w4, b_some, e2, b_some]
  rfl
theorem g8_lay14 (w : RowW W a n) {p : Nat} (hn : p + 7 ≤ n) (hp : n < 2147483648) : ∀ (k j c : Nat) (f : Nat → Int32), j + k = 7 → k < c → f_X8_layHeir_14 c (W f) a (nI p) (nI j) = some (W (fillR f 0 (p + j) (p + 7))) := by
  intro k
  induction k with
  | zero =>
    intro j c f hj hc
    obtain ⟨c, rfl⟩ : ∃ q, c = q + 1 := ⟨c - 1, by omega⟩
    rw [f_X8_layHeir_14, if_pos (show (7 : Int32) ≤ nI j from nI_le (a := 7) (by omega) (by omega)), fillR_0 _ _ (by omega)]
  | succ k ih =>
    intro j c f hj hc
    obtain ⟨c, rfl⟩ : ∃ q, c = q + 1 := ⟨c - 1, by omega⟩
    rw [f_X8_layHeir_14, if_neg (show ¬ (7 : Int32) ≤ nI j from nI_ge (b := 7) (by omega) (by omega)), nI_add, w.1 _ _ _ (by omega), b_some, nI_1, ih (j + 1) c _ (by omega) (by omega), ← Nat.add_assoc, fillR_s _ _ (by omega)]
theorem g8_layHeir (w : RowW W a n) (hn : 133 ≤ n) (hp : n < 2147483648) {f : Nat → Int32} {m : Nat} (h0 : f 0 = nI m) (hm : m < 6) {k r p : Int32} : f_X8_layHeir (W f) a k r p = some (W (heirN f m k r p)) := by
  have e1 := g8_lay14 w (p := 91 + 7 * m) (by omega) hp 7 0 lots f (by omega) (by simp only [lots]; omega)
  rw [nI_0, Nat.add_zero] at e1
  have i0 : (91 : Int32) + 7 * nI m = nI (91 + 7 * m) := by rw [show (91 : Int32) = nI 91 from rfl, show (7 : Int32) = nI 7 from rfl, pk_mul, nI_add]
  have i1 : nI (91 + 7 * m) + 0 = nI (91 + 7 * m) := by rw [show (0 : Int32) = nI 0 from rfl, nI_add, Nat.add_zero]
  have i2 : nI (91 + 7 * m) + 1 = nI (91 + 7 * m + 1) := nI_add _ 1
  have i3 : nI (91 + 7 * m) + 2 = nI (91 + 7 * m + 2) := nI_add _ 2
  have i4 : nI (91 + 7 * m) + 5 = nI (91 + 7 * m + 5) := nI_add _ 5
  have l0 := w.2 f 0 (by omega)
  rw [nI_0] at l0
  have v0 : (upd (upd (upd (upd (fillR f 0 (91 + 7 * m) (91 + 7 * m + 7)) (91 + 7 * m) k) (91 + 7 * m + 1) r) (91 + 7 * m + 2) p) (91 + 7 * m + 5) (-1)) 0 = nI m := by
    simp only [upd, fillR]
    rw [if_neg (by omega), if_neg (by omega), if_neg (by omega), if_neg (by omega), if_neg (by omega), h0]
  have l1 := w.2 (upd (upd (upd (upd (fillR f 0 (91 + 7 * m) (91 + 7 * m + 7)) (91 + 7 * m) k) (91 + 7 * m + 1) r) (91 + 7 * m + 2) p) (91 + 7 * m + 5) (-1)) 0 (by omega)
  rw [nI_0, v0] at l1
  have s1 := w.1 (upd (upd (upd (upd (fillR f 0 (91 + 7 * m) (91 + 7 * m + 7)) (91 + 7 * m) k) (91 + 7 * m + 1) r) (91 + 7 * m + 2) p) (91 + 7 * m + 5) (-1)) 0 (nI (m + 1)) (by omega)
  rw [nI_0] at s1
  rw [f_X8_layHeir, l0, b_some, h0, i0, e1, b_some, i1, w.1 _ _ _ (by omega), b_some, i2, w.1 _ _ _ (by omega), b_some, i3, w.1 _ _ _ (by omega), b_some, i4, w.1 _ _ _ (by omega), b_some, l1, b_some, nI_1, s1, b_some]
  rfl
end
section
variable {h : Hea} {b : Nat} {m : Blk} {l : Nat → Int64} {r : Nat → Nat → Int64}
theorem rowNow : RowW (fun f => blk b (mdL b (sB m 0 f) l r) h) (b + 1) 399 := ⟨fun f i x hi => by
    show stI (blk b (mdL b (sB m 0 f) l r) h) 0 (b + 1) (nI i) x = some (blk b (mdL b (sB m 0 (upd f i x)) l r) h)
    rw [md_w1 hi, sA_sB], fun f i hi => md_m1 (blk_at _ _ _) hi⟩
theorem rowNew : RowW (fun f => blk b (mdL b (sB m 14 f) l r) h) (b + 17) 151 := ⟨fun f i x hi => by
    show stI (blk b (mdL b (sB m 14 f) l r) h) 0 (b + 17) (nI i) x = some (blk b (mdL b (sB m 14 (upd f i x)) l r) h)
    rw [md_w17 hi, sA_sB], fun f i hi => md_m17 (blk_at _ _ _) hi⟩
end
/-! states -/
section
variable {k z : Nat} {H s : Blk} {T : Nat → Blk} {N : Nat → Int32}
theorem ST.chg0 {H' : Blk} {N' : Nat → Int32} (a : ST k H s z T N) (wo : hoW H') (hm : hM H' = hM H) (rH : hR H' N') (ne : ∀ j, j = 3 ∨ j = 6 ∨ (91 ≤ j ∧ j < 133) ∨ 151 ≤ j → N' j = N j) : ST k H' s z T N' := by
  obtain ⟨-, ws, wt, -, rs, rp⟩ := a
  have sc : ∀ s : Blk, scW k H s → scW k H' s := fun s ws => ⟨⟨ws.1.1, ws.1.2.1, fun i hi => ws.1.2.2 i (by omega)⟩, fun i hi => ws.2.1 i (by omega), fun i hi => ws.2.2 i (by omega)⟩
  refine ⟨wo, sc s ws, fun j hj => sc _ (wt j hj), rH, ⟨?_, ?_⟩, ⟨?_, ?_⟩⟩
  · rw [ne 3 (by omega)]; exact rs.1
  · have h6 := wo.1.2.1
    intro j hj; rw [ne _ (by omega), ne _ (by omega), ne _ (by omega), ne _ (by omega), ne _ (by omega)]; exact rs.2 j (by omega)
  · rw [ne 6 (by omega)]; exact rp.1
  · intro j hj
    refine ⟨by rw [ne _ (by omega)]; exact (rp.2 j hj).1, fun c hc => ?_⟩
    rw [ne _ (by omega), ne _ (by omega), ne _ (by omega), ne _ (by omega), ne _ (by omega)]
    exact (rp.2 j hj).2 c (by omega)
theorem ST.mono {k' : Nat} (a : ST k H s z T N) (h : k ≤ k') : ST k' H s z T N := by
  obtain ⟨c, rfl⟩ : ∃ c, k' = k + c := ⟨k' - k, by omega⟩
  clear h
  induction c with
  | zero => exact a
  | succ c ih => exact ih.up
theorem ST.door (a : ST k H s z T N) {i j c : Nat} (hi : i < 8) (hj : j < 8) (hne : ¬ i = j) (hc : c ≤ 9) : ST k (sA (sA H 1 (i * 8 + j) (nI c)) 1 (j * 8 + i) (nI c)) s z T (upd (upd N (15 + 8 * i + j) (nI c)) (15 + 8 * j + i) (nI c)) := by
  obtain ⟨wo, ws, wt, rH, rs, rp⟩ := a
  have ne : ∀ q, ¬ (15 ≤ q ∧ q < 79) → (upd (upd N (15 + 8 * i + j) (nI c)) (15 + 8 * j + i) (nI c)) q = N q := fun q hq => by
    simp only [upd]
    rw [if_neg (by omega), if_neg (by omega)]
  have hv : ∀ q r, q < 8 → r < 8 → (sA (sA H 1 (i * 8 + j) (nI c)) 1 (j * 8 + i) (nI c)).2 1 (q * 8 + r) = if (q = i ∧ r = j) ∨ (q = j ∧ r = i) then nI c else H.2 1 (q * 8 + r) := by
    intro q r hq hr
    rw [sA_2, sA_2]
    by_cases e : (q = i ∧ r = j) ∨ (q = j ∧ r = i)
    · rw [if_pos e]
      rcases e with ⟨rfl, rfl⟩ | ⟨rfl, rfl⟩
      · split
        · rfl
        · rw [if_pos ⟨rfl, rfl⟩]
      · rw [if_pos ⟨rfl, rfl⟩]
    · rw [if_neg e, if_neg (by omega), if_neg (by omega)]
  have h6 := wo.1.2.1
  have hs6 := wo.2.1.2
  have h12 := wo.1.2.2.2.2
  refine ST.chg0 (H := H) (N := N) ⟨wo, ws, wt, rH, rs, rp⟩ ⟨wo.1, wo.2.1, wo.2.2.1, ⟨?_, ?_⟩, ?_⟩ rfl ⟨?_, ?_, ?_, ?_, ?_, ?_, ?_, ?_, ?_, ?_⟩ (fun q hq => ne q (by omega))
  · intro q r hq hr
    rw [hv q r hq hr, hv r q hr hq]
    by_cases e : (q = i ∧ r = j) ∨ (q = j ∧ r = i)
    · rw [if_pos e, if_pos (by omega)]
    · rw [if_neg e, if_neg (by omega)]
      exact wo.2.2.2.1.1 q r hq hr
  · intro q hq
    rw [hv q q hq hq, if_neg (by omega)]
    exact wo.2.2.2.1.2 q hq
  · intro q hq
    rw [sA_2, sA_2]
    split
    · exact ⟨c, hc, rfl⟩
    · split
      · exact ⟨c, hc, rfl⟩
      · exact wo.2.2.2.2 q hq
  · rw [ne 0 (by omega)]; exact rH.1
  · rw [ne 1 (by omega)]; exact rH.2.1
  · rw [ne 2 (by omega)]; exact rH.2.2.1
  · rw [ne 4 (by omega)]; exact rH.2.2.2.1
  · rw [ne 5 (by omega)]; exact rH.2.2.2.2.1
  · intro q hq; rw [ne _ (by omega)]; exact rH.2.2.2.2.2.1 q hq
  · intro q hq
    rw [sA_2, sA_2, upd_v, upd_v]
    by_cases e1 : q = j * 8 + i
    · rw [if_pos (show 15 + q = 15 + 8 * j + i by omega), if_pos (show (1 : Nat) = 1 ∧ q = j * 8 + i from ⟨rfl, e1⟩)]
    · rw [if_neg (show ¬ 15 + q = 15 + 8 * j + i by omega), if_neg (show ¬ ((1 : Nat) = 1 ∧ q = j * 8 + i) from fun e => e1 e.2)]
      by_cases e2 : q = i * 8 + j
      · rw [if_pos (show 15 + q = 15 + 8 * i + j by omega), if_pos (show (1 : Nat) = 1 ∧ q = i * 8 + j from ⟨rfl, e2⟩)]
      · rw [if_neg (show ¬ 15 + q = 15 + 8 * i + j by omega), if_neg (show ¬ ((1 : Nat) = 1 ∧ q = i * 8 + j) from fun e => e2 e.2)]
        exact rH.2.2.2.2.2.2.1 q hq
  · intro q hq
    have hq' : q < hL H := hq
    rw [ne _ (by omega)]; exact rH.2.2.2.2.2.2.2.1 q hq
  · intro q hq; rw [ne _ (by omega), ne _ (by omega)]; exact rH.2.2.2.2.2.2.2.2.1 q hq
  · intro q hq
    rw [ne _ (by omega), ne _ (by omega), ne _ (by omega)]; exact rH.2.2.2.2.2.2.2.2.2 q hq
theorem ST.begin {k : Nat} {H s : Blk} {T : Nat → Blk} {f : Nat → Int32} {e r : Nat} (hr : r ≤ 25) : ST k (beginH H (nI e) (nI r)) (sS s 0 0) 0 T (beginN f (nI e) (nI r)) := by
  have hm : hM (beginH H (nI e) (nI r)) = 0 := by show (0 : Int32).toNatClampNeg = 0; decide
  have hl : hL (beginH H (nI e) (nI r)) = 1 := by show (1 : Int32).toNatClampNeg = 1; decide
  have hs : hS (beginH H (nI e) (nI r)) = 0 := by show (0 : Int32).toNatClampNeg = 0; decide
  have h1 : ∀ q, q < 64 → (beginH H (nI e) (nI r)).2 1 q = 0 := fun q hq => by
    show (if q < 64 then (0 : Int32) else H.2 1 q) = 0
    rw [if_pos hq]
  have h0 : ∀ q, q < 8 → (beginH H (nI e) (nI r)).2 0 q = 5 := fun q hq => by
    show (if q < 8 then (5 : Int32) else H.2 0 q) = 5
    rw [if_pos hq]
  have n0 : ∀ q, q < 151 → ¬ q = 1 → ¬ q = 2 → ¬ q = 4 → ¬ (7 ≤ q ∧ q < 15) → beginN f (nI e) (nI r) q = 0 := fun q h1 h2 h3 h4 h5 => by
    simp only [beginN, fillR, upd]
    rw [if_neg h5, if_neg h4, if_neg h3, if_neg h2, if_pos ⟨by omega, h1⟩]
  refine ⟨⟨⟨?_, by omega, ?_, by omega, by omega⟩, ⟨?_, by omega⟩, ⟨fun q hq => ⟨5, by omega, h0 q hq⟩, fun i hi => absurd hi (by omega), ⟨r, hr, rfl⟩⟩, ⟨fun q r hq hr => by rw [h1 _ (by omega), h1 _ (by omega)], fun q hq => h1 _ (by omega)⟩, fun q hq => ⟨0, by omega, h1 q hq⟩⟩, ⟨⟨rfl, ?_, fun i hi => absurd hi (by omega)⟩, fun i hi => absurd hi (by omega), fun i hi => absurd hi (by omega)⟩, fun j hj => absurd hj (by omega), ⟨?_, ?_, ?_, ?_, ?_, ?_, ?_, ?_, ?_, ?_⟩, ⟨?_, fun i hi => absurd hi (by omega)⟩, ⟨?_, fun j hj => absurd hj (by omega)⟩⟩
  · rw [hm]; rfl
  · rw [hl]; rfl
  · rw [hs]; rfl
  · show (0 : Int32).toNatClampNeg + _ < _
    rw [show (0 : Int32).toNatClampNeg = 0 by decide]; omega
  · rw [n0 0 (by omega) (by omega) (by omega) (by omega) (by omega)]; rfl
  · rfl
  · rfl
  · rfl
  · rw [n0 5 (by omega) (by omega) (by omega) (by omega) (by omega)]; rfl
  · intro q hq
    rw [h0 q hq]
    simp only [beginN, fillR]
    rw [if_pos (by omega)]
  · intro q hq
    rw [h1 q hq, n0 _ (by omega) (by omega) (by omega) (by omega) (by omega)]
  · intro q hq
    rw [hl] at hq
    rw [show q = 0 by omega, n0 _ (by omega) (by omega) (by omega) (by omega) (by omega)]; rfl
  · intro q hq; exact absurd hq (by omega)
  · intro q hq; exact absurd hq (by omega)
  · rw [n0 3 (by omega) (by omega) (by omega) (by omega) (by omega)]; rfl
  · rw [n0 6 (by omega) (by omega) (by omega) (by omega) (by omega)]; rfl
theorem ST.heir {T' : Nat → Blk} {N' : Nat → Int32} {m c r p : Nat} (a : ST k H s z T N) (hm : hM H = m) (h6 : m < 6) (hr : r < 8) (hp : p ≤ 9) (hN' : ∀ q, q < 151 → ¬ q = 6 → N' q = heirN N m (nI c) (nI r) (nI p) q) (n6 : N' 6 = 0) : ST k (sS (sA (sA H 3 m (nI c)) 4 m (nI p)) 3 (nI (m + 1))) (sA (sA (sA (sA (sA s 0 m (nI r)) 1 m 0) 2 m 0) 3 m (-1)) 4 m 0) 0 T' N' := by
  obtain ⟨wo, ws, wt, rH, rs, rp⟩ := a
  have hs6 := wo.2.1.2
  have h12 := wo.1.2.2.2.2
  have hm' : hM (sS (sA (sA H 3 m (nI c)) 4 m (nI p)) 3 (nI (m + 1))) = m + 1 := by show (nI (m + 1)).toNatClampNeg = m + 1; exact nI_clamp (by omega)
  have sv : ∀ j i, ¬ i = m → (sA (sA (sA (sA (sA s 0 m (nI r)) 1 m 0) 2 m 0) 3 m (-1)) 4 m 0).2 j i = s.2 j i := by
    intro j i e
    simp [sA_2, e]
  have s0 : (sA (sA (sA (sA (sA s 0 m (nI r)) 1 m 0) 2 m 0) 3 m (-1)) 4 m 0).2 0 m = nI r := by simp [sA_2]
  have s1 : (sA (sA (sA (sA (sA s 0 m (nI r)) 1 m 0) 2 m 0) 3 m (-1)) 4 m 0).2 1 m = 0 := by simp [sA_2]
  have s2 : (sA (sA (sA (sA (sA s 0 m (nI r)) 1 m 0) 2 m 0) 3 m (-1)) 4 m 0).2 2 m = 0 := by simp [sA_2]
  have s3 : (sA (sA (sA (sA (sA s 0 m (nI r)) 1 m 0) 2 m 0) 3 m (-1)) 4 m 0).2 3 m = -1 := by simp [sA_2]
  have s4 : (sA (sA (sA (sA (sA s 0 m (nI r)) 1 m 0) 2 m 0) 3 m (-1)) 4 m 0).2 4 m = 0 := by simp [sA_2]
  have k3 : ∀ i, ¬ i = m → (sS (sA (sA H 3 m (nI c)) 4 m (nI p)) 3 (nI (m + 1))).2 3 i = H.2 3 i := fun i e => by simp [sS_2, sA_2, e]
  have k4 : ∀ i, ¬ i = m → (sS (sA (sA H 3 m (nI c)) 4 m (nI p)) 3 (nI (m + 1))).2 4 i = H.2 4 i := fun i e => by simp [sS_2, sA_2, e]
  have k3m : (sS (sA (sA H 3 m (nI c)) 4 m (nI p)) 3 (nI (m + 1))).2 3 m = nI c := by simp [sS_2, sA_2]
  have k4m : (sS (sA (sA H 3 m (nI c)) 4 m (nI p)) 3 (nI (m + 1))).2 4 m = nI p := by simp [sS_2, sA_2]
  have ne : ∀ q, q < 151 → ¬ q = 6 → ¬ q = 0 → ¬ (91 + 7 * m ≤ q ∧ q < 91 + 7 * m + 7) → N' q = N q := fun q h1 h2 h3 h4 => by
    rw [hN' q h1 h2]
    simp only [heirN, upd, fillR]
    rw [if_neg h3, if_neg (by omega), if_neg (by omega), if_neg (by omega), if_neg (by omega), if_neg h4]
  have nm : ∀ o, o < 7 → N' (91 + 7 * m + o) = if o = 5 then -1 else if o = 2 then nI p else if o = 1 then nI r else if o = 0 then nI c else 0 := fun o ho => by
    rw [hN' _ (by omega) (by omega)]
    simp only [heirN, upd, fillR]
    rw [if_neg (by omega)]
    rcases (show o = 0 ∨ o = 1 ∨ o = 2 ∨ o = 3 ∨ o = 4 ∨ o = 5 ∨ o = 6 by omega) with rfl | rfl | rfl | rfl | rfl | rfl | rfl <;> simp
  refine ⟨⟨⟨?_, by omega, wo.1.2.2⟩, wo.2.1, ⟨wo.2.2.1.1, fun i hi => ?_, wo.2.2.1.2.2⟩, wo.2.2.2.1, wo.2.2.2.2⟩, ⟨⟨ws.1.1, ws.1.2.1, fun i hi => ?_⟩, fun i hi => ?_, fun i hi => ?_⟩, fun j hj => absurd hj (by omega), ⟨?_, ?_, ?_, ?_, ?_, ?_, ?_, ?_, ?_, ?_⟩, ⟨?_, fun i hi => ?_⟩, ⟨n6, fun j hj => absurd hj (by omega)⟩⟩
  · rw [hm']; rfl
  · by_cases e : i = m
    · subst e; exact ⟨p, hp, k4m⟩
    · rw [k4 i e]; exact wo.2.2.1.2.1 i (by omega)
  · by_cases e : i = m
    · subst e; rw [s0]; exact inR_nI hr (by omega)
    · rw [sv 0 i e]; exact ws.1.2.2 i (by omega)
  · by_cases e : i = m
    · subst e; exact ⟨0, by omega, s1⟩
    · rw [sv 1 i e]; exact ws.2.1 i (by omega)
  · by_cases e : i = m
    · subst e; exact fun _ => s3
    · rw [sv 2 i e, sv 3 i e]; exact ws.2.2 i (by omega)
  · rw [hN' 0 (by omega) (by omega)]; rfl
  · rw [ne 1 (by omega) (by omega) (by omega) (by omega)]; exact rH.2.1
  · rw [ne 2 (by omega) (by omega) (by omega) (by omega)]; exact rH.2.2.1
  · rw [ne 4 (by omega) (by omega) (by omega) (by omega)]; exact rH.2.2.2.1
  · rw [ne 5 (by omega) (by omega) (by omega) (by omega)]; exact rH.2.2.2.2.1
  · intro q hq; rw [ne _ (by omega) (by omega) (by omega) (by omega)]; exact rH.2.2.2.2.2.1 q hq
  · intro q hq; rw [ne _ (by omega) (by omega) (by omega) (by omega)]; exact rH.2.2.2.2.2.2.1 q hq
  · intro q hq
    have hq' : q < hL H := hq
    rw [ne _ (by omega) (by omega) (by omega) (by omega)]; exact rH.2.2.2.2.2.2.2.1 q hq
  · intro i hi
    by_cases e : i = m
    · subst e
      have e0 := nm 0 (by omega)
      rw [Nat.add_zero] at e0
      rw [e0, nm 2 (by omega), k3m, k4m]
      exact ⟨rfl, rfl⟩
    · rw [ne _ (by omega) (by omega) (by omega) (by omega), ne _ (by omega) (by omega) (by omega) (by omega), k3 i e, k4 i e]
      exact rH.2.2.2.2.2.2.2.2.1 i (by omega)
  · intro q hq
    have hq' : q < hS H := hq
    rw [ne _ (by omega) (by omega) (by omega) (by omega), ne _ (by omega) (by omega) (by omega) (by omega), ne _ (by omega) (by omega) (by omega) (by omega)]
    exact rH.2.2.2.2.2.2.2.2.2 q hq
  · rw [ne 3 (by omega) (by omega) (by omega) (by omega)]; exact rs.1
  · by_cases e : i = m
    · subst e
      rw [nm 1 (by omega), nm 3 (by omega), nm 4 (by omega), nm 5 (by omega), nm 6 (by omega), s0, s1, s2, s3, s4]
      exact ⟨rfl, rfl, rfl, rfl, rfl⟩
    · rw [ne _ (by omega) (by omega) (by omega) (by omega), ne _ (by omega) (by omega) (by omega) (by omega), ne _ (by omega) (by omega) (by omega) (by omega), ne _ (by omega) (by omega) (by omega) (by omega), ne _ (by omega) (by omega) (by omega) (by omega), sv 0 i e, sv 1 i e, sv 2 i e, sv 3 i e, sv 4 i e]
      exact rs.2 i (by omega)
theorem ST.seen {m : Nat} {c r p : Int32} (a : ST k H s z T N) (hm : hS H = m) (h6 : m < 6) : ST k (sS (sA (sA (sA H 5 m c) 6 m r) 7 m p) 4 (nI (m + 1))) s z T (upd (upd (upd (upd N (133 + 3 * m) c) (133 + 3 * m + 1) r) (133 + 3 * m + 2) p) 5 (nI (m + 1))) := by
  obtain ⟨wo, ws, wt, rH, rs, rp⟩ := a
  have h12 := wo.1.2.2.2.2
  have hm6 := wo.1.2.1
  have hs : hS (sS (sA (sA (sA H 5 m c) 6 m r) 7 m p) 4 (nI (m + 1))) = m + 1 := by show (nI (m + 1)).toNatClampNeg = m + 1; exact nI_clamp (by omega)
  have ne : ∀ q, ¬ q = 5 → ¬ (133 + 3 * m ≤ q ∧ q < 133 + 3 * m + 3) → (upd (upd (upd (upd N (133 + 3 * m) c) (133 + 3 * m + 1) r) (133 + 3 * m + 2) p) 5 (nI (m + 1))) q = N q := fun q h1 h2 => by
    simp only [upd]
    rw [if_neg h1, if_neg (by omega), if_neg (by omega), if_neg (by omega)]
  refine ST.chg0 (H := H) (N := N) ⟨wo, ws, wt, rH, rs, rp⟩ ⟨wo.1, ⟨?_, by omega⟩, wo.2.2.1, wo.2.2.2.1, wo.2.2.2.2⟩ rfl ⟨?_, ?_, ?_, ?_, ?_, ?_, ?_, ?_, ?_, ?_⟩ (fun q hq => ne q (by omega) (by omega))
  · rw [hs]; rfl
  · rw [ne 0 (by omega) (by omega)]; exact rH.1
  · rw [ne 1 (by omega) (by omega)]; exact rH.2.1
  · rw [ne 2 (by omega) (by omega)]; exact rH.2.2.1
  · rw [ne 4 (by omega) (by omega)]; exact rH.2.2.2.1
  · rfl
  · intro q hq; rw [ne _ (by omega) (by omega)]; exact rH.2.2.2.2.2.1 q hq
  · intro q hq; rw [ne _ (by omega) (by omega)]; exact rH.2.2.2.2.2.2.1 q hq
  · intro q hq
    have hq' : q < hL H := hq
    rw [ne _ (by omega) (by omega)]; exact rH.2.2.2.2.2.2.2.1 q hq
  · intro q hq
    have hq' : q < hM H := hq
    rw [ne _ (by omega) (by omega), ne _ (by omega) (by omega)]; exact rH.2.2.2.2.2.2.2.2.1 q hq
  · intro q hq
    by_cases e : q = m
    · subst e
      rw [upd_v, if_neg (show ¬ 133 + 3 * q = 5 by omega), upd_v, if_neg (show ¬ 133 + 3 * q = 133 + 3 * q + 2 by omega), upd_v, if_neg (show ¬ 133 + 3 * q = 133 + 3 * q + 1 by omega), upd_v, if_pos rfl]
      rw [upd_v, if_neg (show ¬ 133 + 3 * q + 1 = 5 by omega), upd_v, if_neg (show ¬ 133 + 3 * q + 1 = 133 + 3 * q + 2 by omega), upd_v, if_pos rfl]
      rw [upd_v, if_neg (show ¬ 133 + 3 * q + 2 = 5 by omega), upd_v, if_pos rfl]
      simp [sS_2, sA_2]
    · rw [ne _ (by omega) (by omega), ne _ (by omega) (by omega), ne _ (by omega) (by omega)]
      have := rH.2.2.2.2.2.2.2.2.2 q (by omega)
      simpa [sS_2, sA_2, e] using this
end
