/-! ===== what holds between the two objects ===== -/
def ptR (H : Blk) (z : Nat) (T : Nat → Blk) (N : Nat → Int32) : Prop := N 6 = nI z ∧ ∀ j, j < z → N (151 + 31 * j) = (T j).1 0 ∧ ∀ i, i < hM H → N (151 + 31 * j + 1 + 5 * i) = (T j).2 0 i ∧ N (151 + 31 * j + 2 + 5 * i) = (T j).2 1 i ∧ N (151 + 31 * j + 3 + 5 * i) = (T j).2 2 i ∧ N (151 + 31 * j + 4 + 5 * i) = (T j).2 3 i ∧ N (151 + 31 * j + 5 + 5 * i) = (T j).2 4 i
def scW (k : Nat) (H s : Blk) : Prop := wfN H s (999000 - k) ∧ wfT H s (999000 - k) ∧ Sin H s
def hoW (H : Blk) : Prop := wfH H ∧ wfE H ∧ wfK H ∧ wfD H ∧ wfC H
/-- a state of the class, and the same in the reference's row -/
def ST (k : Nat) (H s : Blk) (z : Nat) (T : Nat → Blk) (N : Nat → Int32) : Prop := hoW H ∧ scW k H s ∧ (∀ j, j < z → scW k H (T j)) ∧ hR H N ∧ sR H s N ∧ ptR H z T N
theorem scW.up {k : Nat} {H s : Blk} (w : scW k H s) : scW (k + 1) H s := ⟨w.1.le (by omega), w.2.1.le (by omega), w.2.2⟩
theorem ST.up {k : Nat} {H s : Blk} {z : Nat} {T : Nat → Blk} {N : Nat → Int32} (a : ST k H s z T N) : ST (k + 1) H s z T N := ⟨a.1, a.2.1.up, fun j hj => (a.2.2.1 j hj).up, a.2.2.2⟩
def InvX (B k : Nat) (X : Nat → Blk) (P : Nat → Pst) (L : Nat → Nat → Int64) (q : Nat → Nat → Nat) : Prop :=
  (okP (B + 16) (P 0).2.1 (q 0) ∧ okP (B + 124) (P 1).2.1 (q 1) ∧ okP (B + 189) (P 2).2.1 (q 2)) ∧ ((P 0).1 ≤ 8 ∧ (P 1).1 ≤ 8 ∧ (P 2).1 ≤ 8) ∧
  ST k (X 1) (X 2) (P 0).1 (fun i => (P 0).2.2 (q 0 i)) ((X 16).2 0) ∧
  ((X 5).2 0 0 = (X 16).2 2 0 ∧ (X 5).2 0 1 = (X 16).2 2 1) ∧
  (¬ (X 5).2 0 0 = 0 → ST k (X 12) (X 13) (P 1).1 (fun i => (P 1).2.2 (q 1 i)) (fun j => (X 16).2 1 j)) ∧
  (¬ (X 5).2 0 1 = 0 → ST k (X 14) (X 15) (P 2).1 (fun i => (P 2).2.2 (q 2 i)) (fun j => (X 16).2 1 (399 + j))) ∧
  ((X 16).2 3 0 = (X 0).1 1 ∧ (X 16).2 3 1 = (X 0).1 2 ∧ (X 16).2 3 2 = (X 0).1 3) ∧
  ((X 16).1 2 = (X 0).1 0 ∧ ∃ n, n ≤ 150 ∧ (X 0).1 0 = nI n ∧ ∀ j, j < n → (X 11).2 0 j = (X 16).2 13 j ∧ inR ((X 16).2 13 j) 128 = true) ∧
  L 0 0 = L 1 0 ∧ L 0 1 = L 1 1
def Inv (B k : Nat) (h : Hea) : Prop := ∃ X P L R t q, Wd B X P L R t h ∧ InvX B k X P L q
theorem InvX.up {B k : Nat} {X : Nat → Blk} {P : Nat → Pst} {L : Nat → Nat → Int64} {q : Nat → Nat → Nat} (a : InvX B k X P L q) : InvX B (k + 1) X P L q := ⟨a.1, a.2.1, a.2.2.1.up, a.2.2.2.1, fun h => (a.2.2.2.2.1 h).up, fun h => (a.2.2.2.2.2.1 h).up, a.2.2.2.2.2.2⟩
theorem Inv.up {B k : Nat} {h : Hea} (a : Inv B k h) : Inv B (k + 1) h := by
  obtain ⟨X, P, L, R, t, q, w, i⟩ := a
  exact ⟨X, P, L, R, t, q, w, i.up⟩
/-- one call on both sides -/
def Both (B k : Nat) (h : Hea) (F : Hea → Option (Int32 × Hea)) (G : Hea → Option (Int32 × Hea)) : Prop := ∃ x h1 h2, F h = some (x, h1) ∧ G h1 = some (x, h2) ∧ (isO h1 (B + 239) 8 = some ()) ∧ Inv B (k + 1) h2
/-! numbers within bounds -/
theorem wi_v (a lo hi : Int32) : f_X7_within a lo hi = some (if a < lo ∨ hi < a then 0 else 1) := by
  rw [f_X7_within]
  by_cases h1 : a < lo
  · rw [if_pos h1, if_pos (Or.inl h1)]; rfl
  · by_cases h2 : hi < a
    · rw [if_neg h1, if_pos h2, if_pos (Or.inr h2)]; rfl
    · rw [if_neg h1, if_neg h2, if_neg (fun e => e.elim h1 h2)]; rfl
theorem w32_lt (a b : Int32) : a.toInt64 < b.toInt64 ↔ a < b := by rw [Int64.lt_iff_toInt_lt, Int32.lt_iff_toInt_lt, Int32.toInt_toInt64, Int32.toInt_toInt64]
theorem in_v (a lo hi : Int32) : f_X8_in a.toInt64 lo.toInt64 hi.toInt64 = some (if a < lo ∨ hi < a then 0 else 1) := by
  rw [f_X8_in]
  simp only [lg_cmp_lt, lg_cmp_gt, w32_lt]
  by_cases h1 : a < lo
  · rw [if_pos h1, if_pos (Or.inl h1)]; rfl
  · by_cases h2 : hi < a
    · rw [if_neg h1, if_pos h2, if_pos (Or.inr h2)]; rfl
    · rw [if_neg h1, if_neg h2, if_neg (fun e => e.elim h1 h2)]; rfl
/-- inside the bounds it is a small number -/
theorem wi_n {a : Int32} {hi : Nat} (hh : hi < 2147483647) (h : ¬ (a < 0 ∨ nI hi < a)) : ∃ j, j ≤ hi ∧ a = nI j := by
  obtain ⟨j, hj, rfl⟩ := nI_of (fun e => h (Or.inl e))
  refine ⟨j, ?_, rfl⟩
  by_cases h1 : hi < j
  · exact absurd (nI_lt h1 (by omega)) (fun e => h (Or.inr e))
  · omega
theorem rm_v (a : Int32) : f_X7_isRoom a = some (if a < 0 ∨ 7 < a then 0 else 1) := by
  rw [f_X7_isRoom, wi_v, b_some]
  split <;> rfl
theorem rm8_v (a : Int32) : f_X8_isRoom a = some (if a < 0 ∨ 7 < a then 0 else 1) := by
  rw [f_X8_isRoom, show (0 : Int64) = (0 : Int32).toInt64 from rfl, show (7 : Int64) = (7 : Int32).toInt64 from rfl, in_v, b_some]
  split <;> rfl
section
variable {B k : Nat} {h : Hea}
theorem wd_cls {X : Nat → Blk} {P : Nat → Pst} {L : Nat → Nat → Int64} {R : Nat → Nat → Nat → Int64} {t : Nat} (w : Wd B X P L R t h) : h = blk B (flL B (X 0) (L 0)) h := ((wd_fl w).eq).symm
/-! refused: both count it, and answer alike -/
theorem inv_bad {X : Nat → Blk} {P : Nat → Pst} {L : Nat → Nat → Int64} {R : Nat → Nat → Nat → Int64} {t : Nat} {q : Nat → Nat → Nat} (w : Wd B X P L R t h) (i : InvX B k X P L q) : ∃ h1 h2, f_X7_refuseBad h B = some (-2, h1) ∧ (∀ x, f_X8_bad h1 (B + 239) x = some (x, h2)) ∧ isO h B 7 = some () ∧ isO h1 (B + 239) 8 = some () ∧ Inv B (k + 1) h2 ∧ At h1 (B + 239) (mdL (B + 239) (X 16) (L 1) (R 1)) := by
  have w1 := wu_fl w (sS (X 0) 1 ((X 0).1 1 + 1)) (L 0)
  have aM : At (blk B (flL B (sS (X 0) 1 ((X 0).1 1 + 1)) (L 0)) h) (B + 239) (mdL (B + 239) (X 16) (L 1) (R 1)) := by
    have q := wd_md w1
    exact q
  have w2 := wu_md w1 (sA (X 16) 3 0 ((X 16).2 3 0 + 1)) (L 1) (R 1)
  refine ⟨_, _, ?_, fun x => ?_, fl_o (wd_fl w), md_o aM, ⟨_, _, _, _, _, q, w2, ?_⟩, aM⟩
  · have p := fl_p14 (h := h) (b := B) (g := X 0) (l := L 0) (x := (X 0).1 1 + 1)
    rw [(wd_fl w).eq] at p
    rw [f_X7_refuseBad, fl_f14 (wd_fl w), b_some, pI, p, b_some]
  · have p := md_w4 (h := blk B (flL B (sS (X 0) 1 ((X 0).1 1 + 1)) (L 0)) h) (b := B + 239) (s := X 16) (l := L 1) (r := R 1) (i := 0) (x := (X 16).2 3 0 + 1) (by omega)
    rw [aM.eq, nI_0] at p
    have p2 := md_m4 aM (i := 0) (by omega)
    rw [nI_0] at p2
    rw [f_X8_bad, md_f3 aM, b_some, p2, b_some, p, b_some]
  · obtain ⟨i1, i2, i3, i4, i5, i6, i7, i8, i9⟩ := i.up
    exact ⟨i1, i2, i3, i4, i5, i6, ⟨by show (sA (X 16) 3 0 _).2 3 0 = _; rw [sA_2, if_pos ⟨rfl, rfl⟩, i7.1]; rfl, by show (sA (X 16) 3 0 _).2 3 1 = _; rw [sA_2, if_neg (by omega), i7.2.1]; rfl, by show (sA (X 16) 3 0 _).2 3 2 = _; rw [sA_2, if_neg (by omega), i7.2.2]; rfl⟩, i8, i9⟩
theorem inv_no {X : Nat → Blk} {P : Nat → Pst} {L : Nat → Nat → Int64} {R : Nat → Nat → Nat → Int64} {t : Nat} {q : Nat → Nat → Nat} (w : Wd B X P L R t h) (i : InvX B k X P L q) : ∃ h1 h2, f_X7_refuseNo h B = some (-3, h1) ∧ f_X8_no h1 (B + 239) = some (-3, h2) ∧ isO h B 7 = some () ∧ isO h1 (B + 239) 8 = some () ∧ Inv B (k + 1) h2 ∧ At h1 (B + 239) (mdL (B + 239) (X 16) (L 1) (R 1)) := by
  have w1 := wu_fl w (sS (X 0) 2 ((X 0).1 2 + 1)) (L 0)
  have aM : At (blk B (flL B (sS (X 0) 2 ((X 0).1 2 + 1)) (L 0)) h) (B + 239) (mdL (B + 239) (X 16) (L 1) (R 1)) := by
    have q := wd_md w1
    exact q
  have w2 := wu_md w1 (sA (X 16) 3 1 ((X 16).2 3 1 + 1)) (L 1) (R 1)
  refine ⟨_, _, ?_, ?_, fl_o (wd_fl w), md_o aM, ⟨_, _, _, _, _, q, w2, ?_⟩, aM⟩
  · have p := fl_p15 (h := h) (b := B) (g := X 0) (l := L 0) (x := (X 0).1 2 + 1)
    rw [(wd_fl w).eq] at p
    rw [f_X7_refuseNo, fl_f15 (wd_fl w), b_some, pI, p, b_some]
  · have p := md_w4 (h := blk B (flL B (sS (X 0) 2 ((X 0).1 2 + 1)) (L 0)) h) (b := B + 239) (s := X 16) (l := L 1) (r := R 1) (i := 1) (x := (X 16).2 3 1 + 1) (by omega)
    rw [aM.eq, show nI 1 = 1 from rfl] at p
    have p2 := md_m4 aM (i := 1) (by omega)
    rw [show nI 1 = 1 from rfl] at p2
    rw [f_X8_no, md_f3 aM, b_some, p2, b_some, p, b_some]
  · obtain ⟨i1, i2, i3, i4, i5, i6, i7, i8, i9⟩ := i.up
    exact ⟨i1, i2, i3, i4, i5, i6, ⟨by show (sA (X 16) 3 1 _).2 3 0 = _; rw [sA_2, if_neg (by omega), i7.1]; rfl, by show (sA (X 16) 3 1 _).2 3 1 = _; rw [sA_2, if_pos ⟨rfl, rfl⟩, i7.2.1]; rfl, by show (sA (X 16) 3 1 _).2 3 2 = _; rw [sA_2, if_neg (by omega), i7.2.2]; rfl⟩, i8, i9⟩
theorem inv_full {X : Nat → Blk} {P : Nat → Pst} {L : Nat → Nat → Int64} {R : Nat → Nat → Nat → Int64} {t : Nat} {q : Nat → Nat → Nat} (w : Wd B X P L R t h) (i : InvX B k X P L q) : ∃ h1 h2, f_X7_refuseFull h B = some (-4, h1) ∧ f_X8_full h1 (B + 239) = some (-4, h2) ∧ isO h B 7 = some () ∧ isO h1 (B + 239) 8 = some () ∧ Inv B (k + 1) h2 ∧ At h1 (B + 239) (mdL (B + 239) (X 16) (L 1) (R 1)) := by
  have w1 := wu_fl w (sS (X 0) 3 ((X 0).1 3 + 1)) (L 0)
  have aM : At (blk B (flL B (sS (X 0) 3 ((X 0).1 3 + 1)) (L 0)) h) (B + 239) (mdL (B + 239) (X 16) (L 1) (R 1)) := by
    have q := wd_md w1
    exact q
  have w2 := wu_md w1 (sA (X 16) 3 2 ((X 16).2 3 2 + 1)) (L 1) (R 1)
  refine ⟨_, _, ?_, ?_, fl_o (wd_fl w), md_o aM, ⟨_, _, _, _, _, q, w2, ?_⟩, aM⟩
  · have p := fl_p16 (h := h) (b := B) (g := X 0) (l := L 0) (x := (X 0).1 3 + 1)
    rw [(wd_fl w).eq] at p
    rw [f_X7_refuseFull, fl_f16 (wd_fl w), b_some, pI, p, b_some]
  · have p := md_w4 (h := blk B (flL B (sS (X 0) 3 ((X 0).1 3 + 1)) (L 0)) h) (b := B + 239) (s := X 16) (l := L 1) (r := R 1) (i := 2) (x := (X 16).2 3 2 + 1) (by omega)
    rw [aM.eq, show nI 2 = 2 from rfl] at p
    have p2 := md_m4 aM (i := 2) (by omega)
    rw [show nI 2 = 2 from rfl] at p2
    rw [f_X8_full, md_f3 aM, b_some, p2, b_some, p, b_some]
  · obtain ⟨i1, i2, i3, i4, i5, i6, i7, i8, i9⟩ := i.up
    exact ⟨i1, i2, i3, i4, i5, i6, ⟨by show (sA (X 16) 3 2 _).2 3 0 = _; rw [sA_2, if_neg (by omega), i7.1]; rfl, by show (sA (X 16) 3 2 _).2 3 1 = _; rw [sA_2, if_neg (by omega), i7.2.1]; rfl, by show (sA (X 16) 3 2 _).2 3 2 = _; rw [sA_2, if_pos ⟨rfl, rfl⟩, i7.2.2]; rfl⟩, i8, i9⟩
end
