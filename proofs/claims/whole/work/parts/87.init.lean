/-! ===== the constructors ===== -/
def zB : Blk := (fun _ => 0, fun _ _ => 0)
def Kp (E : Nat → Prop) (h h' : Hea) : Prop := h.1 ≤ h'.1 ∧ ∀ q, ¬ E q → q < h.1 → h'.2 q = h.2 q
theorem Kp.trans {E : Nat → Prop} {h h' h'' : Hea} (a : Kp E h h') (b : Kp E h' h'') : Kp E h h'' := ⟨Nat.le_trans a.1 b.1, fun q h1 h2 => by rw [b.2 q h1 (by have := a.1; omega), a.2 q h1 h2]⟩
theorem Kp.weak {E E' : Nat → Prop} {h h' : Hea} (a : Kp E h h') (e : ∀ q, E q → E' q) : Kp E' h h' := ⟨a.1, fun q h1 h2 => a.2 q (fun x => h1 (e q x)) h2⟩
theorem Kp.at {E : Nat → Prop} {h h' : Hea} (a : Kp E h h') {b : Nat} (n : Nat) {f : Nat → Option Cel} (t : At h b f) (hf : ∀ k, n ≤ k → f k = none) (hb : b + n ≤ h.1) (hE : ∀ k, k < n → ¬ E (b + k)) : At h' b f := fun k c e => by
  by_cases hk : k < n
  · rw [a.2 _ (hE k hk) (by omega)]; exact t k c e
  · rw [hf k (by omega)] at e; cases e
theorem At_mk {h : Hea} {b : Nat} (n : Nat) {f : Nat → Option Cel} (H : ∀ k, k < n → h.2 (b + k) = f k) (hf : ∀ k, n ≤ k → f k = none) : At h b f := fun k c e => by
  by_cases hk : k < n
  · rw [H k hk]; exact e
  · rw [hf k (by omega)] at e; cases e
/-- n cells f are new, nothing below has changed -/
def Mk (n : Nat) (f : Nat → Option Cel) (h h' : Hea) : Prop := h'.1 = h.1 + n ∧ At h' h.1 f ∧ ∀ q, q < h.1 → h'.2 q = h.2 q
theorem hnew_o (h : Hea) (c : Cel) : (hnew h c).2 h.1 = some c := by simp [hnew]
theorem hnew_lo {h : Hea} {c : Cel} {q : Nat} (hq : q < h.1) : (hnew h c).2 q = h.2 q := by
  simp only [hnew]
  rw [if_neg (by omega)]
theorem st_put (h : Hea) {a ci k : Nat} {fs : List Value} {v : Value} (ho : h.2 a = some (cO ci fs)) (hk : k < fs.length) : ∃ h1, pV h a ci k v = some h1 ∧ h1.1 = h.1 ∧ h1.2 a = some (cO ci (fs.set k v)) ∧ Kp (fun q => q = a) h h1 := by
  refine ⟨hup h a (cO ci (fs.set k v)), pV_at ho hk, rfl, by simp [hup], Nat.le_refl _, fun q h1 _ => ?_⟩
  show (if q = a then _ else h.2 q) = _
  rw [if_neg h1]
theorem st_nw (h : Hea) (c : Cel) {a ci k : Nat} {fs : List Value} (ha : a < h.1) (ho : h.2 a = some (cO ci fs)) (hk : k < fs.length) : ∃ h1, (∀ (ρ : Type) (K : Hea → Option ρ), bind2 (nwO h c) (fun q h' => (pR h' a ci k q).bind K) = K h1) ∧ h1.1 = h.1 + 1 ∧ h1.2 a = some (cO ci (fs.set k (.ref h.1))) ∧ h1.2 h.1 = some c ∧ Kp (fun q => q = a) h h1 := by
  have hA : (hnew h c).2 a = some (cO ci fs) := by rw [hnew_lo ha]; exact ho
  refine ⟨hup (hnew h c) a (cO ci (fs.set k (.ref h.1))), fun ρ K => ?_, rfl, by simp [hup], ?_, Nat.le_succ _, fun q h1 h2 => ?_⟩
  · show (pV (hnew h c) a ci k (.ref h.1)).bind K = _
    rw [pV_at hA hk]; rfl
  · show (if h.1 = a then _ else (hnew h c).2 h.1) = _
    rw [if_neg (by omega), hnew_o]
  · show (if q = a then _ else (hnew h c).2 q) = _
    rw [if_neg h1, hnew_lo h2]
theorem st_sub {h : Hea} (F : Hea → Nat → Option Hea) {n : Nat} {f : Nat → Option Cel} {c0 : Cel} (mk : ∃ h', F (hnew h c0) h.1 = some h' ∧ Mk n f h h') {a ci k : Nat} {fs : List Value} (ha : a < h.1) (ho : h.2 a = some (cO ci fs)) (hk : k < fs.length) : ∃ h1, (∀ (ρ : Type) (K : Hea → Option ρ), bind2 (nwO h c0) (fun q h' => (F h' q).bind fun h'' => (pR h'' a ci k q).bind K) = K h1) ∧ h1.1 = h.1 + n ∧ h1.2 a = some (cO ci (fs.set k (.ref h.1))) ∧ At h1 h.1 f ∧ Kp (fun q => q = a) h h1 := by
  obtain ⟨h', e1, e2, e3, e4⟩ := mk
  have hA : h'.2 a = some (cO ci fs) := by rw [e4 a ha]; exact ho
  refine ⟨hup h' a (cO ci (fs.set k (.ref h.1))), fun ρ K => ?_, e2, by simp [hup], fun j c e => ?_, by show h.1 ≤ h'.1; omega, fun q h1 h2 => ?_⟩
  · show (F (hnew h c0) h.1).bind (fun h'' => (pV h'' a ci k (.ref h.1)).bind K) = _
    rw [e1, b_some, pV_at hA hk]; rfl
  · show (if h.1 + j = a then _ else h'.2 (h.1 + j)) = _
    rw [if_neg (by omega)]; exact e3 j c e
  · show (if q = a then _ else h'.2 q) = _
    rw [if_neg h1, e4 q h2]
theorem stR_at {h : Hea} {a x kd ci n i : Nat} {f : Nat → Option Nat} {fs : List Value} (h1 : h.2 a = some (cR kd n f)) (h2 : h.2 x = some (cO ci fs)) (hi : i < n) (hn : n < 2147483648) : stR h kd ci a (nI i) x = some (hup h a (cR kd n (va_up f i (some x)))) := by
  simp only [stR, h1, h2, true_and, if_pos (inR_nI hi hn), nI_clamp (show i < 2 ^ 31 by omega)]
theorem st_arr {h : Hea} (F : Hea → Nat → Option Hea) {n : Nat} {f : Nat → Option Cel} {c0 : Cel} (mk : ∃ h', F (hnew h c0) h.1 = some h' ∧ Mk n f h h') {o co fo arr kd ci m i : Nat} {y : Int32} {g : Nat → Option Nat} {fs : List Value} (hg : gR h o co fo = some arr) (ha : arr < h.1) (hr : h.2 arr = some (cR kd m g)) (f0 : f 0 = some (cO ci fs)) (hi : i < m) (hm : m < 2147483648) (hy : y = nI i) : ∃ h1, (∀ (ρ : Type) (K : Hea → Option ρ), ((gR h o co fo).bind fun x => bind2 (nwO h c0) (fun q h' => (F h' q).bind fun h'' => (stR h'' kd ci x y q).bind K)) = K h1) ∧ h1.1 = h.1 + n ∧ h1.2 arr = some (cR kd m (va_up g i (some h.1))) ∧ At h1 h.1 f ∧ Kp (fun q => q = arr) h h1 := by
  subst hy
  obtain ⟨h', e1, e2, e3, e4⟩ := mk
  have hA : h'.2 arr = some (cR kd m g) := by rw [e4 arr ha]; exact hr
  have hB : h'.2 h.1 = some (cO ci fs) := e3 0 _ f0
  refine ⟨hup h' arr (cR kd m (va_up g i (some h.1))), fun ρ K => ?_, e2, by simp [hup], fun j c e => ?_, by show h.1 ≤ h'.1; omega, fun q h1 h2 => ?_⟩
  · rw [hg, b_some]
    show (F (hnew h c0) h.1).bind (fun h'' => (stR h'' kd ci arr (nI i) h.1).bind K) = _
    rw [e1, b_some, stR_at hA hB hi hm]; rfl
  · show (if h.1 + j = arr then _ else h'.2 (h.1 + j)) = _
    rw [if_neg (by omega)]; exact e3 j c e
  · show (if q = arr then _ else h'.2 q) = _
    rw [if_neg h1, e4 q h2]
theorem sn_hi0 {b k : Nat} {s : Blk} (e : 6 ≤ k) : snL b s k = none := sn_hi6 e
theorem mk_X3 (h : Hea) : ∃ h', f_X3_init (hnew h (cO 3 [.int 0, .null, .null, .null, .null, .null])) h.1 = some h' ∧ Mk 6 (snL h.1 zB) h h' := by
  have g1 : (hnew h (cO 3 [.int 0, .null, .null, .null, .null, .null])).1 = h.1 + 1 := rfl
  have o0 := hnew_o h (cO 3 [.int 0, .null, .null, .null, .null, .null])
  have k0 : ∀ q, q < h.1 → (hnew h (cO 3 [.int 0, .null, .null, .null, .null, .null])).2 q = h.2 q := fun q hq => hnew_lo hq
  generalize hnew h (cO 3 [.int 0, .null, .null, .null, .null, .null]) = g at *
  unfold Mk
  generalize h.1 = a at *
  obtain ⟨h1, e1, n1, o1, K1⟩ := st_put g (k := 0) (v := .int 0) o0 (Nat.le_of_ble_eq_true rfl)
  obtain ⟨h2, e2, n2, o2, c2, K2⟩ := st_nw h1 (cI 0 6 (fun _ => 0)) (k := 1) (by omega) o1 (Nat.le_of_ble_eq_true rfl)
  obtain ⟨h3, e3, n3, o3, c3, K3⟩ := st_nw h2 (cI 0 6 (fun _ => 0)) (k := 2) (by omega) o2 (Nat.le_of_ble_eq_true rfl)
  obtain ⟨h4, e4, n4, o4, c4, K4⟩ := st_nw h3 (cI 0 6 (fun _ => 0)) (k := 3) (by omega) o3 (Nat.le_of_ble_eq_true rfl)
  obtain ⟨h5, e5, n5, o5, c5, K5⟩ := st_nw h4 (cI 0 6 (fun _ => 0)) (k := 4) (by omega) o4 (Nat.le_of_ble_eq_true rfl)
  obtain ⟨h6, e6, n6, o6, c6, K6⟩ := st_nw h5 (cI 0 6 (fun _ => 0)) (k := 5) (by omega) o5 (Nat.le_of_ble_eq_true rfl)
  have a1 : h1.1 = a + 1 := by omega
  have a2 : h2.1 = a + 2 := by omega
  have a3 : h3.1 = a + 3 := by omega
  have a4 : h4.1 = a + 4 := by omega
  have a5 : h5.1 = a + 5 := by omega
  rw [a1, a2, a3, a4, a5] at o6
  rw [a1] at c2; rw [a2] at c3; rw [a3] at c4; rw [a4] at c5; rw [a5] at c6
  have K56 := K6
  have K46 := K5.trans K6
  have K36 := K4.trans K46
  have K26 := K3.trans K36
  refine ⟨h6, ?_, by omega, At_mk 6 (fun k hk => ?_) (fun k hk => sn_hi6 hk), fun q hq => ?_⟩
  · rw [f_X3_init, pI, e1, b_some, e2, e3, e4, e5, e6]
  · rcases (show k = 0 ∨ k = 1 ∨ k = 2 ∨ k = 3 ∨ k = 4 ∨ k = 5 by omega) with rfl | rfl | rfl | rfl | rfl | rfl
    · exact o6
    · rw [K26.2 _ (by omega) (by omega)]; exact c2
    · rw [K36.2 _ (by omega) (by omega)]; exact c3
    · rw [K46.2 _ (by omega) (by omega)]; exact c4
    · rw [K56.2 _ (by omega) (by omega)]; exact c5
    · exact c6
  · rw [(K1.trans (K2.trans K26)).2 q (by omega) (by omega), k0 q hq]
theorem mk_X1 (h : Hea) : ∃ h', f_X1_init (hnew h (cO 1 [.int 0, .int 0, .null, .null, .null, .int 0, .int 0, .null, .null, .null, .int 0, .null, .null, .null])) h.1 = some h' ∧ Mk 15 (hhL h.1 (beginH zB 10 3) (sS zB 0 0)) h h' := by
  have g1 : (hnew h (cO 1 [.int 0, .int 0, .null, .null, .null, .int 0, .int 0, .null, .null, .null, .int 0, .null, .null, .null])).1 = h.1 + 1 := rfl
  have o0 := hnew_o h (cO 1 [.int 0, .int 0, .null, .null, .null, .int 0, .int 0, .null, .null, .null, .int 0, .null, .null, .null])
  have k0 : ∀ q, q < h.1 → (hnew h (cO 1 [.int 0, .int 0, .null, .null, .null, .int 0, .int 0, .null, .null, .null, .int 0, .null, .null, .null])).2 q = h.2 q := fun q hq => hnew_lo hq
  generalize hnew h (cO 1 [.int 0, .int 0, .null, .null, .null, .int 0, .int 0, .null, .null, .null, .int 0, .null, .null, .null]) = g at *
  unfold Mk
  generalize h.1 = a at *
  obtain ⟨h1, e1, n1, o1, c1, K1⟩ := st_nw g (cI 0 8 (fun _ => 0)) (k := 2) (by omega) o0 (Nat.le_of_ble_eq_true rfl)
  obtain ⟨h2, e2, n2, o2, c2, K2⟩ := st_nw h1 (cI 0 64 (fun _ => 0)) (k := 3) (by omega) o1 (Nat.le_of_ble_eq_true rfl)
  obtain ⟨h3, e3, n3, o3, c3, K3⟩ := st_nw h2 (cI 0 12 (fun _ => 0)) (k := 4) (by omega) o2 (Nat.le_of_ble_eq_true rfl)
  obtain ⟨h4, e4, n4, o4, c4, K4⟩ := st_nw h3 (cI 0 6 (fun _ => 0)) (k := 7) (by omega) o3 (Nat.le_of_ble_eq_true rfl)
  obtain ⟨h5, e5, n5, o5, c5, K5⟩ := st_nw h4 (cI 0 6 (fun _ => 0)) (k := 8) (by omega) o4 (Nat.le_of_ble_eq_true rfl)
  obtain ⟨h6, e6, n6, o6, c6, K6⟩ := st_sub f_X3_init (mk_X3 h5) (k := 9) (by omega) o5 (Nat.le_of_ble_eq_true rfl)
  obtain ⟨h7, e7, n7, o7, c7, K7⟩ := st_nw h6 (cI 0 6 (fun _ => 0)) (k := 11) (by omega) o6 (Nat.le_of_ble_eq_true rfl)
  obtain ⟨h8, e8, n8, o8, c8, K8⟩ := st_nw h7 (cI 0 6 (fun _ => 0)) (k := 12) (by omega) o7 (Nat.le_of_ble_eq_true rfl)
  obtain ⟨h9, e9, n9, o9, c9, K9⟩ := st_nw h8 (cI 0 6 (fun _ => 0)) (k := 13) (by omega) o8 (Nat.le_of_ble_eq_true rfl)
  have a0 : g.1 = a + 1 := g1
  have a1 : h1.1 = a + 2 := by omega
  have a2 : h2.1 = a + 3 := by omega
  have a3 : h3.1 = a + 4 := by omega
  have a4 : h4.1 = a + 5 := by omega
  have a5 : h5.1 = a + 6 := by omega
  have a6 : h6.1 = a + 12 := by omega
  have a7 : h7.1 = a + 13 := by omega
  have a8 : h8.1 = a + 14 := by omega
  rw [a0, a1, a2, a3, a4, a5, a6, a7, a8] at o9
  rw [a0] at c1; rw [a1] at c2; rw [a2] at c3; rw [a3] at c4; rw [a4] at c5; rw [a5] at c6; rw [a6] at c7; rw [a7] at c8; rw [a8] at c9
  have L8 := K9
  have L7 := K8.trans L8
  have L6 := K7.trans L7
  have L5 := K6.trans L6
  have L4 := K5.trans L5
  have L3 := K4.trans L4
  have L2 := K3.trans L3
  have L1 := K2.trans L2
  have c6' : ∀ j, j < 6 → h9.2 (a + 6 + j) = snL (a + 6) zB j := fun j hj => by
    rw [L6.2 _ (by omega) (by omega)]
    rcases (show j = 0 ∨ j = 1 ∨ j = 2 ∨ j = 3 ∨ j = 4 ∨ j = 5 by omega) with rfl | rfl | rfl | rfl | rfl | rfl <;> exact c6 _ _ rfl
  have aH : At h9 a (hhL a zB zB) := At_mk 15 (fun k hk => by
    rcases (show k = 0 ∨ k = 1 ∨ k = 2 ∨ k = 3 ∨ k = 4 ∨ k = 5 ∨ k = 6 ∨ k = 7 ∨ k = 8 ∨ k = 9 ∨ k = 10 ∨ k = 11 ∨ k = 12 ∨ k = 13 ∨ k = 14 by omega) with rfl | rfl | rfl | rfl | rfl | rfl | rfl | rfl | rfl | rfl | rfl | rfl | rfl | rfl | rfl
    · exact o9
    · rw [L1.2 _ (by omega) (by omega)]; exact c1
    · rw [L2.2 _ (by omega) (by omega)]; exact c2
    · rw [L3.2 _ (by omega) (by omega)]; exact c3
    · rw [L4.2 _ (by omega) (by omega)]; exact c4
    · rw [L5.2 _ (by omega) (by omega)]; exact c5
    · exact c6' 0 (by omega)
    · exact c6' 1 (by omega)
    · exact c6' 2 (by omega)
    · exact c6' 3 (by omega)
    · exact c6' 4 (by omega)
    · exact c6' 5 (by omega)
    · rw [L7.2 _ (by omega) (by omega)]; exact c7
    · rw [L8.2 _ (by omega) (by omega)]; exact c8
    · exact c9) (fun k hk => hh_hi hk)
  have rs := g_restart (h := h9) (b := a) (H := zB) (s := zB) (e := 10) (r := 3)
  rw [aH.eq] at rs
  refine ⟨_, ?_, by show h9.1 = _; omega, blk_at _ _ _, fun q hq => ?_⟩
  · rw [f_X1_init, e1, e2, e3, e4, e5, e6, e7, e8, e9, hh_o aH, b_some, rs, b_some]
  · rw [blk_out (fun k e => by omega), (K1.trans L1).2 q (by omega) (by omega), k0 q hq]
/-- where a new past's scenes lie -/
def pf (a : Nat) : Nat → Option Nat := va_up (va_up (va_up (va_up (va_up (va_up (va_up (va_up (fun _ => none) 0 (some (a + 2))) 1 (some (a + 8))) 2 (some (a + 14))) 3 (some (a + 20))) 4 (some (a + 26))) 5 (some (a + 32))) 6 (some (a + 38))) 7 (some (a + 44))
theorem pf_ok (a : Nat) : okP a (pf a) (fun i => i) := by
  refine ⟨fun i hi => ⟨?_, hi⟩, fun i j _ _ e => e⟩
  rcases (show i = 0 ∨ i = 1 ∨ i = 2 ∨ i = 3 ∨ i = 4 ∨ i = 5 ∨ i = 6 ∨ i = 7 by omega) with rfl | rfl | rfl | rfl | rfl | rfl | rfl | rfl <;> rfl
theorem mk_X2 (h : Hea) : ∃ h', f_X2_init (hnew h (cO 2 [.null, .int 0])) h.1 = some h' ∧ Mk 50 (pastL h.1 0 (pf h.1) (fun _ => zB)) h h' := by
  have g1 : (hnew h (cO 2 [.null, .int 0])).1 = h.1 + 1 := rfl
  have o0 := hnew_o h (cO 2 [.null, .int 0])
  have k0 : ∀ q, q < h.1 → (hnew h (cO 2 [.null, .int 0])).2 q = h.2 q := fun q hq => hnew_lo hq
  generalize hnew h (cO 2 [.null, .int 0]) = g at *
  unfold Mk
  generalize h.1 = a at *
  obtain ⟨h1, e1, n1, o1, c1, K1⟩ := st_nw g (cR 6 8 (fun _ => none)) (k := 0) (by omega) o0 (Nat.le_of_ble_eq_true rfl)
  obtain ⟨h2, e2, n2, o2, K2⟩ := st_put h1 (k := 1) (v := .int 0) o1 (Nat.le_of_ble_eq_true rfl)
  rw [show g.1 = a + 1 from g1] at o2 c1
  have K2' : Kp (fun q => q = a ∨ q = a + 1) g h2 := (K1.trans K2).weak (fun q e => Or.inl e)
  have r2 : h2.2 (a + 1) = some (cR 6 8 (fun _ => none)) := by rw [K2.2 _ (by omega) (by omega)]; exact c1
  have stp : ∀ (hh : Hea) (i : Nat) (y : Int32) (gg : Nat → Option Nat), i < 8 → y = nI i → hh.1 = a + 2 + 6 * i → hh.2 a = some (cO 2 [.ref (a + 1), .int 0]) → hh.2 (a + 1) = some (cR 6 8 gg) → ∃ h1, (∀ (ρ : Type) (K : Hea → Option ρ), ((gR hh a 2 0).bind fun x => bind2 (nwO hh (cO 3 [.int 0, .null, .null, .null, .null, .null])) (fun q h' => (f_X3_init h' q).bind fun h'' => (stR h'' 6 3 x y q).bind K)) = K h1) ∧ h1.1 = a + 2 + 6 * (i + 1) ∧ h1.2 a = some (cO 2 [.ref (a + 1), .int 0]) ∧ h1.2 (a + 1) = some (cR 6 8 (va_up gg i (some (a + 2 + 6 * i)))) ∧ At h1 (a + 2 + 6 * i) (snL (a + 2 + 6 * i) zB) ∧ Kp (fun q => q = a ∨ q = a + 1) hh h1 := by
    intro hh i y gg hi hy hn ho hr
    obtain ⟨h1, e1, n1, r1, t1, K1⟩ := st_arr f_X3_init (mk_X3 hh) (o := a) (co := 2) (fo := 0) (kd := 6) (gR_at ho rfl) (by omega) hr rfl hi (by omega) hy
    rw [hn] at n1 r1 t1
    exact ⟨h1, e1, by omega, by rw [K1.2 a (by omega) (by omega)]; exact ho, r1, t1, K1.weak (fun q e => Or.inr e)⟩
  obtain ⟨s0, f0, m0, o30, r30, t0, L0⟩ := stp h2 0 0 _ (by omega) rfl (by omega) o2 r2
  obtain ⟨s1, f1, m1, o31, r31, t1, L1⟩ := stp s0 1 1 _ (by omega) rfl (by omega) o30 r30
  obtain ⟨s2, f2, m2, o32, r32, t2, L2⟩ := stp s1 2 2 _ (by omega) rfl (by omega) o31 r31
  obtain ⟨s3, f3, m3, o33, r33, t3, L3⟩ := stp s2 3 3 _ (by omega) rfl (by omega) o32 r32
  obtain ⟨s4, f4, m4, o34, r34, t4, L4⟩ := stp s3 4 4 _ (by omega) rfl (by omega) o33 r33
  obtain ⟨s5, f5, m5, o35, r35, t5, L5⟩ := stp s4 5 5 _ (by omega) rfl (by omega) o34 r34
  obtain ⟨s6, f6, m6, o36, r36, t6, L6⟩ := stp s5 6 6 _ (by omega) rfl (by omega) o35 r35
  obtain ⟨s7, f7, m7, o37, r37, t7, L7⟩ := stp s6 7 7 _ (by omega) rfl (by omega) o36 r36
  have Z6 := L7
  have Z5 := L6.trans Z6
  have Z4 := L5.trans Z5
  have Z3 := L4.trans Z4
  have Z2 := L3.trans Z3
  have Z1 := L2.trans Z2
  have Z0 := L1.trans Z1
  have Zz := L0.trans Z0
  have tS : ∀ j, j < 8 → At s7 (a + 2 + 6 * j) (snL (a + 2 + 6 * j) zB) := fun j hj => by
    rcases (show j = 0 ∨ j = 1 ∨ j = 2 ∨ j = 3 ∨ j = 4 ∨ j = 5 ∨ j = 6 ∨ j = 7 by omega) with rfl | rfl | rfl | rfl | rfl | rfl | rfl | rfl
    · exact Z0.at 6 t0 (fun _ e => sn_hi6 e) (by omega) (fun k hk e => by omega)
    · exact Z1.at 6 t1 (fun _ e => sn_hi6 e) (by omega) (fun k hk e => by omega)
    · exact Z2.at 6 t2 (fun _ e => sn_hi6 e) (by omega) (fun k hk e => by omega)
    · exact Z3.at 6 t3 (fun _ e => sn_hi6 e) (by omega) (fun k hk e => by omega)
    · exact Z4.at 6 t4 (fun _ e => sn_hi6 e) (by omega) (fun k hk e => by omega)
    · exact Z5.at 6 t5 (fun _ e => sn_hi6 e) (by omega) (fun k hk e => by omega)
    · exact Z6.at 6 t6 (fun _ e => sn_hi6 e) (by omega) (fun k hk e => by omega)
    · exact t7
  refine ⟨s7, ?_, by omega, fun k c e => ?_, fun q hq => ?_⟩
  · rw [f_X2_init, e1, pI, e2, b_some, f0, f1, f2, f3, f4, f5, f6, f7]
  · by_cases c0 : k = 0
    · subst c0
      rw [← e]; exact o37
    · by_cases c1 : k = 1
      · subst c1
        rw [← e]; exact r37
      · by_cases c2 : k < 50
        · rw [pastL, if_neg c0, if_neg c1, if_pos c2] at e
          have hj : (k - 2) / 6 < 8 := by omega
          have := tS ((k - 2) / 6) hj ((k - 2) % 6) c e
          rw [show a + k = a + 2 + 6 * ((k - 2) / 6) + (k - 2) % 6 by omega]
          exact this
        · rw [pastL, if_neg c0, if_neg c1, if_neg c2] at e
          cases e
  · rw [(K2'.trans Zz).2 q (by omega) (by omega), k0 q hq]
