/-! ===== the constructors, to the end: laid by program ===== -/
theorem mk_X0 (h : Hea) : ∃ h', f_X0_init (hnew h (cO 0 [.null, .null])) h.1 = some h' ∧ Mk 8 (fcL (h.1) zB zB) h h' := by
  have g1 : (hnew h (cO 0 [.null, .null])).1 = h.1 + 1 := rfl
  have o0 := hnew_o h (cO 0 [.null, .null])
  have k0 : ∀ q, q < h.1 → (hnew h (cO 0 [.null, .null])).2 q = h.2 q := fun q hq => hnew_lo hq
  generalize hnew h (cO 0 [.null, .null]) = h0 at *
  unfold Mk
  generalize h.1 = a at *
  have a0 : h0.1 = a + 1 := g1
  obtain ⟨h1, e1, n1, o1, c1, K1⟩ := st_sub f_X3_init (mk_X3 h0) (k := 0) (by omega) o0 (Nat.le_of_ble_eq_true rfl)
  have a1 : h1.1 = a + 7 := n1.trans (congrArg (fun y => y + 6) a0)
  rw [a0] at o1
  replace o1 : h1.2 a = some (cO 0 [.ref (a + 1), .null]) := o1
  obtain ⟨h2, e2, n2, o2, c2, K2⟩ := st_nw h1 (cI 0 4 (fun _ => 0)) (k := 1) (by omega) o1 (Nat.le_of_ble_eq_true rfl)
  have a2 : h2.1 = a + 8 := n2.trans (congrArg (fun y => y + 1) a1)
  rw [a1] at o2
  replace o2 : h2.2 a = some (cO 0 [.ref (a + 1), .ref (a + 7)]) := o2
  rw [a0] at c1
  rw [a1] at c2
  have L1 := K2
  have L0 := K1.trans L1
  have aH : At h2 a (fcL (a) zB zB) := At_mk 8 (fun k hk => by
    rcases (show k = 0 ∨ k = 1 ∨ k = 2 ∨ k = 3 ∨ k = 4 ∨ k = 5 ∨ k = 6 ∨ k = 7 by omega) with rfl | rfl | rfl | rfl | rfl | rfl | rfl | rfl
    · exact o2
    · rw [L1.2 _ (by omega) (by omega)]; exact c1 0 _ rfl
    · rw [L1.2 _ (by omega) (by omega)]; exact c1 1 _ rfl
    · rw [L1.2 _ (by omega) (by omega)]; exact c1 2 _ rfl
    · rw [L1.2 _ (by omega) (by omega)]; exact c1 3 _ rfl
    · rw [L1.2 _ (by omega) (by omega)]; exact c1 4 _ rfl
    · rw [L1.2 _ (by omega) (by omega)]; exact c1 5 _ rfl
    · exact c2
    ) (fun k hk => fc_hi hk)
  refine ⟨h2, ?_, by omega, aH, fun q hq => ?_⟩
  · rw [f_X0_init, e1, e2]
  · rw [L0.2 q (by omega) (by omega), k0 q hq]
theorem mk_X6 (h : Hea) : ∃ h', f_X6_init (hnew h (cO 6 [.int 0, .int 0, .null, .null, .null])) h.1 = some h' ∧ Mk 9 (wfL (h.1) zB zB) h h' := by
  have g1 : (hnew h (cO 6 [.int 0, .int 0, .null, .null, .null])).1 = h.1 + 1 := rfl
  have o0 := hnew_o h (cO 6 [.int 0, .int 0, .null, .null, .null])
  have k0 : ∀ q, q < h.1 → (hnew h (cO 6 [.int 0, .int 0, .null, .null, .null])).2 q = h.2 q := fun q hq => hnew_lo hq
  generalize hnew h (cO 6 [.int 0, .int 0, .null, .null, .null]) = h0 at *
  unfold Mk
  generalize h.1 = a at *
  have a0 : h0.1 = a + 1 := g1
  obtain ⟨h1, e1, n1, o1, c1, K1⟩ := st_sub f_X3_init (mk_X3 h0) (k := 2) (by omega) o0 (Nat.le_of_ble_eq_true rfl)
  have a1 : h1.1 = a + 7 := n1.trans (congrArg (fun y => y + 6) a0)
  rw [a0] at o1
  replace o1 : h1.2 a = some (cO 6 [.int 0, .int 0, .ref (a + 1), .null, .null]) := o1
  obtain ⟨h2, e2, n2, o2, c2, K2⟩ := st_nw h1 (cI 0 48 (fun _ => 0)) (k := 3) (by omega) o1 (Nat.le_of_ble_eq_true rfl)
  have a2 : h2.1 = a + 8 := n2.trans (congrArg (fun y => y + 1) a1)
  rw [a1] at o2
  replace o2 : h2.2 a = some (cO 6 [.int 0, .int 0, .ref (a + 1), .ref (a + 7), .null]) := o2
  obtain ⟨h3, e3, n3, o3, c3, K3⟩ := st_nw h2 (cI 0 48 (fun _ => 0)) (k := 4) (by omega) o2 (Nat.le_of_ble_eq_true rfl)
  have a3 : h3.1 = a + 9 := n3.trans (congrArg (fun y => y + 1) a2)
  rw [a2] at o3
  replace o3 : h3.2 a = some (cO 6 [.int 0, .int 0, .ref (a + 1), .ref (a + 7), .ref (a + 8)]) := o3
  rw [a0] at c1
  rw [a1] at c2
  rw [a2] at c3
  have L2 := K3
  have L1 := K2.trans L2
  have L0 := K1.trans L1
  have aH : At h3 a (wfL (a) zB zB) := At_mk 9 (fun k hk => by
    rcases (show k = 0 ∨ k = 1 ∨ k = 2 ∨ k = 3 ∨ k = 4 ∨ k = 5 ∨ k = 6 ∨ k = 7 ∨ k = 8 by omega) with rfl | rfl | rfl | rfl | rfl | rfl | rfl | rfl | rfl
    · exact o3
    · rw [L1.2 _ (by omega) (by omega)]; exact c1 0 _ rfl
    · rw [L1.2 _ (by omega) (by omega)]; exact c1 1 _ rfl
    · rw [L1.2 _ (by omega) (by omega)]; exact c1 2 _ rfl
    · rw [L1.2 _ (by omega) (by omega)]; exact c1 3 _ rfl
    · rw [L1.2 _ (by omega) (by omega)]; exact c1 4 _ rfl
    · rw [L1.2 _ (by omega) (by omega)]; exact c1 5 _ rfl
    · rw [L2.2 _ (by omega) (by omega)]; exact c2
    · exact c3
    ) (fun k hk => wf_hi hk)
  refine ⟨h3, ?_, by omega, aH, fun q hq => ?_⟩
  · rw [f_X6_init, e1, e2, e3]
  · rw [L0.2 q (by omega) (by omega), k0 q hq]
theorem mk_X5 (h : Hea) : ∃ h', f_X5_init (hnew h (cO 5 [.null, .null, .null, .null])) h.1 = some h' ∧ Mk 5 (wkL (h.1) (fun _ _ => 0)) h h' := by
  have g1 : (hnew h (cO 5 [.null, .null, .null, .null])).1 = h.1 + 1 := rfl
  have o0 := hnew_o h (cO 5 [.null, .null, .null, .null])
  have k0 : ∀ q, q < h.1 → (hnew h (cO 5 [.null, .null, .null, .null])).2 q = h.2 q := fun q hq => hnew_lo hq
  generalize hnew h (cO 5 [.null, .null, .null, .null]) = h0 at *
  unfold Mk
  generalize h.1 = a at *
  have a0 : h0.1 = a + 1 := g1
  obtain ⟨h1, e1, n1, o1, c1, K1⟩ := st_nw h0 (cJ 8 (fun _ => 0)) (k := 0) (by omega) o0 (Nat.le_of_ble_eq_true rfl)
  have a1 : h1.1 = a + 2 := n1.trans (congrArg (fun y => y + 1) a0)
  rw [a0] at o1
  replace o1 : h1.2 a = some (cO 5 [.ref (a + 1), .null, .null, .null]) := o1
  obtain ⟨h2, e2, n2, o2, c2, K2⟩ := st_nw h1 (cJ 8 (fun _ => 0)) (k := 1) (by omega) o1 (Nat.le_of_ble_eq_true rfl)
  have a2 : h2.1 = a + 3 := n2.trans (congrArg (fun y => y + 1) a1)
  rw [a1] at o2
  replace o2 : h2.2 a = some (cO 5 [.ref (a + 1), .ref (a + 2), .null, .null]) := o2
  obtain ⟨h3, e3, n3, o3, c3, K3⟩ := st_nw h2 (cJ 8 (fun _ => 0)) (k := 2) (by omega) o2 (Nat.le_of_ble_eq_true rfl)
  have a3 : h3.1 = a + 4 := n3.trans (congrArg (fun y => y + 1) a2)
  rw [a2] at o3
  replace o3 : h3.2 a = some (cO 5 [.ref (a + 1), .ref (a + 2), .ref (a + 3), .null]) := o3
  obtain ⟨h4, e4, n4, o4, c4, K4⟩ := st_nw h3 (cJ 8 (fun _ => 0)) (k := 3) (by omega) o3 (Nat.le_of_ble_eq_true rfl)
  have a4 : h4.1 = a + 5 := n4.trans (congrArg (fun y => y + 1) a3)
  rw [a3] at o4
  replace o4 : h4.2 a = some (cO 5 [.ref (a + 1), .ref (a + 2), .ref (a + 3), .ref (a + 4)]) := o4
  rw [a0] at c1
  rw [a1] at c2
  rw [a2] at c3
  rw [a3] at c4
  have L3 := K4
  have L2 := K3.trans L3
  have L1 := K2.trans L2
  have L0 := K1.trans L1
  have aH : At h4 a (wkL (a) (fun _ _ => 0)) := At_mk 5 (fun k hk => by
    rcases (show k = 0 ∨ k = 1 ∨ k = 2 ∨ k = 3 ∨ k = 4 by omega) with rfl | rfl | rfl | rfl | rfl
    · exact o4
    · rw [L1.2 _ (by omega) (by omega)]; exact c1
    · rw [L2.2 _ (by omega) (by omega)]; exact c2
    · rw [L3.2 _ (by omega) (by omega)]; exact c3
    · exact c4
    ) (fun k hk => wk_hi hk)
  refine ⟨h4, ?_, by omega, aH, fun q hq => ?_⟩
  · rw [f_X5_init, e1, e2, e3, e4]
  · rw [L0.2 q (by omega) (by omega), k0 q hq]
theorem mk_X4 (h : Hea) : ∃ h', f_X4_init (hnew h (cO 4 [.null, .int 0, .int 0, .int 0, .int 0, .int 0, .int 0, .int 0])) h.1 = some h' ∧ Mk 2 (rdL (h.1) (h.1 + 1) (sS zB 5 (-1))) h h' := by
  have g1 : (hnew h (cO 4 [.null, .int 0, .int 0, .int 0, .int 0, .int 0, .int 0, .int 0])).1 = h.1 + 1 := rfl
  have o0 := hnew_o h (cO 4 [.null, .int 0, .int 0, .int 0, .int 0, .int 0, .int 0, .int 0])
  have k0 : ∀ q, q < h.1 → (hnew h (cO 4 [.null, .int 0, .int 0, .int 0, .int 0, .int 0, .int 0, .int 0])).2 q = h.2 q := fun q hq => hnew_lo hq
  generalize hnew h (cO 4 [.null, .int 0, .int 0, .int 0, .int 0, .int 0, .int 0, .int 0]) = h0 at *
  unfold Mk
  generalize h.1 = a at *
  have a0 : h0.1 = a + 1 := g1
  obtain ⟨h1, e1, n1, o1, c1, K1⟩ := st_nw h0 (cI 1 0 (fun _ => 0)) (k := 0) (by omega) o0 (Nat.le_of_ble_eq_true rfl)
  have a1 : h1.1 = a + 2 := n1.trans (congrArg (fun y => y + 1) a0)
  rw [a0] at o1
  replace o1 : h1.2 a = some (cO 4 [.ref (a + 1), .int 0, .int 0, .int 0, .int 0, .int 0, .int 0, .int 0]) := o1
  obtain ⟨h2, e2, n2, o2, K2⟩ := st_put h1 (k := 1) (v := .int 0) o1 (Nat.le_of_ble_eq_true rfl)
  have a2 : h2.1 = a + 2 := n2.trans a1
  replace o2 : h2.2 a = some (cO 4 [.ref (a + 1), .int 0, .int 0, .int 0, .int 0, .int 0, .int 0, .int 0]) := o2
  obtain ⟨h3, e3, n3, o3, K3⟩ := st_put h2 (k := 2) (v := .int 0) o2 (Nat.le_of_ble_eq_true rfl)
  have a3 : h3.1 = a + 2 := n3.trans a2
  replace o3 : h3.2 a = some (cO 4 [.ref (a + 1), .int 0, .int 0, .int 0, .int 0, .int 0, .int 0, .int 0]) := o3
  obtain ⟨h4, e4, n4, o4, K4⟩ := st_put h3 (k := 3) (v := .int 0) o3 (Nat.le_of_ble_eq_true rfl)
  have a4 : h4.1 = a + 2 := n4.trans a3
  replace o4 : h4.2 a = some (cO 4 [.ref (a + 1), .int 0, .int 0, .int 0, .int 0, .int 0, .int 0, .int 0]) := o4
  obtain ⟨h5, e5, n5, o5, K5⟩ := st_put h4 (k := 4) (v := .int 0) o4 (Nat.le_of_ble_eq_true rfl)
  have a5 : h5.1 = a + 2 := n5.trans a4
  replace o5 : h5.2 a = some (cO 4 [.ref (a + 1), .int 0, .int 0, .int 0, .int 0, .int 0, .int 0, .int 0]) := o5
  obtain ⟨h6, e6, n6, o6, K6⟩ := st_put h5 (k := 5) (v := .int 0) o5 (Nat.le_of_ble_eq_true rfl)
  have a6 : h6.1 = a + 2 := n6.trans a5
  replace o6 : h6.2 a = some (cO 4 [.ref (a + 1), .int 0, .int 0, .int 0, .int 0, .int 0, .int 0, .int 0]) := o6
  obtain ⟨h7, e7, n7, o7, K7⟩ := st_put h6 (k := 6) (v := .int (-1)) o6 (Nat.le_of_ble_eq_true rfl)
  have a7 : h7.1 = a + 2 := n7.trans a6
  replace o7 : h7.2 a = some (cO 4 [.ref (a + 1), .int 0, .int 0, .int 0, .int 0, .int 0, .int (-1), .int 0]) := o7
  obtain ⟨h8, e8, n8, o8, K8⟩ := st_put h7 (k := 7) (v := .int 0) o7 (Nat.le_of_ble_eq_true rfl)
  have a8 : h8.1 = a + 2 := n8.trans a7
  replace o8 : h8.2 a = some (cO 4 [.ref (a + 1), .int 0, .int 0, .int 0, .int 0, .int 0, .int (-1), .int 0]) := o8
  rw [a0] at c1
  have L7 := K8
  have L6 := K7.trans L7
  have L5 := K6.trans L6
  have L4 := K5.trans L5
  have L3 := K4.trans L4
  have L2 := K3.trans L3
  have L1 := K2.trans L2
  have L0 := K1.trans L1
  have aH : At h8 a (rdL (a) (a + 1) (sS zB 5 (-1))) := At_mk 1 (fun k hk => by
    rcases (show k = 0 by omega) with rfl
    · exact o8
    ) (fun k hk => rd_hi hk)
  refine ⟨h8, ?_, by omega, aH, fun q hq => ?_⟩
  · rw [f_X4_init, e1, pI, e2, b_some, pI, e3, b_some, pI, e4, b_some, pI, e5, b_some, pI, e6, b_some, pI, e7, b_some, pI, e8, b_some]
  · rw [L0.2 q (by omega) (by omega), k0 q hq]
def l01 : Nat → Int64 := fun k => if k = 1 then 1 else 0
theorem mk_X8 (h : Hea) : ∃ h', f_X8_init (hnew h (cO 8 [.null, .null, .null, .null, .long 0, .long 0, .int 0, .int 0, .null, .null, .null, .null, .null, .null, .null, .null, .null, .null, .null, .null, .int 0, .int 0, .int 0, .int 0, .int 0, .null, .null])) h.1 = some h' ∧ Mk 19 (mdL (h.1) (sB zB 0 (beginN (zB.2 0) 10 3)) l01 (fun _ _ => 0)) h h' := by
  have g1 : (hnew h (cO 8 [.null, .null, .null, .null, .long 0, .long 0, .int 0, .int 0, .null, .null, .null, .null, .null, .null, .null, .null, .null, .null, .null, .null, .int 0, .int 0, .int 0, .int 0, .int 0, .null, .null])).1 = h.1 + 1 := rfl
  have o0 := hnew_o h (cO 8 [.null, .null, .null, .null, .long 0, .long 0, .int 0, .int 0, .null, .null, .null, .null, .null, .null, .null, .null, .null, .null, .null, .null, .int 0, .int 0, .int 0, .int 0, .int 0, .null, .null])
  have k0 : ∀ q, q < h.1 → (hnew h (cO 8 [.null, .null, .null, .null, .long 0, .long 0, .int 0, .int 0, .null, .null, .null, .null, .null, .null, .null, .null, .null, .null, .null, .null, .int 0, .int 0, .int 0, .int 0, .int 0, .null, .null])).2 q = h.2 q := fun q hq => hnew_lo hq
  generalize hnew h (cO 8 [.null, .null, .null, .null, .long 0, .long 0, .int 0, .int 0, .null, .null, .null, .null, .null, .null, .null, .null, .null, .null, .null, .null, .int 0, .int 0, .int 0, .int 0, .int 0, .null, .null]) = h0 at *
  unfold Mk
  generalize h.1 = a at *
  have a0 : h0.1 = a + 1 := g1
  obtain ⟨h1, e1, n1, o1, c1, K1⟩ := st_nw h0 (cI 0 399 (fun _ => 0)) (k := 0) (by omega) o0 (Nat.le_of_ble_eq_true rfl)
  have a1 : h1.1 = a + 2 := n1.trans (congrArg (fun y => y + 1) a0)
  rw [a0] at o1
  replace o1 : h1.2 a = some (cO 8 [.ref (a + 1), .null, .null, .null, .long 0, .long 0, .int 0, .int 0, .null, .null, .null, .null, .null, .null, .null, .null, .null, .null, .null, .null, .int 0, .int 0, .int 0, .int 0, .int 0, .null, .null]) := o1
  obtain ⟨h2, e2, n2, o2, c2, K2⟩ := st_nw h1 (cI 0 798 (fun _ => 0)) (k := 1) (by omega) o1 (Nat.le_of_ble_eq_true rfl)
  have a2 : h2.1 = a + 3 := n2.trans (congrArg (fun y => y + 1) a1)
  rw [a1] at o2
  replace o2 : h2.2 a = some (cO 8 [.ref (a + 1), .ref (a + 2), .null, .null, .long 0, .long 0, .int 0, .int 0, .null, .null, .null, .null, .null, .null, .null, .null, .null, .null, .null, .null, .int 0, .int 0, .int 0, .int 0, .int 0, .null, .null]) := o2
  obtain ⟨h3, e3, n3, o3, c3, K3⟩ := st_nw h2 (cI 2 2 (fun _ => 0)) (k := 2) (by omega) o2 (Nat.le_of_ble_eq_true rfl)
  have a3 : h3.1 = a + 4 := n3.trans (congrArg (fun y => y + 1) a2)
  rw [a2] at o3
  replace o3 : h3.2 a = some (cO 8 [.ref (a + 1), .ref (a + 2), .ref (a + 3), .null, .long 0, .long 0, .int 0, .int 0, .null, .null, .null, .null, .null, .null, .null, .null, .null, .null, .null, .null, .int 0, .int 0, .int 0, .int 0, .int 0, .null, .null]) := o3
  obtain ⟨h4, e4, n4, o4, c4, K4⟩ := st_nw h3 (cI 0 3 (fun _ => 0)) (k := 3) (by omega) o3 (Nat.le_of_ble_eq_true rfl)
  have a4 : h4.1 = a + 5 := n4.trans (congrArg (fun y => y + 1) a3)
  rw [a3] at o4
  replace o4 : h4.2 a = some (cO 8 [.ref (a + 1), .ref (a + 2), .ref (a + 3), .ref (a + 4), .long 0, .long 0, .int 0, .int 0, .null, .null, .null, .null, .null, .null, .null, .null, .null, .null, .null, .null, .int 0, .int 0, .int 0, .int 0, .int 0, .null, .null]) := o4
  obtain ⟨h5, e5, n5, o5, K5⟩ := st_put h4 (k := 5) (v := .long 1) o4 (Nat.le_of_ble_eq_true rfl)
  have a5 : h5.1 = a + 5 := n5.trans a4
  replace o5 : h5.2 a = some (cO 8 [.ref (a + 1), .ref (a + 2), .ref (a + 3), .ref (a + 4), .long 0, .long 1, .int 0, .int 0, .null, .null, .null, .null, .null, .null, .null, .null, .null, .null, .null, .null, .int 0, .int 0, .int 0, .int 0, .int 0, .null, .null]) := o5
  obtain ⟨h6, e6, n6, o6, c6, K6⟩ := st_nw h5 (cI 0 6 (fun _ => 0)) (k := 8) (by omega) o5 (Nat.le_of_ble_eq_true rfl)
  have a6 : h6.1 = a + 6 := n6.trans (congrArg (fun y => y + 1) a5)
  rw [a5] at o6
  replace o6 : h6.2 a = some (cO 8 [.ref (a + 1), .ref (a + 2), .ref (a + 3), .ref (a + 4), .long 0, .long 1, .int 0, .int 0, .ref (a + 5), .null, .null, .null, .null, .null, .null, .null, .null, .null, .null, .null, .int 0, .int 0, .int 0, .int 0, .int 0, .null, .null]) := o6
  obtain ⟨h7, e7, n7, o7, c7, K7⟩ := st_nw h6 (cI 0 6 (fun _ => 0)) (k := 9) (by omega) o6 (Nat.le_of_ble_eq_true rfl)
  have a7 : h7.1 = a + 7 := n7.trans (congrArg (fun y => y + 1) a6)
  rw [a6] at o7
  replace o7 : h7.2 a = some (cO 8 [.ref (a + 1), .ref (a + 2), .ref (a + 3), .ref (a + 4), .long 0, .long 1, .int 0, .int 0, .ref (a + 5), .ref (a + 6), .null, .null, .null, .null, .null, .null, .null, .null, .null, .null, .int 0, .int 0, .int 0, .int 0, .int 0, .null, .null]) := o7
  obtain ⟨h8, e8, n8, o8, c8, K8⟩ := st_nw h7 (cI 0 6 (fun _ => 0)) (k := 10) (by omega) o7 (Nat.le_of_ble_eq_true rfl)
  have a8 : h8.1 = a + 8 := n8.trans (congrArg (fun y => y + 1) a7)
  rw [a7] at o8
  replace o8 : h8.2 a = some (cO 8 [.ref (a + 1), .ref (a + 2), .ref (a + 3), .ref (a + 4), .long 0, .long 1, .int 0, .int 0, .ref (a + 5), .ref (a + 6), .ref (a + 7), .null, .null, .null, .null, .null, .null, .null, .null, .null, .int 0, .int 0, .int 0, .int 0, .int 0, .null, .null]) := o8
  obtain ⟨h9, e9, n9, o9, c9, K9⟩ := st_nw h8 (cI 0 6 (fun _ => 0)) (k := 11) (by omega) o8 (Nat.le_of_ble_eq_true rfl)
  have a9 : h9.1 = a + 9 := n9.trans (congrArg (fun y => y + 1) a8)
  rw [a8] at o9
  replace o9 : h9.2 a = some (cO 8 [.ref (a + 1), .ref (a + 2), .ref (a + 3), .ref (a + 4), .long 0, .long 1, .int 0, .int 0, .ref (a + 5), .ref (a + 6), .ref (a + 7), .ref (a + 8), .null, .null, .null, .null, .null, .null, .null, .null, .int 0, .int 0, .int 0, .int 0, .int 0, .null, .null]) := o9
  obtain ⟨h10, e10, n10, o10, c10, K10⟩ := st_nw h9 (cI 0 6 (fun _ => 0)) (k := 12) (by omega) o9 (Nat.le_of_ble_eq_true rfl)
  have a10 : h10.1 = a + 10 := n10.trans (congrArg (fun y => y + 1) a9)
  rw [a9] at o10
  replace o10 : h10.2 a = some (cO 8 [.ref (a + 1), .ref (a + 2), .ref (a + 3), .ref (a + 4), .long 0, .long 1, .int 0, .int 0, .ref (a + 5), .ref (a + 6), .ref (a + 7), .ref (a + 8), .ref (a + 9), .null, .null, .null, .null, .null, .null, .null, .int 0, .int 0, .int 0, .int 0, .int 0, .null, .null]) := o10
  obtain ⟨h11, e11, n11, o11, c11, K11⟩ := st_nw h10 (cI 0 48 (fun _ => 0)) (k := 13) (by omega) o10 (Nat.le_of_ble_eq_true rfl)
  have a11 : h11.1 = a + 11 := n11.trans (congrArg (fun y => y + 1) a10)
  rw [a10] at o11
  replace o11 : h11.2 a = some (cO 8 [.ref (a + 1), .ref (a + 2), .ref (a + 3), .ref (a + 4), .long 0, .long 1, .int 0, .int 0, .ref (a + 5), .ref (a + 6), .ref (a + 7), .ref (a + 8), .ref (a + 9), .ref (a + 10), .null, .null, .null, .null, .null, .null, .int 0, .int 0, .int 0, .int 0, .int 0, .null, .null]) := o11
  obtain ⟨h12, e12, n12, o12, c12, K12⟩ := st_nw h11 (cI 0 48 (fun _ => 0)) (k := 14) (by omega) o11 (Nat.le_of_ble_eq_true rfl)
  have a12 : h12.1 = a + 12 := n12.trans (congrArg (fun y => y + 1) a11)
  rw [a11] at o12
  replace o12 : h12.2 a = some (cO 8 [.ref (a + 1), .ref (a + 2), .ref (a + 3), .ref (a + 4), .long 0, .long 1, .int 0, .int 0, .ref (a + 5), .ref (a + 6), .ref (a + 7), .ref (a + 8), .ref (a + 9), .ref (a + 10), .ref (a + 11), .null, .null, .null, .null, .null, .int 0, .int 0, .int 0, .int 0, .int 0, .null, .null]) := o12
  obtain ⟨h13, e13, n13, o13, c13, K13⟩ := st_nw h12 (cI 0 4 (fun _ => 0)) (k := 15) (by omega) o12 (Nat.le_of_ble_eq_true rfl)
  have a13 : h13.1 = a + 13 := n13.trans (congrArg (fun y => y + 1) a12)
  rw [a12] at o13
  replace o13 : h13.2 a = some (cO 8 [.ref (a + 1), .ref (a + 2), .ref (a + 3), .ref (a + 4), .long 0, .long 1, .int 0, .int 0, .ref (a + 5), .ref (a + 6), .ref (a + 7), .ref (a + 8), .ref (a + 9), .ref (a + 10), .ref (a + 11), .ref (a + 12), .null, .null, .null, .null, .int 0, .int 0, .int 0, .int 0, .int 0, .null, .null]) := o13
  obtain ⟨h14, e14, n14, o14, c14, K14⟩ := st_nw h13 (cI 0 4 (fun _ => 0)) (k := 16) (by omega) o13 (Nat.le_of_ble_eq_true rfl)
  have a14 : h14.1 = a + 14 := n14.trans (congrArg (fun y => y + 1) a13)
  rw [a13] at o14
  replace o14 : h14.2 a = some (cO 8 [.ref (a + 1), .ref (a + 2), .ref (a + 3), .ref (a + 4), .long 0, .long 1, .int 0, .int 0, .ref (a + 5), .ref (a + 6), .ref (a + 7), .ref (a + 8), .ref (a + 9), .ref (a + 10), .ref (a + 11), .ref (a + 12), .ref (a + 13), .null, .null, .null, .int 0, .int 0, .int 0, .int 0, .int 0, .null, .null]) := o14
  obtain ⟨h15, e15, n15, o15, c15, K15⟩ := st_nw h14 (cJ 104 (fun _ => 0)) (k := 17) (by omega) o14 (Nat.le_of_ble_eq_true rfl)
  have a15 : h15.1 = a + 15 := n15.trans (congrArg (fun y => y + 1) a14)
  rw [a14] at o15
  replace o15 : h15.2 a = some (cO 8 [.ref (a + 1), .ref (a + 2), .ref (a + 3), .ref (a + 4), .long 0, .long 1, .int 0, .int 0, .ref (a + 5), .ref (a + 6), .ref (a + 7), .ref (a + 8), .ref (a + 9), .ref (a + 10), .ref (a + 11), .ref (a + 12), .ref (a + 13), .ref (a + 14), .null, .null, .int 0, .int 0, .int 0, .int 0, .int 0, .null, .null]) := o15
  obtain ⟨h16, e16, n16, o16, c16, K16⟩ := st_nw h15 (cJ 104 (fun _ => 0)) (k := 18) (by omega) o15 (Nat.le_of_ble_eq_true rfl)
  have a16 : h16.1 = a + 16 := n16.trans (congrArg (fun y => y + 1) a15)
  rw [a15] at o16
  replace o16 : h16.2 a = some (cO 8 [.ref (a + 1), .ref (a + 2), .ref (a + 3), .ref (a + 4), .long 0, .long 1, .int 0, .int 0, .ref (a + 5), .ref (a + 6), .ref (a + 7), .ref (a + 8), .ref (a + 9), .ref (a + 10), .ref (a + 11), .ref (a + 12), .ref (a + 13), .ref (a + 14), .ref (a + 15), .null, .int 0, .int 0, .int 0, .int 0, .int 0, .null, .null]) := o16
  obtain ⟨h17, e17, n17, o17, c17, K17⟩ := st_nw h16 (cI 0 150 (fun _ => 0)) (k := 19) (by omega) o16 (Nat.le_of_ble_eq_true rfl)
  have a17 : h17.1 = a + 17 := n17.trans (congrArg (fun y => y + 1) a16)
  rw [a16] at o17
  replace o17 : h17.2 a = some (cO 8 [.ref (a + 1), .ref (a + 2), .ref (a + 3), .ref (a + 4), .long 0, .long 1, .int 0, .int 0, .ref (a + 5), .ref (a + 6), .ref (a + 7), .ref (a + 8), .ref (a + 9), .ref (a + 10), .ref (a + 11), .ref (a + 12), .ref (a + 13), .ref (a + 14), .ref (a + 15), .ref (a + 16), .int 0, .int 0, .int 0, .int 0, .int 0, .null, .null]) := o17
  obtain ⟨h18, e18, n18, o18, c18, K18⟩ := st_nw h17 (cI 0 151 (fun _ => 0)) (k := 25) (by omega) o17 (Nat.le_of_ble_eq_true rfl)
  have a18 : h18.1 = a + 18 := n18.trans (congrArg (fun y => y + 1) a17)
  rw [a17] at o18
  replace o18 : h18.2 a = some (cO 8 [.ref (a + 1), .ref (a + 2), .ref (a + 3), .ref (a + 4), .long 0, .long 1, .int 0, .int 0, .ref (a + 5), .ref (a + 6), .ref (a + 7), .ref (a + 8), .ref (a + 9), .ref (a + 10), .ref (a + 11), .ref (a + 12), .ref (a + 13), .ref (a + 14), .ref (a + 15), .ref (a + 16), .int 0, .int 0, .int 0, .int 0, .int 0, .ref (a + 17), .null]) := o18
  obtain ⟨h19, e19, n19, o19, c19, K19⟩ := st_nw h18 (cI 0 3 (fun _ => 0)) (k := 26) (by omega) o18 (Nat.le_of_ble_eq_true rfl)
  have a19 : h19.1 = a + 19 := n19.trans (congrArg (fun y => y + 1) a18)
  rw [a18] at o19
  replace o19 : h19.2 a = some (cO 8 [.ref (a + 1), .ref (a + 2), .ref (a + 3), .ref (a + 4), .long 0, .long 1, .int 0, .int 0, .ref (a + 5), .ref (a + 6), .ref (a + 7), .ref (a + 8), .ref (a + 9), .ref (a + 10), .ref (a + 11), .ref (a + 12), .ref (a + 13), .ref (a + 14), .ref (a + 15), .ref (a + 16), .int 0, .int 0, .int 0, .int 0, .int 0, .ref (a + 17), .ref (a + 18)]) := o19
  rw [a0] at c1
  rw [a1] at c2
  rw [a2] at c3
  rw [a3] at c4
  rw [a5] at c6
  rw [a6] at c7
  rw [a7] at c8
  rw [a8] at c9
  rw [a9] at c10
  rw [a10] at c11
  rw [a11] at c12
  rw [a12] at c13
  rw [a13] at c14
  rw [a14] at c15
  rw [a15] at c16
  rw [a16] at c17
  rw [a17] at c18
  rw [a18] at c19
  have L18 := K19
  have L17 := K18.trans L18
  have L16 := K17.trans L17
  have L15 := K16.trans L16
  have L14 := K15.trans L15
  have L13 := K14.trans L14
  have L12 := K13.trans L13
  have L11 := K12.trans L12
  have L10 := K11.trans L11
  have L9 := K10.trans L10
  have L8 := K9.trans L9
  have L7 := K8.trans L8
  have L6 := K7.trans L7
  have L5 := K6.trans L6
  have L4 := K5.trans L5
  have L3 := K4.trans L4
  have L2 := K3.trans L3
  have L1 := K2.trans L2
  have L0 := K1.trans L1
  have aH : At h19 a (mdL (a) zB l01 (fun _ _ => 0)) := At_mk 19 (fun k hk => by
    rcases (show k = 0 ∨ k = 1 ∨ k = 2 ∨ k = 3 ∨ k = 4 ∨ k = 5 ∨ k = 6 ∨ k = 7 ∨ k = 8 ∨ k = 9 ∨ k = 10 ∨ k = 11 ∨ k = 12 ∨ k = 13 ∨ k = 14 ∨ k = 15 ∨ k = 16 ∨ k = 17 ∨ k = 18 by omega) with rfl | rfl | rfl | rfl | rfl | rfl | rfl | rfl | rfl | rfl | rfl | rfl | rfl | rfl | rfl | rfl | rfl | rfl | rfl
    · exact o19
    · rw [L1.2 _ (by omega) (by omega)]; exact c1
    · rw [L2.2 _ (by omega) (by omega)]; exact c2
    · rw [L3.2 _ (by omega) (by omega)]; exact c3
    · rw [L4.2 _ (by omega) (by omega)]; exact c4
    · rw [L6.2 _ (by omega) (by omega)]; exact c6
    · rw [L7.2 _ (by omega) (by omega)]; exact c7
    · rw [L8.2 _ (by omega) (by omega)]; exact c8
    · rw [L9.2 _ (by omega) (by omega)]; exact c9
    · rw [L10.2 _ (by omega) (by omega)]; exact c10
    · rw [L11.2 _ (by omega) (by omega)]; exact c11
    · rw [L12.2 _ (by omega) (by omega)]; exact c12
    · rw [L13.2 _ (by omega) (by omega)]; exact c13
    · rw [L14.2 _ (by omega) (by omega)]; exact c14
    · rw [L15.2 _ (by omega) (by omega)]; exact c15
    · rw [L16.2 _ (by omega) (by omega)]; exact c16
    · rw [L17.2 _ (by omega) (by omega)]; exact c17
    · rw [L18.2 _ (by omega) (by omega)]; exact c18
    · exact c19
    ) (fun k hk => md_hi hk)
  have rs := now_begin (h := h19) (b := a) (m := zB) (l := l01) (r := fun _ _ => 0) (e := 10) (r' := 3)
  rw [aH.eq] at rs
  refine ⟨_, ?_, by show h19.1 = _; omega, blk_at _ _ _, fun q hq => ?_⟩
  · rw [f_X8_init, e1, e2, e3, e4, pJ, e5, b_some, e6, e7, e8, e9, e10, e11, e12, e13, e14, e15, e16, e17, e18, e19, md_f0 aH, b_some, rs, b_some]
  · rw [blk_out (fun k e => by omega), L0.2 q (by omega) (by omega), k0 q hq]
theorem mk_X7 (h : Hea) : ∃ h', f_X7_init (hnew h (cO 7 [.null, .null, .null, .null, .null, .null, .null, .null, .null, .null, .null, .int 0, .long 0, .long 0, .int 0, .int 0, .int 0])) h.1 = some h' ∧ h'.1 = h.1 + 239 ∧ At h' h.1 (flL h.1 zB l01) ∧ At h' (h.1 + 1) (hhL (h.1 + 1) (beginH zB 10 3) (sS zB 0 0)) ∧ At h' (h.1 + 16) (pastL (h.1 + 16) 0 (pf (h.1 + 16)) (fun _ => zB)) ∧ At h' (h.1 + 66) (hhL (h.1 + 66) (beginH zB 10 3) (sS zB 0 0)) ∧ At h' (h.1 + 81) (kfL (h.1 + 81) zB) ∧ At h' (h.1 + 84) (fcL (h.1 + 84) zB zB) ∧ At h' (h.1 + 92) (wfL (h.1 + 92) zB zB) ∧ At h' (h.1 + 101) (wkL (h.1 + 101) (fun _ _ => 0)) ∧ At h' (h.1 + 106) (rdL (h.1 + 106) (h.1 + 106 + 1) (sS zB 5 (-1))) ∧ At h' (h.1 + 108) (txL (h.1 + 108) zB) ∧ At h' (h.1 + 109) (hhL (h.1 + 109) (beginH zB 10 3) (sS zB 0 0)) ∧ At h' (h.1 + 124) (pastL (h.1 + 124) 0 (pf (h.1 + 124)) (fun _ => zB)) ∧ At h' (h.1 + 174) (hhL (h.1 + 174) (beginH zB 10 3) (sS zB 0 0)) ∧ At h' (h.1 + 189) (pastL (h.1 + 189) 0 (pf (h.1 + 189)) (fun _ => zB)) := by
  have g1 : (hnew h (cO 7 [.null, .null, .null, .null, .null, .null, .null, .null, .null, .null, .null, .int 0, .long 0, .long 0, .int 0, .int 0, .int 0])).1 = h.1 + 1 := rfl
  have o0 := hnew_o h (cO 7 [.null, .null, .null, .null, .null, .null, .null, .null, .null, .null, .null, .int 0, .long 0, .long 0, .int 0, .int 0, .int 0])
  generalize hnew h (cO 7 [.null, .null, .null, .null, .null, .null, .null, .null, .null, .null, .null, .int 0, .long 0, .long 0, .int 0, .int 0, .int 0]) = h0 at *
  generalize h.1 = a at *
  have a0 : h0.1 = a + 1 := g1
  obtain ⟨h1, e1, n1, o1, c1, K1⟩ := st_sub f_X1_init (mk_X1 h0) (k := 0) (by omega) o0 (Nat.le_of_ble_eq_true rfl)
  have a1 : h1.1 = a + 16 := n1.trans (congrArg (fun y => y + 15) a0)
  rw [a0] at o1
  replace o1 : h1.2 a = some (cO 7 [.ref (a + 1), .null, .null, .null, .null, .null, .null, .null, .null, .null, .null, .int 0, .long 0, .long 0, .int 0, .int 0, .int 0]) := o1
  obtain ⟨h2, e2, n2, o2, c2, K2⟩ := st_sub f_X2_init (mk_X2 h1) (k := 1) (by omega) o1 (Nat.le_of_ble_eq_true rfl)
  have a2 : h2.1 = a + 66 := n2.trans (congrArg (fun y => y + 50) a1)
  rw [a1] at o2
  replace o2 : h2.2 a = some (cO 7 [.ref (a + 1), .ref (a + 16), .null, .null, .null, .null, .null, .null, .null, .null, .null, .int 0, .long 0, .long 0, .int 0, .int 0, .int 0]) := o2
  obtain ⟨h3, e3, n3, o3, c3, K3⟩ := st_sub f_X1_init (mk_X1 h2) (k := 2) (by omega) o2 (Nat.le_of_ble_eq_true rfl)
  have a3 : h3.1 = a + 81 := n3.trans (congrArg (fun y => y + 15) a2)
  rw [a2] at o3
  replace o3 : h3.2 a = some (cO 7 [.ref (a + 1), .ref (a + 16), .ref (a + 66), .null, .null, .null, .null, .null, .null, .null, .null, .int 0, .long 0, .long 0, .int 0, .int 0, .int 0]) := o3
  obtain ⟨h4, e4, n4, o4, c4, K4⟩ := st_nw h3 (cR 4 2 (fun _ => none)) (k := 3) (by omega) o3 (Nat.le_of_ble_eq_true rfl)
  have a4 : h4.1 = a + 82 := n4.trans (congrArg (fun y => y + 1) a3)
  rw [a3] at o4
  replace o4 : h4.2 a = some (cO 7 [.ref (a + 1), .ref (a + 16), .ref (a + 66), .ref (a + 81), .null, .null, .null, .null, .null, .null, .null, .int 0, .long 0, .long 0, .int 0, .int 0, .int 0]) := o4
  obtain ⟨h5, e5, n5, o5, c5, K5⟩ := st_nw h4 (cR 5 2 (fun _ => none)) (k := 4) (by omega) o4 (Nat.le_of_ble_eq_true rfl)
  have a5 : h5.1 = a + 83 := n5.trans (congrArg (fun y => y + 1) a4)
  rw [a4] at o5
  replace o5 : h5.2 a = some (cO 7 [.ref (a + 1), .ref (a + 16), .ref (a + 66), .ref (a + 81), .ref (a + 82), .null, .null, .null, .null, .null, .null, .int 0, .long 0, .long 0, .int 0, .int 0, .int 0]) := o5
  obtain ⟨h6, e6, n6, o6, c6, K6⟩ := st_nw h5 (cI 2 2 (fun _ => 0)) (k := 5) (by omega) o5 (Nat.le_of_ble_eq_true rfl)
  have a6 : h6.1 = a + 84 := n6.trans (congrArg (fun y => y + 1) a5)
  rw [a5] at o6
  replace o6 : h6.2 a = some (cO 7 [.ref (a + 1), .ref (a + 16), .ref (a + 66), .ref (a + 81), .ref (a + 82), .ref (a + 83), .null, .null, .null, .null, .null, .int 0, .long 0, .long 0, .int 0, .int 0, .int 0]) := o6
  obtain ⟨h7, e7, n7, o7, c7, K7⟩ := st_sub f_X0_init (mk_X0 h6) (k := 6) (by omega) o6 (Nat.le_of_ble_eq_true rfl)
  have a7 : h7.1 = a + 92 := n7.trans (congrArg (fun y => y + 8) a6)
  rw [a6] at o7
  replace o7 : h7.2 a = some (cO 7 [.ref (a + 1), .ref (a + 16), .ref (a + 66), .ref (a + 81), .ref (a + 82), .ref (a + 83), .ref (a + 84), .null, .null, .null, .null, .int 0, .long 0, .long 0, .int 0, .int 0, .int 0]) := o7
  obtain ⟨h8, e8, n8, o8, c8, K8⟩ := st_sub f_X6_init (mk_X6 h7) (k := 7) (by omega) o7 (Nat.le_of_ble_eq_true rfl)
  have a8 : h8.1 = a + 101 := n8.trans (congrArg (fun y => y + 9) a7)
  rw [a7] at o8
  replace o8 : h8.2 a = some (cO 7 [.ref (a + 1), .ref (a + 16), .ref (a + 66), .ref (a + 81), .ref (a + 82), .ref (a + 83), .ref (a + 84), .ref (a + 92), .null, .null, .null, .int 0, .long 0, .long 0, .int 0, .int 0, .int 0]) := o8
  obtain ⟨h9, e9, n9, o9, c9, K9⟩ := st_sub f_X5_init (mk_X5 h8) (k := 8) (by omega) o8 (Nat.le_of_ble_eq_true rfl)
  have a9 : h9.1 = a + 106 := n9.trans (congrArg (fun y => y + 5) a8)
  rw [a8] at o9
  replace o9 : h9.2 a = some (cO 7 [.ref (a + 1), .ref (a + 16), .ref (a + 66), .ref (a + 81), .ref (a + 82), .ref (a + 83), .ref (a + 84), .ref (a + 92), .ref (a + 101), .null, .null, .int 0, .long 0, .long 0, .int 0, .int 0, .int 0]) := o9
  obtain ⟨h10, e10, n10, o10, c10, K10⟩ := st_sub f_X4_init (mk_X4 h9) (k := 9) (by omega) o9 (Nat.le_of_ble_eq_true rfl)
  have a10 : h10.1 = a + 108 := n10.trans (congrArg (fun y => y + 2) a9)
  rw [a9] at o10
  replace o10 : h10.2 a = some (cO 7 [.ref (a + 1), .ref (a + 16), .ref (a + 66), .ref (a + 81), .ref (a + 82), .ref (a + 83), .ref (a + 84), .ref (a + 92), .ref (a + 101), .ref (a + 106), .null, .int 0, .long 0, .long 0, .int 0, .int 0, .int 0]) := o10
  obtain ⟨h11, e11, n11, o11, c11, K11⟩ := st_nw h10 (cI 1 150 (fun _ => 0)) (k := 10) (by omega) o10 (Nat.le_of_ble_eq_true rfl)
  have a11 : h11.1 = a + 109 := n11.trans (congrArg (fun y => y + 1) a10)
  rw [a10] at o11
  replace o11 : h11.2 a = some (cO 7 [.ref (a + 1), .ref (a + 16), .ref (a + 66), .ref (a + 81), .ref (a + 82), .ref (a + 83), .ref (a + 84), .ref (a + 92), .ref (a + 101), .ref (a + 106), .ref (a + 108), .int 0, .long 0, .long 0, .int 0, .int 0, .int 0]) := o11
  obtain ⟨h12, e12, n12, o12, K12⟩ := st_put h11 (k := 11) (v := .int 0) o11 (Nat.le_of_ble_eq_true rfl)
  have a12 : h12.1 = a + 109 := n12.trans a11
  replace o12 : h12.2 a = some (cO 7 [.ref (a + 1), .ref (a + 16), .ref (a + 66), .ref (a + 81), .ref (a + 82), .ref (a + 83), .ref (a + 84), .ref (a + 92), .ref (a + 101), .ref (a + 106), .ref (a + 108), .int 0, .long 0, .long 0, .int 0, .int 0, .int 0]) := o12
  obtain ⟨h13, e13, n13, o13, K13⟩ := st_put h12 (k := 12) (v := .long 0) o12 (Nat.le_of_ble_eq_true rfl)
  have a13 : h13.1 = a + 109 := n13.trans a12
  replace o13 : h13.2 a = some (cO 7 [.ref (a + 1), .ref (a + 16), .ref (a + 66), .ref (a + 81), .ref (a + 82), .ref (a + 83), .ref (a + 84), .ref (a + 92), .ref (a + 101), .ref (a + 106), .ref (a + 108), .int 0, .long 0, .long 0, .int 0, .int 0, .int 0]) := o13
  obtain ⟨h14, e14, n14, o14, K14⟩ := st_put h13 (k := 13) (v := .long 1) o13 (Nat.le_of_ble_eq_true rfl)
  have a14 : h14.1 = a + 109 := n14.trans a13
  replace o14 : h14.2 a = some (cO 7 [.ref (a + 1), .ref (a + 16), .ref (a + 66), .ref (a + 81), .ref (a + 82), .ref (a + 83), .ref (a + 84), .ref (a + 92), .ref (a + 101), .ref (a + 106), .ref (a + 108), .int 0, .long 0, .long 1, .int 0, .int 0, .int 0]) := o14
  obtain ⟨h15, e15, n15, o15, K15⟩ := st_put h14 (k := 14) (v := .int 0) o14 (Nat.le_of_ble_eq_true rfl)
  have a15 : h15.1 = a + 109 := n15.trans a14
  replace o15 : h15.2 a = some (cO 7 [.ref (a + 1), .ref (a + 16), .ref (a + 66), .ref (a + 81), .ref (a + 82), .ref (a + 83), .ref (a + 84), .ref (a + 92), .ref (a + 101), .ref (a + 106), .ref (a + 108), .int 0, .long 0, .long 1, .int 0, .int 0, .int 0]) := o15
  obtain ⟨h16, e16, n16, o16, K16⟩ := st_put h15 (k := 15) (v := .int 0) o15 (Nat.le_of_ble_eq_true rfl)
  have a16 : h16.1 = a + 109 := n16.trans a15
  replace o16 : h16.2 a = some (cO 7 [.ref (a + 1), .ref (a + 16), .ref (a + 66), .ref (a + 81), .ref (a + 82), .ref (a + 83), .ref (a + 84), .ref (a + 92), .ref (a + 101), .ref (a + 106), .ref (a + 108), .int 0, .long 0, .long 1, .int 0, .int 0, .int 0]) := o16
  obtain ⟨h17, e17, n17, o17, K17⟩ := st_put h16 (k := 16) (v := .int 0) o16 (Nat.le_of_ble_eq_true rfl)
  have a17 : h17.1 = a + 109 := n17.trans a16
  replace o17 : h17.2 a = some (cO 7 [.ref (a + 1), .ref (a + 16), .ref (a + 66), .ref (a + 81), .ref (a + 82), .ref (a + 83), .ref (a + 84), .ref (a + 92), .ref (a + 101), .ref (a + 106), .ref (a + 108), .int 0, .long 0, .long 1, .int 0, .int 0, .int 0]) := o17
  rw [a0] at c1
  rw [a1] at c2
  rw [a2] at c3
  rw [a3] at c4
  rw [a4] at c5
  rw [a5] at c6
  rw [a6] at c7
  rw [a7] at c8
  rw [a8] at c9
  rw [a9] at c10
  rw [a10] at c11
  have J1 : Kp (fun q => q = a ∨ q = a + 81 ∨ q = a + 82) h0 h1 := K1.weak (fun q e => Or.inl e)
  have J2 : Kp (fun q => q = a ∨ q = a + 81 ∨ q = a + 82) h1 h2 := K2.weak (fun q e => Or.inl e)
  have J3 : Kp (fun q => q = a ∨ q = a + 81 ∨ q = a + 82) h2 h3 := K3.weak (fun q e => Or.inl e)
  have J4 : Kp (fun q => q = a ∨ q = a + 81 ∨ q = a + 82) h3 h4 := K4.weak (fun q e => Or.inl e)
  have J5 : Kp (fun q => q = a ∨ q = a + 81 ∨ q = a + 82) h4 h5 := K5.weak (fun q e => Or.inl e)
  have J6 : Kp (fun q => q = a ∨ q = a + 81 ∨ q = a + 82) h5 h6 := K6.weak (fun q e => Or.inl e)
  have J7 : Kp (fun q => q = a ∨ q = a + 81 ∨ q = a + 82) h6 h7 := K7.weak (fun q e => Or.inl e)
  have J8 : Kp (fun q => q = a ∨ q = a + 81 ∨ q = a + 82) h7 h8 := K8.weak (fun q e => Or.inl e)
  have J9 : Kp (fun q => q = a ∨ q = a + 81 ∨ q = a + 82) h8 h9 := K9.weak (fun q e => Or.inl e)
  have J10 : Kp (fun q => q = a ∨ q = a + 81 ∨ q = a + 82) h9 h10 := K10.weak (fun q e => Or.inl e)
  have J11 : Kp (fun q => q = a ∨ q = a + 81 ∨ q = a + 82) h10 h11 := K11.weak (fun q e => Or.inl e)
  have J12 : Kp (fun q => q = a ∨ q = a + 81 ∨ q = a + 82) h11 h12 := K12.weak (fun q e => Or.inl e)
  have J13 : Kp (fun q => q = a ∨ q = a + 81 ∨ q = a + 82) h12 h13 := K13.weak (fun q e => Or.inl e)
  have J14 : Kp (fun q => q = a ∨ q = a + 81 ∨ q = a + 82) h13 h14 := K14.weak (fun q e => Or.inl e)
  have J15 : Kp (fun q => q = a ∨ q = a + 81 ∨ q = a + 82) h14 h15 := K15.weak (fun q e => Or.inl e)
  have J16 : Kp (fun q => q = a ∨ q = a + 81 ∨ q = a + 82) h15 h16 := K16.weak (fun q e => Or.inl e)
  have J17 : Kp (fun q => q = a ∨ q = a + 81 ∨ q = a + 82) h16 h17 := K17.weak (fun q e => Or.inl e)
  have r81 : h17.2 (a + 81) = some (cR 4 2 (fun _ => none)) := by
    rw [(K5.trans (K6.trans (K7.trans (K8.trans (K9.trans (K10.trans (K11.trans (K12.trans (K13.trans (K14.trans (K15.trans (K16.trans K17)))))))))))).2 _ (by omega) (by omega)]; exact c4
  have r82 : h17.2 (a + 82) = some (cR 5 2 (fun _ => none)) := by
    rw [(K6.trans (K7.trans (K8.trans (K9.trans (K10.trans (K11.trans (K12.trans (K13.trans (K14.trans (K15.trans (K16.trans K17))))))))))).2 _ (by omega) (by omega)]; exact c5
  obtain ⟨h18, e18, n18, r18, c18, K18⟩ := st_arr f_X1_init (mk_X1 h17) (o := a) (co := 7) (fo := 3) (kd := 4) (y := 0) (i := 0) (gR_at o17 rfl) (by omega) r81 rfl (by omega) (by omega) rfl
  have o18 := o17
  rw [← K18.2 a (by omega) (by omega)] at o18
  have q82 := r82
  rw [← K18.2 _ (by omega) (by omega)] at q82
  obtain ⟨h19, e19, n19, r19, c19, K19⟩ := st_arr f_X2_init (mk_X2 h18) (o := a) (co := 7) (fo := 4) (kd := 5) (y := 0) (i := 0) (gR_at o18 rfl) (by omega) q82 rfl (by omega) (by omega) rfl
  have o19 := o18
  rw [← K19.2 a (by omega) (by omega)] at o19
  have q81 := r18
  rw [← K19.2 _ (by omega) (by omega)] at q81
  obtain ⟨h20, e20, n20, r20, c20, K20⟩ := st_arr f_X1_init (mk_X1 h19) (o := a) (co := 7) (fo := 3) (kd := 4) (y := 1) (i := 1) (gR_at o19 rfl) (by omega) q81 rfl (by omega) (by omega) rfl
  have o20 := o19
  rw [← K20.2 a (by omega) (by omega)] at o20
  have p82 := r19
  rw [← K20.2 _ (by omega) (by omega)] at p82
  obtain ⟨h21, e21, n21, r21, c21, K21⟩ := st_arr f_X2_init (mk_X2 h20) (o := a) (co := 7) (fo := 4) (kd := 5) (y := 1) (i := 1) (gR_at o20 rfl) (by omega) p82 rfl (by omega) (by omega) rfl
  have o21 := o20
  rw [← K21.2 a (by omega) (by omega)] at o21
  have t81 := r20
  rw [← K21.2 _ (by omega) (by omega)] at t81
  have b17 : h17.1 = a + 109 := by omega
  have b18 : h18.1 = a + 124 := by omega
  have b19 : h19.1 = a + 174 := by omega
  have b20 : h20.1 = a + 189 := by omega
  rw [b17] at c18
  rw [b18] at c19
  rw [b19] at c20
  rw [b20] at c21
  rw [b17, b19] at t81
  rw [b18, b20] at r21
  have J18 : Kp (fun q => q = a ∨ q = a + 81 ∨ q = a + 82) h17 h18 := K18.weak (fun q e => Or.inr (Or.inl e))
  have J19 : Kp (fun q => q = a ∨ q = a + 81 ∨ q = a + 82) h18 h19 := K19.weak (fun q e => Or.inr (Or.inr e))
  have J20 : Kp (fun q => q = a ∨ q = a + 81 ∨ q = a + 82) h19 h20 := K20.weak (fun q e => Or.inr (Or.inl e))
  have J21 : Kp (fun q => q = a ∨ q = a + 81 ∨ q = a + 82) h20 h21 := K21.weak (fun q e => Or.inr (Or.inr e))
  have L20 := J21
  have L19 := J20.trans L20
  have L18 := J19.trans L19
  have L17 := J18.trans L18
  have L16 := J17.trans L17
  have L15 := J16.trans L16
  have L14 := J15.trans L15
  have L13 := J14.trans L14
  have L12 := J13.trans L13
  have L11 := J12.trans L12
  have L10 := J11.trans L11
  have L9 := J10.trans L10
  have L8 := J9.trans L9
  have L7 := J8.trans L8
  have L6 := J7.trans L7
  have L5 := J6.trans L6
  have L4 := J5.trans L5
  have L3 := J4.trans L4
  have L2 := J3.trans L3
  have L1 := J2.trans L2
  have L0 := J1.trans L1
  have t83 : h21.2 (a + 83) = some (cI 2 2 (fun _ => 0)) := by rw [L6.2 _ (by omega) (by omega)]; exact c6
  have t108 : h21.2 (a + 108) = some (cI 1 150 (fun _ => 0)) := by rw [L11.2 _ (by omega) (by omega)]; exact c11
  refine ⟨h21, ?_, by omega, ?_, ?_, ?_, ?_, ?_, ?_, ?_, ?_, ?_, ?_, ?_, ?_, ?_, ?_⟩
  · rw [f_X7_init, e1, e2, e3, e4, e5, e6, e7, e8, e9, e10, e11, pI, e12, b_some, pJ, e13, b_some, pJ, e14, b_some, pI, e15, b_some, pI, e16, b_some, pI, e17, b_some, e18, e19, e20, e21]
  · exact At_mk 1 (fun k hk => by rw [show k = 0 by omega]; exact o21) (fun k hk => fl_hi hk)
  · exact L1.at 15 c1 (fun _ e => hh_hi e) (by omega) (fun k hk e => by omega)
  · exact L2.at 50 c2 (fun _ e => past_hi e) (by omega) (fun k hk e => by omega)
  · exact L3.at 15 c3 (fun _ e => hh_hi e) (by omega) (fun k hk e => by omega)
  · exact At_mk 3 (fun k hk => by
      rcases (show k = 0 ∨ k = 1 ∨ k = 2 by omega) with rfl | rfl | rfl
      · exact t81
      · exact r21
      · exact t83) (fun k hk => kf_hi hk)
  · exact L7.at 8 c7 (fun _ e => fc_hi e) (by omega) (fun k hk e => by omega)
  · exact L8.at 9 c8 (fun _ e => wf_hi e) (by omega) (fun k hk e => by omega)
  · exact L9.at 5 c9 (fun _ e => wk_hi e) (by omega) (fun k hk e => by omega)
  · exact L10.at 1 c10 (fun _ e => rd_hi e) (by omega) (fun k hk e => by omega)
  · exact At_mk 1 (fun k hk => by rw [show k = 0 by omega]; exact t108) (fun k hk => tx_hi hk)
  · exact L18.at 15 c18 (fun _ e => hh_hi e) (by omega) (fun k hk e => by omega)
  · exact L19.at 50 c19 (fun _ e => past_hi e) (by omega) (fun k hk e => by omega)
  · exact L20.at 15 c20 (fun _ e => hh_hi e) (by omega) (fun k hk e => by omega)
  · exact c21
/-- where all begins -/
theorem inv_0 (B : Nat) : ∃ h3 h6, f_X7_init (hnew (B, fun _ => none) (cO 7 [.null, .null, .null, .null, .null, .null, .null, .null, .null, .null, .null, .int 0, .long 0, .long 0, .int 0, .int 0, .int 0])) B = some h3 ∧ h3.1 = B + 239 ∧ f_X8_init (hnew h3 (cO 8 [.null, .null, .null, .null, .long 0, .long 0, .int 0, .int 0, .null, .null, .null, .null, .null, .null, .null, .null, .null, .null, .null, .null, .int 0, .int 0, .int 0, .int 0, .int 0, .null, .null])) (B + 239) = some h6 ∧ Inv B 0 h6 := by
  obtain ⟨h3, e1, n1, t0, t1, t2, t3, t4, t5, t6, t7, t8, t9, t10, t11, t12, t13⟩ := mk_X7 (B, fun _ => none)
  have n1' : h3.1 = B + 239 := n1
  obtain ⟨h6, e2, n2, u0, kp⟩ := mk_X8 h3
  rw [n1'] at e2 u0
  have K : Kp (fun _ => False) h3 h6 := ⟨by omega, fun q _ hq => kp q hq⟩
  have s0 : At h6 B (flL B zB l01) := K.at 1 t0 (fun _ e => fl_hi e) (by show B + 1 ≤ _; omega) (fun _ _ e => e)
  have s1 := K.at 15 t1 (fun _ e => hh_hi e) (by show B + 1 + 15 ≤ _; omega) (fun _ _ e => e)
  have s2 := K.at 50 t2 (fun _ e => past_hi e) (by show B + 16 + 50 ≤ _; omega) (fun _ _ e => e)
  have s3 := K.at 15 t3 (fun _ e => hh_hi e) (by show B + 66 + 15 ≤ _; omega) (fun _ _ e => e)
  have s4 := K.at 3 t4 (fun _ e => kf_hi e) (by show B + 81 + 3 ≤ _; omega) (fun _ _ e => e)
  have s5 := K.at 8 t5 (fun _ e => fc_hi e) (by show B + 84 + 8 ≤ _; omega) (fun _ _ e => e)
  have s6 := K.at 9 t6 (fun _ e => wf_hi e) (by show B + 92 + 9 ≤ _; omega) (fun _ _ e => e)
  have s7 := K.at 5 t7 (fun _ e => wk_hi e) (by show B + 101 + 5 ≤ _; omega) (fun _ _ e => e)
  have s8 := K.at 1 t8 (fun _ e => rd_hi e) (by show B + 106 + 1 ≤ _; omega) (fun _ _ e => e)
  have s9 := K.at 1 t9 (fun _ e => tx_hi e) (by show B + 108 + 1 ≤ _; omega) (fun _ _ e => e)
  have s10 := K.at 15 t10 (fun _ e => hh_hi e) (by show B + 109 + 15 ≤ _; omega) (fun _ _ e => e)
  have s11 := K.at 50 t11 (fun _ e => past_hi e) (by show B + 124 + 50 ≤ _; omega) (fun _ _ e => e)
  have s12 := K.at 15 t12 (fun _ e => hh_hi e) (by show B + 174 + 15 ≤ _; omega) (fun _ _ e => e)
  have s13 := K.at 50 t13 (fun _ e => past_hi e) (by show B + 189 + 50 ≤ _; omega) (fun _ _ e => e)
  refine ⟨h3, h6, e1, n1', e2, fun j => if j = 1 ∨ j = 3 ∨ j = 12 ∨ j = 14 then beginH zB 10 3 else if j = 2 ∨ j = 4 ∨ j = 13 ∨ j = 15 then sS zB 0 0 else if j = 10 then sS zB 5 (-1) else if j = 16 then sB zB 0 (beginN (zB.2 0) 10 3) else zB, fun j => (0, pf (if j = 0 then B + 16 else if j = 1 then B + 124 else B + 189), fun _ => zB), fun _ => l01, fun _ _ _ => 0, B + 106 + 1, fun _ i => i, ⟨s0, s1, s2, s3, s4, s5, s6, s7, s8, s9, s10, s11, s12, s13, u0⟩, ⟨⟨pf_ok _, pf_ok _, pf_ok _⟩, ⟨Nat.zero_le _, Nat.zero_le _, Nat.zero_le _⟩, ST.begin (e := 10) (r := 3) (by omega), ⟨rfl, rfl⟩, fun c => absurd rfl c, fun c => absurd rfl c, ⟨rfl, rfl, rfl⟩, ⟨rfl, 0, by omega, rfl, fun j hj => absurd hj (by omega)⟩, rfl, rfl⟩⟩
