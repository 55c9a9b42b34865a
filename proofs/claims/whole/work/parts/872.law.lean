/-! ===== the law's loop: laid by program ===== -/
theorem lw_c {L i : Nat} (hL : L ≤ 256) (hi : i ≤ 64) : (Int32.ofNat L - 4 < nI (4 * i)) ↔ L < 4 * i + 4 := by
  by_cases h4 : 4 ≤ L
  · rw [show Int32.ofNat L - 4 = nI (L - 4) from pk_sub (a := L) (b := 4) h4, nI_ltI (by omega) (by omega)]
    omega
  · refine ⟨fun _ => by omega, fun _ => ?_⟩
    refine Int32.lt_of_lt_of_le ?_ (nI_pos' (n := 4 * i) (by omega))
    rcases (show L = 0 ∨ L = 1 ∨ L = 2 ∨ L = 3 by omega) with rfl | rfl | rfl | rfl <;> decide
theorem inv_o7 {B k : Nat} {h : Hea} (a : Inv B k h) : isO h B 7 = some () := by
  obtain ⟨X, P, L, R, t, q, w, i⟩ := a
  exact fl_o (wd_fl w)
theorem law_go (B L : Nat) (xs : Nat → Int32) (hL : L ≤ 256) : ∀ (r i f : Nat) (h : Hea), i + r = 64 → r < f → Inv B i h → ∃ hz, f_L_law_18 L xs f h B (B + 239) (nI (4 * i)) = some (1, hz) := by
  intro r
  induction r with
  | zero =>
    intro i f h hi hf a
    obtain ⟨f, rfl⟩ : ∃ q, f = q + 1 := ⟨f - 1, by omega⟩
    exact ⟨h, by rw [f_L_law_18, if_pos ((lw_c hL (by omega)).mpr (by omega))]⟩
  | succ r ih =>
    intro i f h hi hf a
    obtain ⟨f, rfl⟩ : ∃ q, f = q + 1 := ⟨f - 1, by omega⟩
    by_cases c : L < 4 * i + 4
    · exact ⟨h, by rw [f_L_law_18, if_pos ((lw_c hL (by omega)).mpr c)]⟩
    have sl : ∀ p, p < L → sLd L xs (nI p) = some (xs p) := fun p hp => by
      rw [sLd, if_pos (inR_nI hp (by omega)), nI_clamp (by omega)]
    have l0 := sl (4 * i) (by omega)
    have l1 : sLd L xs (nI (4 * i) + 1) = some (xs (4 * i + 1)) := by rw [show nI (4 * i) + 1 = nI (4 * i + 1) from nI_add _ 1]; exact sl _ (by omega)
    have l2 : sLd L xs (nI (4 * i) + 2) = some (xs (4 * i + 2)) := by rw [show nI (4 * i) + 2 = nI (4 * i + 2) from nI_add _ 2]; exact sl _ (by omega)
    have l3 : sLd L xs (nI (4 * i) + 3) = some (xs (4 * i + 3)) := by rw [show nI (4 * i) + 3 = nI (4 * i + 3) from nI_add _ 3]; exact sl _ (by omega)
    have x4 : nI (4 * i) + 4 = nI (4 * (i + 1)) := nI_add _ 4
    have o7 := inv_o7 a
    have hk : i ≤ 64 := by omega
    have ih' := fun h2 (e : Inv B (i + 1) h2) => ih (i + 1) f h2 (by omega) (by omega) e
    rw [f_L_law_18, if_neg (fun e => c ((lw_c hL (by omega)).mp e)), l0, b_some, l1, l2, l3, x4]
    generalize xs (4 * i) &&& 63 = v
    generalize xs (4 * i + 1) = u1
    generalize xs (4 * i + 2) = u2
    generalize xs (4 * i + 3) = u3
    by_cases c0 : v = 0
    · obtain ⟨x, h1, h2, e1, e2, e3, e4⟩ := op_house a u1 u2
      obtain ⟨hz, ez⟩ := ih' h2 e4
      have e1' : f_X7_house h B u1 u2 = some (x, h1) := e1
      have e2' : f_X8_house h1 (B + 239) u1 u2 = some (x, h2) := e2
      exact ⟨hz, by rw [if_pos c0, b_some, b_some, o7, b_some, e1', b2_some, b_some, b_some, e3, b_some, e2', b2_some, if_pos rfl, ez]⟩
    rw [if_neg c0]
    by_cases c1 : v = 1
    · obtain ⟨x, h1, h2, e1, e2, e3, e4⟩ := op_room a u1 u2
      obtain ⟨hz, ez⟩ := ih' h2 e4
      have e1' : f_X7_room h B u1 u2 = some (x, h1) := e1
      have e2' : f_X8_room h1 (B + 239) u1 u2 = some (x, h2) := e2
      exact ⟨hz, by rw [if_pos c1, b_some, b_some, o7, b_some, e1', b2_some, b_some, b_some, e3, b_some, e2', b2_some, if_pos rfl, ez]⟩
    rw [if_neg c1]
    by_cases c2 : v = 2
    · obtain ⟨x, h1, h2, e1, e2, e3, e4⟩ := op_door a u1 u2 u3
      obtain ⟨hz, ez⟩ := ih' h2 e4
      have e1' : f_X7_door h B u1 u2 u3 = some (x, h1) := e1
      have e2' : f_X8_door h1 (B + 239) u1 u2 u3 = some (x, h2) := e2
      exact ⟨hz, by rw [if_pos c2, b_some, b_some, b_some, o7, b_some, e1', b2_some, b_some, b_some, b_some, e3, b_some, e2', b2_some, if_pos rfl, ez]⟩
    rw [if_neg c2]
    by_cases c3 : v = 3
    · obtain ⟨x, h1, h2, e1, e2, e3, e4⟩ := op_list a u1
      obtain ⟨hz, ez⟩ := ih' h2 e4
      have e1' : f_X7_list h B u1 = some (x, h1) := e1
      have e2' : f_X8_list h1 (B + 239) u1 = some (x, h2) := e2
      exact ⟨hz, by rw [if_pos c3, b_some, o7, b_some, e1', b2_some, b_some, e3, b_some, e2', b2_some, if_pos rfl, ez]⟩
    rw [if_neg c3]
    by_cases c4 : v = 4
    · obtain ⟨x, h1, h2, e1, e2, e3, e4⟩ := op_only a u1
      obtain ⟨hz, ez⟩ := ih' h2 e4
      have e1' : f_X7_only h B u1 = some (x, h1) := e1
      have e2' : f_X8_only h1 (B + 239) u1 = some (x, h2) := e2
      exact ⟨hz, by rw [if_pos c4, b_some, o7, b_some, e1', b2_some, b_some, e3, b_some, e2', b2_some, if_pos rfl, ez]⟩
    rw [if_neg c4]
    by_cases c5 : v = 5
    · obtain ⟨x, h1, h2, e1, e2, e3, e4⟩ := op_eyes a u1
      obtain ⟨hz, ez⟩ := ih' h2 e4
      have e1' : f_X7_eyes h B u1 = some (x, h1) := e1
      have e2' : f_X8_eyes h1 (B + 239) u1 = some (x, h2) := e2
      exact ⟨hz, by rw [if_pos c5, b_some, o7, b_some, e1', b2_some, b_some, e3, b_some, e2', b2_some, if_pos rfl, ez]⟩
    rw [if_neg c5]
    by_cases c6 : v = 6
    · obtain ⟨x, h1, h2, e1, e2, e3, e4⟩ := op_heir a u1 u2 u3
      obtain ⟨hz, ez⟩ := ih' h2 e4
      have e1' : f_X7_heir h B u1 u2 u3 = some (x, h1) := e1
      have e2' : f_X8_heir h1 (B + 239) u1 u2 u3 = some (x, h2) := e2
      exact ⟨hz, by rw [if_pos c6, b_some, b_some, b_some, o7, b_some, e1', b2_some, b_some, b_some, b_some, e3, b_some, e2', b2_some, if_pos rfl, ez]⟩
    rw [if_neg c6]
    by_cases c7 : v = 7
    · obtain ⟨x, h1, h2, e1, e2, e3, e4⟩ := op_type a u1
      obtain ⟨hz, ez⟩ := ih' h2 e4
      have e1' : f_X7_type h B u1 = some (x, h1) := e1
      have e2' : f_X8_type h1 (B + 239) u1 = some (x, h2) := e2
      exact ⟨hz, by rw [if_pos c7, b_some, o7, b_some, e1', b2_some, b_some, e3, b_some, e2', b2_some, if_pos rfl, ez]⟩
    rw [if_neg c7]
    by_cases c8 : v = 8
    · obtain ⟨x, h1, h2, e1, e2, e3, e4⟩ := op_clear a
      obtain ⟨hz, ez⟩ := ih' h2 e4
      have e1' : f_X7_clear h B = some (x, h1) := e1
      have e2' : f_X8_clear h1 (B + 239) = some (x, h2) := e2
      exact ⟨hz, by rw [if_pos c8, o7, b_some, e1', b2_some, e3, b_some, e2', b2_some, if_pos rfl, ez]⟩
    rw [if_neg c8]
    by_cases c9 : v = 9
    · obtain ⟨x, h1, h2, e1, e2, e3, e4⟩ := op_read a
      obtain ⟨hz, ez⟩ := ih' h2 e4
      have e1' : f_X7_read h B = some (x, h1) := e1
      have e2' : f_X8_read h1 (B + 239) = some (x, h2) := e2
      exact ⟨hz, by rw [if_pos c9, o7, b_some, e1', b2_some, e3, b_some, e2', b2_some, if_pos rfl, ez]⟩
    rw [if_neg c9]
    by_cases c10 : v = 10
    · obtain ⟨x, h1, h2, e1, e2, e3, e4⟩ := op_move a hk u1 u2
      obtain ⟨hz, ez⟩ := ih' h2 e4
      have e1' : f_X7_move h B u1 u2 = some (x, h1) := e1
      have e2' : f_X8_move h1 (B + 239) u1 u2 = some (x, h2) := e2
      exact ⟨hz, by rw [if_pos c10, b_some, b_some, o7, b_some, e1', b2_some, b_some, b_some, e3, b_some, e2', b2_some, if_pos rfl, ez]⟩
    rw [if_neg c10]
    by_cases c11 : v = 11
    · obtain ⟨x, h1, h2, e1, e2, e3, e4⟩ := op_night a hk
      obtain ⟨hz, ez⟩ := ih' h2 e4
      have e1' : f_X7_night h B = some (x, h1) := e1
      have e2' : f_X8_night h1 (B + 239) = some (x, h2) := e2
      exact ⟨hz, by rw [if_pos c11, o7, b_some, e1', b2_some, e3, b_some, e2', b2_some, if_pos rfl, ez]⟩
    rw [if_neg c11]
    by_cases c12 : v = 12
    · obtain ⟨x, h1, h2, e1, e2, e3, e4⟩ := op_undo a
      obtain ⟨hz, ez⟩ := ih' h2 e4
      have e1' : f_X7_undo h B = some (x, h1) := e1
      have e2' : f_X8_undo h1 (B + 239) = some (x, h2) := e2
      exact ⟨hz, by rw [if_pos c12, o7, b_some, e1', b2_some, e3, b_some, e2', b2_some, if_pos rfl, ez]⟩
    rw [if_neg c12]
    by_cases c13 : v = 13
    · obtain ⟨x, h1, h2, e1, e2, e3, e4⟩ := op_of a hk u1 u2
      obtain ⟨hz, ez⟩ := ih' h2 e4
      have e1' : f_X7_of h B u1 u2 = some (x, h1) := e1
      have e2' : f_X8_of h1 (B + 239) u1 u2 = some (x, h2) := e2
      exact ⟨hz, by rw [if_pos c13, b_some, b_some, o7, b_some, e1', b2_some, b_some, b_some, e3, b_some, e2', b2_some, if_pos rfl, ez]⟩
    rw [if_neg c13]
    by_cases c14 : v = 14
    · obtain ⟨x, h1, h2, e1, e2, e3, e4⟩ := op_looks a u1
      obtain ⟨hz, ez⟩ := ih' h2 e4
      have e1' : f_X7_looks h B u1 = some (x, h1) := e1
      have e2' : f_X8_looks h1 (B + 239) u1 = some (x, h2) := e2
      exact ⟨hz, by rw [if_pos c14, b_some, o7, b_some, e1', b2_some, b_some, e3, b_some, e2', b2_some, if_pos rfl, ez]⟩
    rw [if_neg c14]
    by_cases c15 : v = 15
    · obtain ⟨x, h1, h2, e1, e2, e3, e4⟩ := op_byThen a hk u1 u2 u3
      obtain ⟨hz, ez⟩ := ih' h2 e4
      have e1' : f_X7_byThen h B u1 u2 u3 = some (x, h1) := e1
      have e2' : f_X8_byThen h1 (B + 239) u1 u2 u3 = some (x, h2) := e2
      exact ⟨hz, by rw [if_pos c15, b_some, b_some, b_some, o7, b_some, e1', b2_some, b_some, b_some, b_some, e3, b_some, e2', b2_some, if_pos rfl, ez]⟩
    rw [if_neg c15]
    by_cases c16 : v = 16
    · obtain ⟨x, h1, h2, e1, e2, e3, e4⟩ := op_first a hk u1
      obtain ⟨hz, ez⟩ := ih' h2 e4
      have e1' : f_X7_first h B u1 = some (x, h1) := e1
      have e2' : f_X8_first h1 (B + 239) u1 = some (x, h2) := e2
      exact ⟨hz, by rw [if_pos c16, b_some, o7, b_some, e1', b2_some, b_some, e3, b_some, e2', b2_some, if_pos rfl, ez]⟩
    rw [if_neg c16]
    by_cases c17 : v = 17
    · obtain ⟨x, h2, e1, e2, -, e3, e4⟩ := op_passed a hk
      obtain ⟨hz, ez⟩ := ih' h2 e4
      exact ⟨hz, by rw [if_pos c17, o7, b_some, e1, b_some, e3, b_some, e2, b2_some, if_pos rfl, ez]⟩
    rw [if_neg c17]
    by_cases c18 : v = 18
    · obtain ⟨x, h1, h2, e1, e2, e3, e4⟩ := op_hide a hk u1
      obtain ⟨hz, ez⟩ := ih' h2 e4
      have e1' : f_X7_hide h B u1 = some (x, h1) := e1
      have e2' : f_X8_hide h1 (B + 239) u1 = some (x, h2) := e2
      exact ⟨hz, by rw [if_pos c18, b_some, o7, b_some, e1', b2_some, b_some, e3, b_some, e2', b2_some, if_pos rfl, ez]⟩
    rw [if_neg c18]
    by_cases c19 : v = 19
    · obtain ⟨x, h1, h2, e1, e2, e3, e4⟩ := op_way a hk u1 u2
      obtain ⟨hz, ez⟩ := ih' h2 e4
      have e1' : f_X7_way h B u1 u2 = some (x, h1) := e1
      have e2' : f_X8_way h1 (B + 239) u1 u2 = some (x, h2) := e2
      exact ⟨hz, by rw [if_pos c19, b_some, b_some, o7, b_some, e1', b2_some, b_some, b_some, e3, b_some, e2', b2_some, if_pos rfl, ez]⟩
    rw [if_neg c19]
    by_cases c20 : v = 20
    · obtain ⟨x, h1, h2, e1, e2, e3, e4⟩ := op_choose a hk u1 u2
      obtain ⟨hz, ez⟩ := ih' h2 e4
      have e1' : f_X7_choose h B u1 u2 = some (x, h1) := e1
      have e2' : f_X8_choose h1 (B + 239) u1 u2 = some (x, h2) := e2
      exact ⟨hz, by rw [if_pos c20, b_some, b_some, o7, b_some, e1', b2_some, b_some, b_some, e3, b_some, e2', b2_some, if_pos rfl, ez]⟩
    rw [if_neg c20]
    by_cases c21 : v = 21
    · obtain ⟨x, h1, h2, e1, e2, e3, e4⟩ := op_odds a hk u1
      obtain ⟨hz, ez⟩ := ih' h2 e4
      have e1' : f_X7_odds h B u1 = some (x, h1) := e1
      have e2' : f_X8_odds h1 (B + 239) u1 = some (x, h2) := e2
      exact ⟨hz, by rw [if_pos c21, b_some, o7, b_some, e1', b2_some, b_some, e3, b_some, e2', b2_some, if_pos rfl, ez]⟩
    rw [if_neg c21]
    by_cases c22 : v = 22
    · obtain ⟨x, h1, h2, e1, e2, e3, e4⟩ := op_seen a u1 u2 u3
      obtain ⟨hz, ez⟩ := ih' h2 e4
      have e1' : f_X7_seen h B u1 u2 u3 = some (x, h1) := e1
      have e2' : f_X8_seen h1 (B + 239) u1 u2 u3 = some (x, h2) := e2
      exact ⟨hz, by rw [if_pos c22, b_some, b_some, b_some, o7, b_some, e1', b2_some, b_some, b_some, b_some, e3, b_some, e2', b2_some, if_pos rfl, ez]⟩
    rw [if_neg c22]
    by_cases c23 : v = 23
    · obtain ⟨x, h1, h2, e1, e2, e3, e4⟩ := op_forget a
      obtain ⟨hz, ez⟩ := ih' h2 e4
      have e1' : f_X7_forget h B = some (x, h1) := e1
      have e2' : f_X8_forget h1 (B + 239) = some (x, h2) := e2
      exact ⟨hz, by rw [if_pos c23, o7, b_some, e1', b2_some, e3, b_some, e2', b2_some, if_pos rfl, ez]⟩
    rw [if_neg c23]
    by_cases c24 : v = 24
    · obtain ⟨x, h1, h2, e1, e2, e3, e4⟩ := op_may a u1
      obtain ⟨hz, ez⟩ := ih' h2 e4
      have e1' : f_X7_may h B u1 = some (x, h1) := e1
      have e2' : f_X8_may h1 (B + 239) u1 = some (x, h2) := e2
      exact ⟨hz, by rw [if_pos c24, b_some, o7, b_some, e1', b2_some, b_some, e3, b_some, e2', b2_some, if_pos rfl, ez]⟩
    rw [if_neg c24]
    by_cases c25 : v = 25
    · obtain ⟨x, h1, h2, e1, e2, e3, e4⟩ := op_ways a
      obtain ⟨hz, ez⟩ := ih' h2 e4
      have e1' : f_X7_ways h B = some (x, h1) := e1
      have e2' : f_X8_ways h1 (B + 239) = some (x, h2) := e2
      exact ⟨hz, by rw [if_pos c25, o7, b_some, e1', b2_some, e3, b_some, e2', b2_some, if_pos ((lg_cmp_eq x x).mpr rfl), ez]⟩
    rw [if_neg c25]
    by_cases c26 : v = 26
    · obtain ⟨x, h1, h2, e1, e2, e3, e4⟩ := op_peek a u1
      obtain ⟨hz, ez⟩ := ih' h2 e4
      have e1' : f_X7_peek h B u1 = some (x, h1) := e1
      have e2' : f_X8_peek h1 (B + 239) u1 = some (x, h2) := e2
      exact ⟨hz, by rw [if_pos c26, b_some, o7, b_some, e1', b2_some, b_some, e3, b_some, e2', b2_some, if_pos rfl, ez]⟩
    rw [if_neg c26]
    by_cases c27 : v = 27
    · obtain ⟨x, h1, h2, e1, e2, e3, e4⟩ := op_nights a hk u1 u2
      obtain ⟨hz, ez⟩ := ih' h2 e4
      have e1' : f_X7_nights h B u1 u2 = some (x, h1) := e1
      have e2' : f_X8_nights h1 (B + 239) u1 u2 = some (x, h2) := e2
      exact ⟨hz, by rw [if_pos c27, b_some, b_some, o7, b_some, e1', b2_some, b_some, b_some, e3, b_some, e2', b2_some, if_pos rfl, ez]⟩
    rw [if_neg c27]
    by_cases c28 : v = 28
    · obtain ⟨x, h1, h2, e1, e2, e3, e4⟩ := op_part a u1
      obtain ⟨hz, ez⟩ := ih' h2 e4
      have e1' : f_X7_part h B u1 = some (x, h1) := e1
      have e2' : f_X8_part h1 (B + 239) u1 = some (x, h2) := e2
      exact ⟨hz, by rw [if_pos c28, b_some, o7, b_some, e1', b2_some, b_some, e3, b_some, e2', b2_some, if_pos ((lg_cmp_eq x x).mpr rfl), ez]⟩
    rw [if_neg c28]
    by_cases c29 : v = 29
    · obtain ⟨x, h1, h2, e1, e2, e3, e4⟩ := op_image a u1
      obtain ⟨hz, ez⟩ := ih' h2 e4
      have e1' : f_X7_image h B u1 = some (x, h1) := e1
      have e2' : f_X8_image h1 (B + 239) u1 = some (x, h2) := e2
      exact ⟨hz, by rw [if_pos c29, b_some, o7, b_some, e1', b2_some, b_some, e3, b_some, e2', b2_some, if_pos rfl, ez]⟩
    rw [if_neg c29]
    by_cases c30 : v = 30
    · obtain ⟨x, h1, h2, e1, e2, e3, e4⟩ := op_from a u1
      obtain ⟨hz, ez⟩ := ih' h2 e4
      have e1' : f_X7_from h B u1 = some (x, h1) := e1
      have e2' : f_X8_from h1 (B + 239) u1 = some (x, h2) := e2
      exact ⟨hz, by rw [if_pos c30, b_some, o7, b_some, e1', b2_some, b_some, e3, b_some, e2', b2_some, if_pos rfl, ez]⟩
    rw [if_neg c30]
    by_cases c31 : v = 31
    · obtain ⟨x, h1, h2, e1, e2, e3, e4⟩ := op_status a u1
      obtain ⟨hz, ez⟩ := ih' h2 e4
      have e1' : f_X7_status h B u1 = some (x, h1) := e1
      have e2' : f_X8_status h1 (B + 239) u1 = some (x, h2) := e2
      exact ⟨hz, by rw [if_pos c31, b_some, o7, b_some, e1', b2_some, b_some, e3, b_some, e2', b2_some, if_pos rfl, ez]⟩
    rw [if_neg c31]
    by_cases c32 : v = 32
    · obtain ⟨x, h1, h2, e1, e2, e3, e4⟩ := op_count a u1
      obtain ⟨hz, ez⟩ := ih' h2 e4
      have e1' : f_X7_count h B u1 = some (x, h1) := e1
      have e2' : f_X8_count h1 (B + 239) u1 = some (x, h2) := e2
      exact ⟨hz, by rw [if_pos c32, b_some, o7, b_some, e1', b2_some, b_some, e3, b_some, e2', b2_some, if_pos rfl, ez]⟩
    rw [if_neg c32]
    by_cases c33 : v = 33
    · obtain ⟨x, e1, e2, -, e3, e4⟩ := op_digest a
      obtain ⟨hz, ez⟩ := ih' h e4
      exact ⟨hz, by rw [if_pos c33, o7, b_some, e1, b_some, e3, b_some, e2, b_some, if_pos ((lg_cmp_eq x x).mpr rfl), ez]⟩
    rw [if_neg c33]
    exact ih' h a.up
