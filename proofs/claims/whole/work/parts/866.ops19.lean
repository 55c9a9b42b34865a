/-! ===== operations: image, from ===== -/
def imG (g f : Nat → Int32) (D j e : Nat) : Nat → Int32 := fun q => if D + j ≤ q ∧ q < D + e then g (q - D) else f q
theorem imG_v (g f : Nat → Int32) (D j e q : Nat) : imG g f D j e q = if D + j ≤ q ∧ q < D + e then g (q - D) else f q := rfl
theorem imG_0 (g f : Nat → Int32) (D : Nat) {j e : Nat} (h : e ≤ j) : imG g f D j e = f := by
  funext q
  rw [imG_v, if_neg (by omega)]
theorem imG_s (g f : Nat → Int32) {D j e : Nat} (h : j < e) : imG g (upd f (D + j) (g j)) D (j + 1) e = imG g f D j e := by
  funext q
  rw [imG_v, imG_v]
  by_cases h1 : q = D + j
  · subst h1
    rw [if_neg (by omega), upd_v, if_pos rfl, if_pos (by omega), show D + j - D = j by omega]
  · by_cases h2 : D + (j + 1) ≤ q ∧ q < D + e
    · rw [if_pos h2, if_pos (by omega)]
    · rw [if_neg h2, if_neg (by omega), upd_v, if_neg h1]
theorem nar_z1 : vp_nar .boolean 1 = 1 := by decide +kernel
section
variable {h : Hea} {b : Nat} {m : Blk} {l : Nat → Int64} {r : Nat → Nat → Int64}
theorem g8_image19 {i : Nat} (hi : i < 2) : ∀ (k j n : Nat) (f : Nat → Int32), j + k = 399 → k < n → f_X8_image_19 n (blk b (mdL b (sB m 1 f) l r) h) b (nI i) (nI j) = some (blk b (mdL b (sB m 1 (imG (m.2 0) f (399 * i) j 399)) l r) h) := by
  intro k
  induction k with
  | zero =>
    intro j n f hj hn
    obtain ⟨n, rfl⟩ : ∃ q, n = q + 1 := ⟨n - 1, by omega⟩
    rw [f_X8_image_19, if_pos (show (399 : Int32) ≤ nI j from nI_le (a := 399) (by omega) (by omega)), imG_0 _ _ _ (by omega)]
  | succ k ih =>
    intro j n f hj hn
    obtain ⟨n, rfl⟩ : ∃ q, n = q + 1 := ⟨n - 1, by omega⟩
    have x1 : (399 : Int32) * nI i + nI j = nI (399 * i + j) := by rw [show (399 : Int32) = nI 399 from rfl, pk_mul, nI_add]
    have r0 : (sB m 1 f).2 0 j = m.2 0 j := rfl
    rw [f_X8_image_19, if_neg (show ¬ (399 : Int32) ≤ nI j from nI_ge (b := 399) (by omega) (by omega)), md_f1 (blk_at _ _ _), b_some, md_f0 (blk_at _ _ _), b_some, md_m1 (blk_at _ _ _) (by omega), b_some, r0, x1, md_w2 (by omega), sA_sB, b_some, nI_1, ih (j + 1) n _ (by omega) (by omega), imG_s _ _ (by omega)]
theorem g8_from33 {i : Nat} (hi : i < 2) : ∀ (k j n : Nat) (f : Nat → Int32), j + k = 399 → k < n → f_X8_from_33 n (blk b (mdL b (sB m 0 f) l r) h) b (nI i) (nI j) = some (blk b (mdL b (sB m 0 (imG (fun q => m.2 1 (399 * i + q)) f 0 j 399)) l r) h) := by
  intro k
  induction k with
  | zero =>
    intro j n f hj hn
    obtain ⟨n, rfl⟩ : ∃ q, n = q + 1 := ⟨n - 1, by omega⟩
    rw [f_X8_from_33, if_pos (show (399 : Int32) ≤ nI j from nI_le (a := 399) (by omega) (by omega)), imG_0 _ _ _ (by omega)]
  | succ k ih =>
    intro j n f hj hn
    obtain ⟨n, rfl⟩ : ∃ q, n = q + 1 := ⟨n - 1, by omega⟩
    have x1 : (399 : Int32) * nI i + nI j = nI (399 * i + j) := by rw [show (399 : Int32) = nI 399 from rfl, pk_mul, nI_add]
    have r0 : (sB m 0 f).2 1 (399 * i + j) = m.2 1 (399 * i + j) := rfl
    have s0 := imG_s (fun q => m.2 1 (399 * i + q)) f (D := 0) (j := j) (e := 399) (by omega)
    rw [Nat.zero_add] at s0
    rw [f_X8_from_33, if_neg (show ¬ (399 : Int32) ≤ nI j from nI_ge (b := 399) (by omega) (by omega)), md_f0 (blk_at _ _ _), b_some, md_f1 (blk_at _ _ _), b_some, x1, md_m2 (blk_at _ _ _) (by omega), b_some, r0, md_w1 (by omega), sA_sB, b_some, nI_1, ih (j + 1) n _ (by omega) (by omega), s0]
theorem md_z {i : Nat} (hi : i < 2) : stZ (blk b (mdL b m l r) h) (b + 3) (nI i) 1 = some (blk b (mdL b (sB m 2 (upd (m.2 2) i 1)) l r) h) := by
  have a := md_k3 (blk_at b (mdL b m l r) h)
  simp only [stZ, a, true_and, if_pos (inR_nI hi (by decide)), nI_clamp (show i < 2 ^ 31 by omega), nar_z1]
  rw [md_b3]
theorem kf_z {g : Blk} {i : Nat} (hi : i < 2) : stZ (blk b (kfL b g) h) (b + 2) (nI i) 1 = some (blk b (kfL b (sB g 0 (upd (g.2 0) i 1))) h) := by
  have a := kf_k2 (blk_at b (kfL b g) h)
  simp only [stZ, a, true_and, if_pos (inR_nI hi (by decide)), nI_clamp (show i < 2 ^ 31 by omega), nar_z1]
  rw [kf_b2]
theorem kf_h {g : Blk} (a : At h b (kfL b g)) {i : Nat} (hi : i < 2) : ldR h 4 b (nI i) = if i = 0 then some (b + 28) else some (b + 93) := by
  rw [show ldR h 4 b (nI i) = _ from ldRN_at (a 0 _ rfl) hi (by decide)]
  rcases (show i = 0 ∨ i = 1 by omega) with rfl | rfl <;> rfl
theorem kf_p {g : Blk} (a : At h b (kfL b g)) {i : Nat} (hi : i < 2) : ldR h 5 (b + 1) (nI i) = if i = 0 then some (b + 43) else some (b + 108) := by
  rw [ldRN_at (a 1 _ rfl) hi (by decide)]
  rcases (show i = 0 ∨ i = 1 by omega) with rfl | rfl <;> rfl
end
section
variable {k z : Nat} {H s : Blk} {T : Nat → Blk} {N : Nat → Int32}
theorem ST.row {N' : Nat → Int32} (a : ST k H s z T N) (hz : z ≤ 8) (e : ∀ q, q < 399 → N' q = N q) : ST k H s z T N' := by
  obtain ⟨wo, ws, wt, rH, rs, rp⟩ := a
  have hm := wo.1.2.1
  refine ⟨wo, ws, wt, rH.lo wo (fun q h1 _ => e q (by omega)), rs.lo wo (fun q h1 _ => e q (by omega)), by rw [e 6 (by omega)]; exact rp.1, fun j hj => ⟨by rw [e _ (by omega)]; exact (rp.2 j hj).1, fun i hi => ?_⟩⟩
  rw [e _ (by omega), e _ (by omega), e _ (by omega), e _ (by omega), e _ (by omega)]
  exact (rp.2 j hj).2 i hi
theorem takeH_r (H K : Blk) {j q : Nat} (c : (j = 0 ∧ q < 8) ∨ (j = 1 ∧ q < 64) ∨ (j = 2 ∧ q < 12) ∨ (3 ≤ j ∧ j < 8 ∧ q < 6)) : (takeH H K).2 j q = H.2 j q := by
  simp only [takeH]
  by_cases h0 : j = 0
  · subst h0
    rw [if_pos rfl, cpy_lt (by omega)]
  · by_cases h1 : j = 1
    · subst h1
      rw [if_neg h0, if_pos rfl, cpy_lt (by omega)]
    · by_cases h2 : j = 2
      · subst h2
        rw [if_neg h0, if_neg h1, if_pos rfl, cpy_lt (by omega)]
      · rw [if_neg h0, if_neg h1, if_neg h2, if_pos (by omega), cpy_lt (by omega)]
theorem ST.house {K : Blk} (a : ST k H s z T N) : ST k (takeH H K) s z T N := by
  obtain ⟨wo, ws, wt, rH, rs, rp⟩ := a
  have h1 := wo.1.2.1
  have h2 := wo.1.2.2.2.2
  have h3 := wo.2.1.2
  refine ⟨⟨wo.1, wo.2.1, ⟨fun q hq => ?_, fun i hi => ?_, wo.2.2.1.2.2⟩, ⟨fun q r hq hr => ?_, fun q hq => ?_⟩, fun q hq => ?_⟩, ws, wt, ⟨rH.1, rH.2.1, rH.2.2.1, rH.2.2.2.1, rH.2.2.2.2.1, fun q hq => ?_, fun q hq => ?_, fun q hq => ?_, fun i hi => ?_, fun q hq => ?_⟩, rs, rp⟩
  · rw [takeH_r H K (by omega)]; exact wo.2.2.1.1 q hq
  · have hi' : i < hM H := hi
    rw [takeH_r H K (by omega)]; exact wo.2.2.1.2.1 i hi
  · rw [takeH_r H K (by omega), takeH_r H K (by omega)]; exact wo.2.2.2.1.1 q r hq hr
  · rw [takeH_r H K (by omega)]; exact wo.2.2.2.1.2 q hq
  · rw [takeH_r H K (by omega)]; exact wo.2.2.2.2 q hq
  · rw [takeH_r H K (by omega)]; exact rH.2.2.2.2.2.1 q hq
  · rw [takeH_r H K (by omega)]; exact rH.2.2.2.2.2.2.1 q hq
  · have hq' : q < hL H := hq
    rw [takeH_r H K (by omega)]; exact rH.2.2.2.2.2.2.2.1 q hq
  · have hi' : i < hM H := hi
    rw [takeH_r H K (by omega), takeH_r H K (by omega)]; exact rH.2.2.2.2.2.2.2.2.1 i hi
  · have hq' : q < hS H := hq
    rw [takeH_r H K (by omega), takeH_r H K (by omega), takeH_r H K (by omega)]; exact rH.2.2.2.2.2.2.2.2.2 q hq
theorem ST.eqS {s' : Blk} {T' : Nat → Blk} (a : ST k H s z T N) (es : EqS H s' s) (et : ∀ i, i < z → EqS H (T' i) (T i)) : ST k H s' z T' N := by
  obtain ⟨wo, ws, wt, rH, rs, rp⟩ := a
  refine ⟨wo, ws.eq es.symm, fun j hj => (wt j hj).eq (et j hj).symm, rH, ⟨by rw [es.1]; exact rs.1, fun i hi => ?_⟩, rp.1, fun j hj => ⟨by rw [(et j hj).1]; exact (rp.2 j hj).1, fun i hi => ?_⟩⟩
  · rw [es.2 0 i (by omega) hi, es.2 1 i (by omega) hi, es.2 2 i (by omega) hi, es.2 3 i (by omega) hi, es.2 4 i (by omega) hi]
    exact rs.2 i hi
  · have e := et j hj
    rw [e.2 0 i (by omega) hi, e.2 1 i (by omega) hi, e.2 2 i (by omega) hi, e.2 3 i (by omega) hi, e.2 4 i (by omega) hi]
    exact (rp.2 j hj).2 i hi
theorem ST.copy {K u : Blk} {T' : Nat → Blk} {N' : Nat → Int32} (a : ST k H s z T N) (hz : z ≤ 8) (et : ∀ i, i < z → ∃ v, T' i = takeS (T i) v) (e : ∀ q, q < 399 → N' q = N q) : ST k (takeH H K) (takeS s u) z T' N' := by
  have hm := a.1.1.2.1
  exact ((a.eqS (takeS_eq hm) (fun i hi => by
    obtain ⟨v, hv⟩ := et i hi
    rw [hv]
    exact takeS_eq hm)).row hz e).house
end
section
variable {B k : Nat} {h : Hea}
theorem op_image (a : Inv B k h) (x : Int32) : Both B k h (fun h => f_X7_image h B x) (fun h => f_X8_image h (B + 239) x) := by
  obtain ⟨X, P, L, R, t, q, w, i⟩ := a
  by_cases c1 : x < 0 ∨ 1 < x
  · obtain ⟨h1, h2, e1, e2, o1, o2, iv, aM⟩ := inv_bad w i
    refine ⟨-2, h1, h2, ?_, ?_, o2, iv⟩
    · show f_X7_image h B x = _
      rw [f_X7_image, wi_v, b_some, if_pos c1, if_pos rfl, o1, b_some, e1, b2_some]
    · show f_X8_image h1 (B + 239) x = _
      rw [f_X8_image, L01 x 0 1 0 1 rfl rfl, b_some, if_pos c1, if_pos rfl, o2, b_some, e2, b2_some]
  obtain ⟨T, hT, rfl⟩ := wi_n (hi := 1) (by omega) c1
  have hz := i.2.1.1
  obtain ⟨i1, i2, i3, i4, i5, i6, i7, i8, i9⟩ := i.up
  rcases (show T = 0 ∨ T = 1 by omega) with rfl | rfl
  · have p0 := g_takeH (h := h) (b := B + 109) (b' := B + 1) (H := X 12) (s := X 13) (wd_ho w) (by omega)
    rw [(show At h (B + 109) (hhL (B + 109) (X 12) (X 13)) from wd_k0 w).eq] at p0
    have w0 := wu_k0 w (takeH (X 1) (X 12)) (takeS (X 2) (X 13))
    generalize hh0 : blk (B + 109) (hhL (B + 109) (takeH (X 1) (X 12)) (takeS (X 2) (X 13))) h = h0 at w0 p0
    have aL0 : At h0 B (flL B (X 0) (L 0)) := by
      have q := wd_fl w0
      exact q
    have aK0 : At h0 (B + 81) (kfL (B + 81) (X 5)) := by
      have q := wd_kf w0
      exact q
    have aP0 : At h0 (B + 16) (pastL (B + 16) (P 0).1 (P 0).2.1 (P 0).2.2) := by
      have q := wd_pa w0
      exact q
    have aQ0 : At h0 (B + 124) (pastL (B + 124) (P 1).1 (P 1).2.1 (P 1).2.2) := by
      have q := wd_p0 w0
      exact q
    obtain ⟨S2, p1, t1⟩ := g_ptake (h := h0) (p := B + 124) (z := (P 1).1) (S := (P 1).2.2) i1.2.1 i1.1 hz aP0 (by omega)
    rw [aQ0.eq] at p1
    have w1 := wu_p0 w0 ((P 0).1, (P 1).2.1, S2)
    generalize hh1 : blk (B + 124) (pastL (B + 124) (P 0).1 (P 1).2.1 S2) h0 = h1 at w1 p1
    have aL1 : At h1 B (flL B (X 0) (L 0)) := by
      have q := wd_fl w1
      exact q
    have aK1 : At h1 (B + 81) (kfL (B + 81) (X 5)) := by
      have q := wd_kf w1
      exact q
    have p2 := kf_z (h := h1) (b := B + 81) (g := X 5) (i := 0) (by omega)
    rw [aK1.eq] at p2
    have w2 := wu_kf w1 (sB (X 5) 0 (upd ((X 5).2 0) 0 1))
    generalize hh2 : blk (B + 81) (kfL (B + 81) (sB (X 5) 0 (upd ((X 5).2 0) 0 1))) h1 = h2 at w2 p2
    have aM : At h2 (B + 239) (mdL (B + 239) (X 16) (L 1) (R 1)) := by
      have q := wd_md w2
      exact q
    have p3 := g8_image19 (h := h2) (b := B + 239) (m := X 16) (l := L 1) (r := R 1) (i := 0) (by omega) 399 0 lots ((X 16).2 1) (by omega) (by simp only [lots]; omega)
    have z0 : nI 0 = 0 := nI_0
    rw [sB_self, aM.eq] at p3
    have p4 := md_z (h := h2) (b := B + 239) (m := sB (X 16) 1 (imG ((X 16).2 0) ((X 16).2 1) (399 * 0) 0 399)) (l := L 1) (r := R 1) (i := 0) (by omega)
    have w3 := wu_md w2 (sB (sB (X 16) 1 (imG ((X 16).2 0) ((X 16).2 1) (399 * 0) 0 399)) 2 (upd ((sB (X 16) 1 (imG ((X 16).2 0) ((X 16).2 1) (399 * 0) 0 399)).2 2) 0 1)) (L 1) (R 1)
    refine ⟨1, h2, _, ?_, ?_, md_o aM, ⟨_, _, _, _, _, q, w3, ⟨i1, ⟨i2.1, i2.1, i2.2.2⟩, i3, ⟨rfl, i4.2⟩, ?_, ?_, i7, i8, i9⟩⟩⟩
    · show f_X7_image h B (nI 0) = _
      rw [f_X7_image, wi_v, b_some, if_neg c1, if_neg n10, fl_f3 (wd_fl w), b_some, kf_h (wd_kf w) (by omega), if_pos rfl, b_some, fl_f0 (wd_fl w), b_some, show B + 81 + 28 = B + 109 by omega, hh_o (wd_k0 w), b_some, p0, b_some, fl_f4 aL0, b_some, show B + 82 = B + 81 + 1 by omega, kf_p aK0 (by omega), if_pos rfl, b_some, fl_f1 aL0, b_some, show B + 81 + 43 = B + 124 by omega, past_o aQ0, b_some, p1, b_some, fl_f5 aL1, b_some, show B + 83 = B + 81 + 2 by omega, p2, b_some]
    · show f_X8_image h2 (B + 239) (nI 0) = _
      rw [f_X8_image, L01 (nI 0) 0 1 0 1 rfl rfl, b_some, if_neg c1, if_neg n10, ← z0, p3, b_some, md_f2 (blk_at _ _ _), b_some, p4, b_some]
    · intro _
      exact i3.copy hz t1 (fun q hq => by
        show imG ((X 16).2 0) ((X 16).2 1) (399 * 0) 0 399 q = (X 16).2 0 q
        rw [imG_v, if_pos (by omega), show q - 399 * 0 = q by omega])
    · intro c
      refine (i6 c).row i2.2.2 (fun q hq => ?_)
      show imG ((X 16).2 0) ((X 16).2 1) (399 * 0) 0 399 (399 + q) = (X 16).2 1 (399 + q)
      rw [imG_v, if_neg (by omega)]
  · have p0 := g_takeH (h := h) (b := B + 174) (b' := B + 1) (H := X 14) (s := X 15) (wd_ho w) (by omega)
    rw [(show At h (B + 174) (hhL (B + 174) (X 14) (X 15)) from wd_k1 w).eq] at p0
    have w0 := wu_k1 w (takeH (X 1) (X 14)) (takeS (X 2) (X 15))
    generalize hh0 : blk (B + 174) (hhL (B + 174) (takeH (X 1) (X 14)) (takeS (X 2) (X 15))) h = h0 at w0 p0
    have aL0 : At h0 B (flL B (X 0) (L 0)) := by
      have q := wd_fl w0
      exact q
    have aK0 : At h0 (B + 81) (kfL (B + 81) (X 5)) := by
      have q := wd_kf w0
      exact q
    have aP0 : At h0 (B + 16) (pastL (B + 16) (P 0).1 (P 0).2.1 (P 0).2.2) := by
      have q := wd_pa w0
      exact q
    have aQ0 : At h0 (B + 189) (pastL (B + 189) (P 2).1 (P 2).2.1 (P 2).2.2) := by
      have q := wd_p1 w0
      exact q
    obtain ⟨S2, p1, t1⟩ := g_ptake (h := h0) (p := B + 189) (z := (P 2).1) (S := (P 2).2.2) i1.2.2 i1.1 hz aP0 (by omega)
    rw [aQ0.eq] at p1
    have w1 := wu_p1 w0 ((P 0).1, (P 2).2.1, S2)
    generalize hh1 : blk (B + 189) (pastL (B + 189) (P 0).1 (P 2).2.1 S2) h0 = h1 at w1 p1
    have aL1 : At h1 B (flL B (X 0) (L 0)) := by
      have q := wd_fl w1
      exact q
    have aK1 : At h1 (B + 81) (kfL (B + 81) (X 5)) := by
      have q := wd_kf w1
      exact q
    have p2 := kf_z (h := h1) (b := B + 81) (g := X 5) (i := 1) (by omega)
    rw [aK1.eq] at p2
    have w2 := wu_kf w1 (sB (X 5) 0 (upd ((X 5).2 0) 1 1))
    generalize hh2 : blk (B + 81) (kfL (B + 81) (sB (X 5) 0 (upd ((X 5).2 0) 1 1))) h1 = h2 at w2 p2
    have aM : At h2 (B + 239) (mdL (B + 239) (X 16) (L 1) (R 1)) := by
      have q := wd_md w2
      exact q
    have p3 := g8_image19 (h := h2) (b := B + 239) (m := X 16) (l := L 1) (r := R 1) (i := 1) (by omega) 399 0 lots ((X 16).2 1) (by omega) (by simp only [lots]; omega)
    rw [sB_self, aM.eq, nI_0] at p3
    have p4 := md_z (h := h2) (b := B + 239) (m := sB (X 16) 1 (imG ((X 16).2 0) ((X 16).2 1) (399 * 1) 0 399)) (l := L 1) (r := R 1) (i := 1) (by omega)
    have w3 := wu_md w2 (sB (sB (X 16) 1 (imG ((X 16).2 0) ((X 16).2 1) (399 * 1) 0 399)) 2 (upd ((sB (X 16) 1 (imG ((X 16).2 0) ((X 16).2 1) (399 * 1) 0 399)).2 2) 1 1)) (L 1) (R 1)
    refine ⟨1, h2, _, ?_, ?_, md_o aM, ⟨_, _, _, _, _, q, w3, ⟨i1, ⟨i2.1, i2.2.1, i2.1⟩, i3, ⟨i4.1, rfl⟩, ?_, ?_, i7, i8, i9⟩⟩⟩
    · show f_X7_image h B (nI 1) = _
      rw [f_X7_image, wi_v, b_some, if_neg c1, if_neg n10, fl_f3 (wd_fl w), b_some, kf_h (wd_kf w) (by omega), if_neg (by omega), b_some, fl_f0 (wd_fl w), b_some, show B + 81 + 93 = B + 174 by omega, hh_o (wd_k1 w), b_some, p0, b_some, fl_f4 aL0, b_some, show B + 82 = B + 81 + 1 by omega, kf_p aK0 (by omega), if_neg (by omega), b_some, fl_f1 aL0, b_some, show B + 81 + 108 = B + 189 by omega, past_o aQ0, b_some, p1, b_some, fl_f5 aL1, b_some, show B + 83 = B + 81 + 2 by omega, p2, b_some]
    · show f_X8_image h2 (B + 239) (nI 1) = _
      rw [f_X8_image, L01 (nI 1) 0 1 0 1 rfl rfl, b_some, if_neg c1, if_neg n10, p3, b_some, md_f2 (blk_at _ _ _), b_some, p4, b_some]
    · intro c
      refine (i5 c).row i2.2.1 (fun q hq => ?_)
      show imG ((X 16).2 0) ((X 16).2 1) (399 * 1) 0 399 q = (X 16).2 1 q
      rw [imG_v, if_neg (by omega)]
    · intro _
      exact i3.copy hz t1 (fun q hq => by
        show imG ((X 16).2 0) ((X 16).2 1) (399 * 1) 0 399 (399 + q) = (X 16).2 0 q
        rw [imG_v, if_pos (by omega), show 399 + q - 399 * 1 = q by omega])
theorem op_from (a : Inv B k h) (x : Int32) : Both B k h (fun h => f_X7_from h B x) (fun h => f_X8_from h (B + 239) x) := by
  obtain ⟨X, P, L, R, t, q, w, i⟩ := a
  by_cases c1 : x < 0 ∨ 1 < x
  · obtain ⟨h1, h2, e1, e2, o1, o2, iv, aM⟩ := inv_bad w i
    refine ⟨-2, h1, h2, ?_, ?_, o2, iv⟩
    · show f_X7_from h B x = _
      rw [f_X7_from, wi_v, b_some, if_pos c1, if_pos rfl, o1, b_some, e1, b2_some]
    · show f_X8_from h1 (B + 239) x = _
      rw [f_X8_from, L01 x 0 1 0 1 rfl rfl, b_some, if_pos c1, if_pos rfl, o2, b_some, e2, b2_some]
  obtain ⟨T, hT, rfl⟩ := wi_n (hi := 1) (by omega) c1
  have aK := wd_kf w
  have fl : (X 16).2 2 T = (X 5).2 0 T := by
    rcases (show T = 0 ∨ T = 1 by omega) with rfl | rfl
    · exact i.2.2.2.1.1.symm
    · exact i.2.2.2.1.2.symm
  by_cases c2 : (X 5).2 0 T = 0
  · obtain ⟨h1, h2, e1, e2, o1, o2, iv, aM⟩ := inv_no w i
    refine ⟨-3, h1, h2, ?_, ?_, o2, iv⟩
    · show f_X7_from h B (nI T) = _
      rw [f_X7_from, wi_v, b_some, if_neg c1, if_neg n10, fl_f5 (wd_fl w), b_some, show B + 83 = B + 81 + 2 by omega, kf_m2 aK (by omega), b_some, if_pos c2, o1, b_some, e1, b2_some]
    · show f_X8_from h1 (B + 239) (nI T) = _
      rw [f_X8_from, L01 (nI T) 0 1 0 1 rfl rfl, b_some, if_neg c1, if_neg n10, md_f2 aM, b_some, md_m3 aM (by omega), b_some, fl, if_pos c2, o2, b_some, e2, b2_some]
  rcases (show T = 0 ∨ T = 1 by omega) with rfl | rfl
  · have sk := i.up.2.2.2.2.1 c2
    have p0 := g_takeH (h := h) (b := B + 1) (b' := B + 109) (H := X 1) (s := X 2) (wd_k0 w) (by omega)
    rw [(wd_ho w).eq] at p0
    have w0 := wu_ho w (takeH (X 12) (X 1)) (takeS (X 13) (X 2))
    generalize hh0 : blk (B + 1) (hhL (B + 1) (takeH (X 12) (X 1)) (takeS (X 13) (X 2))) h = h0 at w0 p0
    have aL0 : At h0 B (flL B (X 0) (L 0)) := by
      have q := wd_fl w0
      exact q
    have aK0 : At h0 (B + 81) (kfL (B + 81) (X 5)) := by
      have q := wd_kf w0
      exact q
    have aP0 : At h0 (B + 16) (pastL (B + 16) (P 0).1 (P 0).2.1 (P 0).2.2) := by
      have q := wd_pa w0
      exact q
    have aQ0 : At h0 (B + 124) (pastL (B + 124) (P 1).1 (P 1).2.1 (P 1).2.2) := by
      have q := wd_p0 w0
      exact q
    obtain ⟨S2, p1, t1⟩ := g_ptake (h := h0) (p := B + 16) (z := (P 0).1) (S := (P 0).2.2) i.1.1 i.1.2.1 i.2.1.2.1 aQ0 (by omega)
    rw [aP0.eq] at p1
    have w1 := wu_pa w0 ((P 1).1, (P 0).2.1, S2)
    generalize hh1 : blk (B + 16) (pastL (B + 16) (P 1).1 (P 0).2.1 S2) h0 = h1 at w1 p1
    have aM : At h1 (B + 239) (mdL (B + 239) (X 16) (L 1) (R 1)) := by
      have q := wd_md w1
      exact q
    have p3 := g8_from33 (h := h1) (b := B + 239) (m := X 16) (l := L 1) (r := R 1) (i := 0) (by omega) 399 0 lots ((X 16).2 0) (by omega) (by simp only [lots]; omega)
    have z0 : nI 0 = 0 := nI_0
    rw [sB_self, aM.eq] at p3
    have w3 := wu_md w1 (sB (X 16) 0 (imG (fun q => (X 16).2 1 (399 * 0 + q)) ((X 16).2 0) 0 0 399)) (L 1) (R 1)
    refine ⟨1, h1, _, ?_, ?_, md_o aM, ⟨_, _, _, _, _, _, w3, i.now (p' := ((P 1).1, (P 0).2.1, S2)) i.1.1 i.2.1.2.1 (sk.copy i.2.1.2.1 t1 (fun q hq => ?_)) ⟨rfl, rfl, rfl, rfl, rfl⟩⟩⟩
    · show f_X7_from h B (nI 0) = _
      rw [f_X7_from, wi_v, b_some, if_neg c1, if_neg n10, fl_f5 (wd_fl w), b_some, show B + 83 = B + 81 + 2 by omega, kf_m2 aK (by omega), b_some, if_neg c2, fl_f0 (wd_fl w), b_some, fl_f3 (wd_fl w), b_some, kf_h aK (by omega), if_pos rfl, b_some, hh_o (wd_ho w), b_some, show B + 81 + 28 = B + 109 by omega, p0, b_some, fl_f1 aL0, b_some, fl_f4 aL0, b_some, show B + 82 = B + 81 + 1 by omega, kf_p aK0 (by omega), if_pos rfl, b_some, past_o aP0, b_some, show B + 81 + 43 = B + 124 by omega, p1, b_some]
    · show f_X8_from h1 (B + 239) (nI 0) = _
      rw [f_X8_from, L01 (nI 0) 0 1 0 1 rfl rfl, b_some, if_neg c1, if_neg n10, md_f2 aM, b_some, md_m3 aM (by omega), b_some, fl, if_neg c2, ← z0, p3, b_some]
    · show imG (fun q => (X 16).2 1 (399 * 0 + q)) ((X 16).2 0) 0 0 399 q = (X 16).2 1 q
      rw [imG_v, if_pos (by omega)]
      show (X 16).2 1 (399 * 0 + (q - 0)) = (X 16).2 1 q
      rw [show 399 * 0 + (q - 0) = q by omega]
  · have sk := i.up.2.2.2.2.2.1 c2
    have p0 := g_takeH (h := h) (b := B + 1) (b' := B + 174) (H := X 1) (s := X 2) (wd_k1 w) (by omega)
    rw [(wd_ho w).eq] at p0
    have w0 := wu_ho w (takeH (X 14) (X 1)) (takeS (X 15) (X 2))
    generalize hh0 : blk (B + 1) (hhL (B + 1) (takeH (X 14) (X 1)) (takeS (X 15) (X 2))) h = h0 at w0 p0
    have aL0 : At h0 B (flL B (X 0) (L 0)) := by
      have q := wd_fl w0
      exact q
    have aK0 : At h0 (B + 81) (kfL (B + 81) (X 5)) := by
      have q := wd_kf w0
      exact q
    have aP0 : At h0 (B + 16) (pastL (B + 16) (P 0).1 (P 0).2.1 (P 0).2.2) := by
      have q := wd_pa w0
      exact q
    have aQ0 : At h0 (B + 189) (pastL (B + 189) (P 2).1 (P 2).2.1 (P 2).2.2) := by
      have q := wd_p1 w0
      exact q
    obtain ⟨S2, p1, t1⟩ := g_ptake (h := h0) (p := B + 16) (z := (P 0).1) (S := (P 0).2.2) i.1.1 i.1.2.2 i.2.1.2.2 aQ0 (by omega)
    rw [aP0.eq] at p1
    have w1 := wu_pa w0 ((P 2).1, (P 0).2.1, S2)
    generalize hh1 : blk (B + 16) (pastL (B + 16) (P 2).1 (P 0).2.1 S2) h0 = h1 at w1 p1
    have aM : At h1 (B + 239) (mdL (B + 239) (X 16) (L 1) (R 1)) := by
      have q := wd_md w1
      exact q
    have p3 := g8_from33 (h := h1) (b := B + 239) (m := X 16) (l := L 1) (r := R 1) (i := 1) (by omega) 399 0 lots ((X 16).2 0) (by omega) (by simp only [lots]; omega)
    rw [sB_self, aM.eq, nI_0] at p3
    have w3 := wu_md w1 (sB (X 16) 0 (imG (fun q => (X 16).2 1 (399 * 1 + q)) ((X 16).2 0) 0 0 399)) (L 1) (R 1)
    refine ⟨1, h1, _, ?_, ?_, md_o aM, ⟨_, _, _, _, _, _, w3, i.now (p' := ((P 2).1, (P 0).2.1, S2)) i.1.1 i.2.1.2.2 (sk.copy i.2.1.2.2 t1 (fun q hq => ?_)) ⟨rfl, rfl, rfl, rfl, rfl⟩⟩⟩
    · show f_X7_from h B (nI 1) = _
      rw [f_X7_from, wi_v, b_some, if_neg c1, if_neg n10, fl_f5 (wd_fl w), b_some, show B + 83 = B + 81 + 2 by omega, kf_m2 aK (by omega), b_some, if_neg c2, fl_f0 (wd_fl w), b_some, fl_f3 (wd_fl w), b_some, kf_h aK (by omega), if_neg (by omega), b_some, hh_o (wd_ho w), b_some, show B + 81 + 93 = B + 174 by omega, p0, b_some, fl_f1 aL0, b_some, fl_f4 aL0, b_some, show B + 82 = B + 81 + 1 by omega, kf_p aK0 (by omega), if_neg (by omega), b_some, past_o aP0, b_some, show B + 81 + 108 = B + 189 by omega, p1, b_some]
    · show f_X8_from h1 (B + 239) (nI 1) = _
      rw [f_X8_from, L01 (nI 1) 0 1 0 1 rfl rfl, b_some, if_neg c1, if_neg n10, md_f2 aM, b_some, md_m3 aM (by omega), b_some, fl, if_neg c2, p3, b_some]
    · show imG (fun q => (X 16).2 1 (399 * 1 + q)) ((X 16).2 0) 0 0 399 q = (X 16).2 1 (399 + q)
      rw [imG_v, if_pos (by omega)]
      show (X 16).2 1 (399 * 1 + (q - 0)) = (X 16).2 1 (399 + q)
      rw [show 399 * 1 + (q - 0) = 399 + q by omega]
end
