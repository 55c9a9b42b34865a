/-! ===== Forecast: the best room, the pairs, the eyes, the seed ===== -/
def bestL (v : Nat → Int32) : Nat → Nat → Int32 → Int32 → Int32
  | 0, _, a, _ => a
  | k + 1, j, a, c => if c ≤ v j then bestL v k (j + 1) a c else bestL v k (j + 1) (nI j) (v j)
def bv (H s : Blk) (i r : Nat) : Int32 := fnN (untilN H (H.1 0) i i 60 (sA s 0 i (nI r))) i
def leastD (H : Blk) (r : Nat) : Nat → Nat → Option Nat
  | 0, _ => none
  | k + 1, j => if H.2 1 (r * 8 + j) ≤ 0 then leastD H r k (j + 1) else some j
def goS (s : Blk) (i : Nat) (x : Int32) : Blk := sA (sA (sA s 0 i x) 1 i 0) 4 i 1
def goO (s : Blk) (i : Nat) : Option Nat → Blk
  | none => s
  | some j => goS s i (nI j)
def goD (H s : Blk) (i : Nat) : Blk := goO s i (leastD H (s.2 0 i).toNatClampNeg 8 0)
def prS (H s : Blk) (i k p : Nat) : Blk :=
  if p = 0 then s else if p = 1 then goD H s i else if p = 2 then goD H s k else goD H (goD H s i) k
def icmpV (x y : Int32) : Int32 := if y ≤ x then (if x = y then 0 else 1) else -1
theorem f_icmp_v (x y : Int32) : f_icmp x y = some (icmpV x y) := by
  rw [f_icmp, icmpV]
  split
  · split <;> rfl
  · rfl
def ptV (H s : Blk) (i k p : Nat) : Int32 := 1 - icmpV (fnN (untilN H (H.1 0) i k 60 (prS H s i k p)) i) (fnN (untilN H (H.1 0) i k 60 (prS H s i k p)) k)
def xr1 (j : Nat) : Nat := if j = 0 then 1 else if j = 1 then 0 else if j = 2 then 3 else 2
def xr2 (j : Nat) : Nat := if j = 0 then 2 else if j = 1 then 3 else if j = 2 then 0 else 1
def chL (v : Nat → Int32) : Nat → Nat → Int32 → Int32
  | 0, _, a => a
  | k + 1, j, a => chL v k (j + 1) (if v j < v (xr1 j) then a else if v (xr2 j) < v j then a else a ||| ((1 : Int32) <<< (nI j &&& 31)))
def lstH (H s : Blk) : Nat → Int32
  | 0 => 2147483647
  | n + 1 => if isSee H s n = true then (if hid H s n < lstH H s n then hid H s n else lstH H s n) else lstH H s n
def luck (H : Blk) (i : Nat) : Nat → Int32 → Int32 → Blk → Int32
  | 0, _, c, _ => c
  | n + 1, y, c, s => if y ≤ 0 then c else luck H i n (if lstH H s (hM H) < y then lstH H s (hM H) else y) (if isSee H s i = true then c + pos0 (y - hid H s i) else c) (nightS H 0 s)
def lcgN (z : Nat) : Nat := (z * 1103515245 + 12345) % 2147483648
def lcrN (z : Nat) : Nat := (lcgN z / 65536) % 8
def seedM (H : Blk) : Nat → Nat → Nat → Blk → Nat × Blk
  | 0, _, z, s => (z, s)
  | k + 1, j, z, s => seedM H k (j + 1) (lcgN z) (if s.2 2 j = 0 then (if H.2 1 ((s.2 0 j).toNatClampNeg * 8 + lcrN z) ≤ 0 then s else goS s j (nI (lcrN z))) else s)
def seedN (H : Blk) (ey : Int32) : Nat → Nat → Blk → Blk
  | 0, _, s => s
  | n + 1, z, s => seedN H ey n (seedM H (hM H) 0 z s).1 (nightS H ey (seedM H (hM H) 0 z s).2)
theorem leastD_lt {H : Blk} {r : Nat} : ∀ (k j q : Nat), leastD H r k j = some q → q < j + k := by
  intro k
  induction k with
  | zero => intro j q e; cases e
  | succ k ih =>
    intro j q e
    rw [leastD] at e
    split at e
    · have := ih (j + 1) q e; omega
    · cases e; omega
theorem goS_eq {H s t : Blk} (e : EqS H s t) {i : Nat} {x : Int32} : EqS H (goS s i x) (goS t i x) := sA_eq (sA_eq (sA_eq e))
theorem goD_eq {H s t : Blk} (e : EqS H s t) {i : Nat} (hi : i < hM H) : EqS H (goD H s i) (goD H t i) := by
  rw [goD, goD, e.2 0 i (by omega) hi]
  cases leastD H (t.2 0 i).toNatClampNeg 8 0 with
  | none => exact e
  | some j => exact goS_eq e
theorem prS_eq {H s t : Blk} (e : EqS H s t) {i k p : Nat} (hi : i < hM H) (hk : k < hM H) : EqS H (prS H s i k p) (prS H t i k p) := by
  rw [prS, prS]
  split
  · exact e
  · split
    · exact goD_eq e hi
    · split
      · exact goD_eq e hk
      · exact goD_eq (goD_eq e hi) hk
theorem wfN.gS {H s : Blk} {c i : Nat} {x : Int32} (w : wfN H s c) (hx : inR x 8 = true) : wfN H (goS s i x) c := ((w.mv hx).st (by omega)).st (by omega)
theorem wfN.gD {H s : Blk} {c i : Nat} (w : wfN H s c) : wfN H (goD H s i) c := by
  rw [goD]
  cases e : leastD H (s.2 0 i).toNatClampNeg 8 0 with
  | none => exact w
  | some j => exact w.gS (inR_nI (by have := leastD_lt _ _ _ e; omega) (by omega))
theorem wfN.pS {H s : Blk} {c i k p : Nat} (w : wfN H s c) : wfN H (prS H s i k p) c := by
  rw [prS]
  split
  · exact w
  · split
    · exact w.gD
    · split
      · exact w.gD
      · exact w.gD.gD
theorem inR_cl {x : Int32} {n : Nat} (h : inR x n = true) (hn : n < 2147483648) : x = nI x.toNatClampNeg ∧ x.toNatClampNeg < n := by
  obtain ⟨j, hj, rfl⟩ := inR_of h hn
  rw [nI_clamp (by omega)]
  exact ⟨rfl, hj⟩
theorem xr_1 : ∀ j : Nat, j < 4 → nI j ^^^ 1 = nI (xr1 j) ∧ nI j ^^^ 2 = nI (xr2 j) ∧ xr1 j < 4 ∧ xr2 j < 4 := by decide +kernel
theorem lcg_l (z : Nat) (hz : z < 2147483648) : (lN z * 1103515245 + 12345) - (lN z * 1103515245 + 12345) / 2147483648 * 2147483648 = lN (lcgN z) := by
  rw [show (1103515245 : Int64) = lN 1103515245 from rfl, show (12345 : Int64) = lN 12345 from rfl, show (2147483648 : Int64) = lN 2147483648 from rfl, lN_mul, lN_add, pk_lRem (by omega) (by omega) (by omega)]
  rfl
theorem lcgN_lt (z : Nat) : lcgN z < 2147483648 := Nat.mod_lt _ (by omega)
theorem lcr_l (z : Nat) : ((lN (lcgN z) / 65536) - (lN (lcgN z) / 65536) / 8 * 8).toInt32 = nI (lcrN z) := by
  have := lcgN_lt z
  rw [show (65536 : Int64) = lN 65536 from rfl, pk_lDiv (by omega) (by omega) (by omega), show (8 : Int64) = lN 8 from rfl, pk_lRem (by omega) (by omega) (by omega), lN_i]
  rfl
theorem lcrN_lt (z : Nat) : lcrN z < 8 := Nat.mod_lt _ (by omega)
section
variable {h : Hea} {b bh : Nat} {H s0 s g : Blk}
theorem g_best9 (aH : At h bh (hhL bh H s0)) (hd : bh + 15 ≤ b ∨ b + 8 ≤ bh) (wH : wfH H) (wS : wfN H s0 60) {i : Nat} (hi : i < hM H) : ∀ (k j n : Nat) (s : Blk) (a c : Int32), j + k = 8 → k < n → ∃ s', f_X0_bestRoom_9 n (blk b (fcL b s g) h) b bh (nI i) a c (nI j) = some (bestL (bv H s0 i) k j a c, blk b (fcL b s' g) h) := by
  have hm := wH.2.1
  have hi6 : i < 6 := by omega
  intro k
  induction k with
  | zero =>
    intro j n s a c hj hn
    obtain ⟨n, rfl⟩ : ∃ q, n = q + 1 := ⟨n - 1, by omega⟩
    exact ⟨s, by rw [f_X0_bestRoom_9, if_pos (show (8 : Int32) ≤ nI j from nI_le (a := 8) (by omega) (by omega)), bestL]⟩
  | succ k ih =>
    intro j n s a c hj hn
    obtain ⟨n, rfl⟩ : ∃ q, n = q + 1 := ⟨n - 1, by omega⟩
    have e1 : EqS H (sA (takeS s0 s) 0 i (nI j)) (sA s0 0 i (nI j)) := sA_eq (takeS_eq hm)
    have w1 : wfN H (sA (takeS s0 s) 0 i (nI j)) 60 := (wS.eq (takeS_eq hm).symm).mv (inR_nI (by omega) (by omega))
    have hv : fnN (untilN H (H.1 0) i i 60 (sA (takeS s0 s) 0 i (nI j))) i = bv H s0 i j := fnN_eq hi (untilN_eq hi hi 60 e1)
    rw [f_X0_bestRoom_9, if_neg (show ¬ (8 : Int32) ≤ nI j from nI_ge (b := 8) (by omega) (by omega)), fc_f0 (blk_at _ _ _), b_some, hh_f9 (fc_H aH hd _ _), b_some, fc_o1 (blk_at _ _ _), b_some, g_ftake aH hd, b_some, fc_f0 (blk_at _ _ _), b_some, fc_f1_1 (blk_at _ _ _), b_some, fc_w2 hi6, b_some, fc_o (blk_at _ _ _), b_some, g_until aH hd wH hi6 hi6 w1, b_some, fc_o (blk_at _ _ _), b_some, g_foundNight hi6, b_some, hv, nI_1, bestL]
    by_cases hc : c ≤ bv H s0 i j
    · rw [if_pos hc, if_pos hc, b2_some]
      exact ih (j + 1) n _ a c (by omega) (by omega)
    · rw [if_neg hc, if_neg hc, b2_some]
      exact ih (j + 1) n _ _ _ (by omega) (by omega)
theorem g_best (aH : At h bh (hhL bh H s0)) (hd : bh + 15 ≤ b ∨ b + 8 ≤ bh) (wH : wfH H) (wS : wfN H s0 60) {i : Nat} (hi : i < hM H) : ∃ s', f_X0_bestRoom (blk b (fcL b s g) h) b bh (nI i) = some (bestL (bv H s0 i) 8 0 (-1) 2147483647, blk b (fcL b s' g) h) := by
  obtain ⟨s', e⟩ := g_best9 (g := g) aH hd wH wS hi 8 0 lots s (-1) 2147483647 (by omega) (by simp only [lots]; omega)
  rw [nI_0] at e
  exact ⟨s', by rw [f_X0_bestRoom, e, b2_some]⟩
theorem g_goDoor13 (aH : At h bh (hhL bh H s0)) (hd : bh + 15 ≤ b ∨ b + 8 ≤ bh) {i r : Nat} (hi : i < 6) (hr : r < 8) : ∀ (k j n : Nat), j + k = 8 → k < n → f_X0_goThroughLeastDoor_13 n (blk b (fcL b s g) h) b bh (nI i) (nI r) (nI j) = some (blk b (fcL b (goO s i (leastD H r k j)) g) h) := by
  intro k
  induction k with
  | zero =>
    intro j n hj hn
    obtain ⟨n, rfl⟩ : ∃ q, n = q + 1 := ⟨n - 1, by omega⟩
    rw [f_X0_goThroughLeastDoor_13, if_pos (show (8 : Int32) ≤ nI j from nI_le (a := 8) (by omega) (by omega)), leastD, goO]
  | succ k ih =>
    intro j n hj hn
    obtain ⟨n, rfl⟩ : ∃ q, n = q + 1 := ⟨n - 1, by omega⟩
    have gg := g_go (h := blk b (fcL b s g) h) (bs := b + 1) (s := s) hi (nI j)
    rw [fc_put, fc_put] at gg
    rw [f_X0_goThroughLeastDoor_13, if_neg (show ¬ (8 : Int32) ≤ nI j from nI_ge (b := 8) (by omega) (by omega)), hh_o (fc_H aH hd _ _), b_some, g_creaks (hh_ho (fc_H aH hd _ _)) hr (by omega), b_some, nI_1, ih (j + 1) n (by omega) (by omega), fc_f0 (blk_at _ _ _), b_some, fc_o1 (blk_at _ _ _), b_some, gg, b_some, leastD]
    by_cases hc : H.2 1 (r * 8 + j) ≤ 0
    · rw [if_pos hc, if_pos hc]
    · rw [if_neg hc, if_neg hc]; rfl
theorem g_goDoor (aH : At h bh (hhL bh H s0)) (hd : bh + 15 ≤ b ∨ b + 8 ≤ bh) {i : Nat} (hi : i < 6) (hr : inR (s.2 0 i) 8 = true) : f_X0_goThroughLeastDoor (blk b (fcL b s g) h) b bh (nI i) = some (blk b (fcL b (goD H s i) g) h) := by
  obtain ⟨e, hlt⟩ := inR_cl hr (by omega)
  have := g_goDoor13 (s := s) (g := g) aH hd hi hlt 8 0 lots (by omega) (by simp only [lots]; omega)
  rw [nI_0, ← e] at this
  rw [f_X0_goThroughLeastDoor, fc_f0 (blk_at _ _ _), b_some, fc_f1_1 (blk_at _ _ _), b_some, fc_m2 (blk_at _ _ _) hi, b_some, this]
  rfl
theorem nI_n1 {i : Nat} (h : i < 2147483648) : ¬ nI i = -1 := fun e => by
  have := nI_pos (n := i) h
  rw [e] at this
  exact this (by decide)
theorem g_pairs3 (aH : At h bh (hhL bh H s0)) (hd : bh + 15 ≤ b ∨ b + 8 ≤ bh) (wH : wfH H) (wS : wfN H s0 60) {i q : Nat} (hi : i < hM H) (hq : q < hM H) : ∀ (k j n : Nat) (s g : Blk), j + k = 4 → k < n → (∀ p, p < j → g.2 0 p = ptV H s0 i q p) → ∃ s' g', f_X0_restingPairs_3 n (blk b (fcL b s g) h) b bh (nI i) (nI q) (nI j) = some (blk b (fcL b s' g') h) ∧ ∀ p, p < 4 → g'.2 0 p = ptV H s0 i q p := by
  have hm := wH.2.1
  have hi6 : i < 6 := by omega
  have hq6 : q < 6 := by omega
  intro k
  induction k with
  | zero =>
    intro j n s g hj hn hg
    obtain ⟨n, rfl⟩ : ∃ q, n = q + 1 := ⟨n - 1, by omega⟩
    exact ⟨s, g, by rw [f_X0_restingPairs_3, if_pos (show (4 : Int32) ≤ nI j from nI_le (a := 4) (by omega) (by omega))], fun p hp => hg p (by omega)⟩
  | succ k ih =>
    intro j n s g hj hn hg
    obtain ⟨n, rfl⟩ : ∃ q, n = q + 1 := ⟨n - 1, by omega⟩
    have w0 : wfN H (takeS s0 s) 60 := wS.eq (takeS_eq hm).symm
    have tk := g_ftake (s := s) (g := g) aH hd
    have d1 := g_goDoor (s := takeS s0 s) (g := g) aH hd hi6 (w0.2.2 i hi)
    have d2 := g_goDoor (s := takeS s0 s) (g := g) aH hd hq6 (w0.2.2 q hq)
    have d3 := g_goDoor (s := goD H (takeS s0 s) i) (g := g) aH hd hq6 (w0.gD.2.2 q hq)
    have bg : (if nI j &&& 1 = 0 then some (-1 : Int32) else some (nI i)).bind (fun v1 => (if nI j &&& 2 = 0 then some (-1 : Int32) else some (nI q)).bind fun v2 => f_X0_begin (blk b (fcL b s g) h) b bh v1 v2) = some (blk b (fcL b (prS H (takeS s0 s) i q j) g) h) := by
      rcases (show j = 0 ∨ j = 1 ∨ j = 2 ∨ j = 3 by omega) with rfl | rfl | rfl | rfl
      · rw [if_pos (show nI 0 &&& 1 = 0 by decide), if_pos (show nI 0 &&& 2 = 0 by decide), b_some, b_some, f_X0_begin, fc_f0 (blk_at _ _ _), b_some, hh_f9 (fc_H aH hd _ _), b_some, fc_o1 (blk_at _ _ _), b_some, tk, b_some, if_pos rfl, b_some, if_pos rfl, b_some]
        rfl
      · rw [if_neg (show ¬ nI 1 &&& 1 = 0 by decide), if_pos (show nI 1 &&& 2 = 0 by decide), b_some, b_some, f_X0_begin, fc_f0 (blk_at _ _ _), b_some, hh_f9 (fc_H aH hd _ _), b_some, fc_o1 (blk_at _ _ _), b_some, tk, b_some, if_neg (nI_n1 (by omega)), fc_o (blk_at _ _ _), b_some, d1, b_some, b_some, if_pos rfl, b_some]
        rfl
      · rw [if_pos (show nI 2 &&& 1 = 0 by decide), if_neg (show ¬ nI 2 &&& 2 = 0 by decide), b_some, b_some, f_X0_begin, fc_f0 (blk_at _ _ _), b_some, hh_f9 (fc_H aH hd _ _), b_some, fc_o1 (blk_at _ _ _), b_some, tk, b_some, if_pos rfl, b_some, if_neg (nI_n1 (by omega)), fc_o (blk_at _ _ _), b_some, d2, b_some, b_some]
        rfl
      · rw [if_neg (show ¬ nI 3 &&& 1 = 0 by decide), if_neg (show ¬ nI 3 &&& 2 = 0 by decide), b_some, b_some, f_X0_begin, fc_f0 (blk_at _ _ _), b_some, hh_f9 (fc_H aH hd _ _), b_some, fc_o1 (blk_at _ _ _), b_some, tk, b_some, if_neg (nI_n1 (by omega)), fc_o (blk_at _ _ _), b_some, d1, b_some, b_some, if_neg (nI_n1 (by omega)), fc_o (blk_at _ _ _), b_some, d3, b_some, b_some]
        rfl
    have e1 : EqS H (untilN H (H.1 0) i q 60 (prS H (takeS s0 s) i q j)) (untilN H (H.1 0) i q 60 (prS H s0 i q j)) := untilN_eq hi hq 60 (prS_eq (takeS_eq hm) hi hq)
    obtain ⟨s', g', e', hg'⟩ := ih (j + 1) n (untilN H (H.1 0) i q 60 (prS H (takeS s0 s) i q j)) (sA g 0 j (ptV H s0 i q j)) (by omega) (by omega) (fun p hp => by
      rw [sA_2]
      by_cases h1 : p = j
      · rw [if_pos ⟨rfl, h1⟩, h1]
      · rw [if_neg (fun e => h1 e.2)]; exact hg p (by omega))
    refine ⟨s', g', ?_, hg'⟩
    rw [f_X0_restingPairs_3, if_neg (show ¬ (4 : Int32) ≤ nI j from nI_ge (b := 4) (by omega) (by omega)), fc_o (blk_at _ _ _)]
    have bg2 : ∀ K : Hea → Option Hea, (if nI j &&& 1 = 0 then some (-1 : Int32) else some (nI i)).bind (fun v1 => (if nI j &&& 2 = 0 then some (-1 : Int32) else some (nI q)).bind fun v2 => (some ()).bind fun _ => (f_X0_begin (blk b (fcL b s g) h) b bh v1 v2).bind K) = K (blk b (fcL b (prS H (takeS s0 s) i q j) g) h) := by
      intro K
      have : ((if nI j &&& 1 = 0 then some (-1 : Int32) else some (nI i)).bind (fun v1 => (if nI j &&& 2 = 0 then some (-1 : Int32) else some (nI q)).bind fun v2 => f_X0_begin (blk b (fcL b s g) h) b bh v1 v2)).bind K = K (blk b (fcL b (prS H (takeS s0 s) i q j) g) h) := by rw [bg, b_some]
      rw [← this]
      simp only [Option.bind_assoc, b_some]
    rw [bg2, fc_o (blk_at _ _ _), b_some, g_until aH hd wH hi6 hq6 w0.pS, b_some, fc_f1 (blk_at _ _ _), b_some, fc_o (blk_at _ _ _), b_some, g_foundNight hi6, b_some, b_some, g_foundNight hq6, b_some, f_icmp_v, b_some, fc_w7 (by omega), b_some, nI_1, fnN_eq hi e1, fnN_eq hq e1]
    exact e'
theorem g_pairs79 {v : Nat → Int32} (hv : ∀ p, p < 4 → g.2 0 p = v p) : ∀ (k j n : Nat) (a : Int32), j + k = 4 → k < n → f_X0_restingPairs_79 n (blk b (fcL b s g) h) b a (nI j) = some (chL v k j a) := by
  intro k
  induction k with
  | zero =>
    intro j n a hj hn
    obtain ⟨n, rfl⟩ : ∃ q, n = q + 1 := ⟨n - 1, by omega⟩
    rw [f_X0_restingPairs_79, if_pos (show (4 : Int32) ≤ nI j from nI_le (a := 4) (by omega) (by omega)), chL]
  | succ k ih =>
    intro j n a hj hn
    obtain ⟨n, rfl⟩ : ∃ q, n = q + 1 := ⟨n - 1, by omega⟩
    obtain ⟨x1, x2, l1, l2⟩ := xr_1 j (by omega)
    rw [f_X0_restingPairs_79, if_neg (show ¬ (4 : Int32) ≤ nI j from nI_ge (b := 4) (by omega) (by omega)), fc_f1 (blk_at _ _ _), b_some, fc_m7 (blk_at _ _ _) (by omega), b_some, b_some, x1, fc_m7 (blk_at _ _ _) l1, b_some, b_some, fc_m7 (blk_at _ _ _) (show j < 4 by omega), b_some, b_some, x2, fc_m7 (blk_at _ _ _) l2, b_some, hv j (by omega), hv _ l1, hv _ l2, nI_1, chL, ← ih (j + 1) n _ (by omega) (by omega)]
    split
    · rw [b_some]
    · split
      · rw [b_some]
      · rw [b_some]
theorem g_pairs (aH : At h bh (hhL bh H s0)) (hd : bh + 15 ≤ b ∨ b + 8 ≤ bh) (wH : wfH H) (wS : wfN H s0 60) {i q : Nat} (hi : i < hM H) (hq : q < hM H) : ∃ s' g', f_X0_restingPairs (blk b (fcL b s g) h) b bh (nI i) (nI q) = some (chL (ptV H s0 i q) 4 0 0, blk b (fcL b s' g') h) := by
  obtain ⟨s', g', e, hg⟩ := g_pairs3 aH hd wH wS hi hq 4 0 lots s g (by omega) (by simp only [lots]; omega) (fun p hp => by omega)
  have e79 := g_pairs79 (h := h) (b := b) (s := s') hg 4 0 lots 0 (by omega) (by simp only [lots]; omega)
  rw [nI_0] at e e79
  exact ⟨s', g', by rw [f_X0_restingPairs, e, b_some, e79, b_some]⟩
end
