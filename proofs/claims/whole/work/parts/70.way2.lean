/-! ===== WayFinder: the night, the search ===== -/
/-- rows that agree below the heirs, but for one heir's room and stay -/
def AgR (H : Blk) (i : Nat) (s t : Blk) : Prop := ∀ j q, j < 5 → q < hM H → ¬ ((j = 0 ∨ j = 1) ∧ q = i) → s.2 j q = t.2 j q
theorem AgR.hid {H s t : Blk} {i x y : Nat} (a : AgR H i s t) (hi : i < hM H) : hid H (setI s i x y) i = hid H (setI t i x y) i := by
  refine hid_eq (H := H) (s := ((setI t i x y).1, (setI s i x y).2)) (t := setI t i x y) ⟨rfl, fun j q hj hq => ?_⟩ hi
  show (setI s i x y).2 j q = (setI t i x y).2 j q
  simp only [setI, sA_2]
  by_cases h1 : j = 1 ∧ q = i
  · rw [if_pos h1, if_pos h1]
  · rw [if_neg h1, if_neg h1]
    by_cases h0 : j = 0 ∧ q = i
    · rw [if_pos h0, if_pos h0]
    · rw [if_neg h0, if_neg h0]
      exact a j q hj hq (fun e => e.1.elim (fun e1 => h0 ⟨e1, e.2⟩) (fun e1 => h1 ⟨e1, e.2⟩))
theorem pas_eq {H s t : Blk} {i : Nat} (a : AgR H i s t) (hi : i < hM H) {lr : Int32} {e : Nat → Option Nat} : ∀ (k j : Nat) (p : (Nat → Option Nat) × Option Nat), pas H s i lr e k j p = pas H t i lr e k j p := by
  intro k
  induction k with
  | zero => intro j p; rfl
  | succ k ih =>
    intro j p
    have : pasO H s i lr j p (e j) = pasO H t i lr j p (e j) := by
      cases e j with
      | none => rfl
      | some c => rw [pasO, pasO, a.hid hi]
    rw [pas, pas, this, ih]
def wayV : Option (Nat × Nat) → Int32 × Int32
  | none => (-1, -1)
  | some p => (nI p.1, nI p.2)
section
variable {h : Hea} {b bh : Nat} {H s0 s g : Blk}
theorem g_passN (aH : At h bh (hhL bh H s0)) (hd : bh + 15 ≤ b ∨ b + 9 ≤ bh) (wH : wfH H) {i N : Nat} (hi : i < hM H) (hN : N < 1000000) {e0 : Nat → Option Nat} (hb0 : bdO e0 909) {t : Blk} (ag : AgR H i s t) (hs : s.1 0 = nI N) (hR : Rw 2147483647 (g.2 1) e0) : ∃ s' g', f_X6_passNight (blk b (wfL b s g) h) b bh (nI i) = some (blk b (wfL b s' g') h) ∧ s'.1 0 = nI (N + 1) ∧ AgR H i s' t ∧ Rw 2147483647 (g'.2 0) (pas H t i (lk H N) e0 48 0 (fun _ => none, none)).1 ∧ (g'.1 0, g'.1 1) = (match (pas H t i (lk H N) e0 48 0 (fun _ => none, none)).2 with | none => (g.1 0, g.1 1) | some c => (nI N, nI c)) := by
  obtain ⟨g1, e1, r1, k1, q1⟩ := g_empty (h := h) (b := b) (s := s) (g := g)
  obtain ⟨s2, g2, e2, a2, r2, q2⟩ := g_pass26 (lr := lk H N) aH hd wH hi hb0 (s1 := s) 48 0 lots s g1 (fun _ => none, none) (by omega) (by simp only [lots]; omega) ⟨rfl, fun _ _ _ => rfl⟩ (by rw [k1]; exact hR) r1 (fun q v e => by cases e) (fun u e => by cases e)
  rw [pas_eq ag hi] at e2 r2
  have ag2 : AgR H i s2 t := fun j q hj hq hne => (a2.2 j q hne).trans (ag j q hj hq hne)
  have hn2 : s2.1 0 = nI N := by rw [a2.1]; exact hs
  have hbo := pas_bnd (H := H) (s := t) (i := i) (lr := lk H N) hb0 48 0 (fun _ => none, none) (fun q v e => by cases e) (fun u e => by cases e)
  rw [nI_0, show encO 2147483647 0 (none : Option Nat) = 2147483647 from rfl] at e2
  rw [f_X6_passNight, wf_f2 (blk_at _ _ _), b_some, wf_f1_0 (blk_at _ _ _), b_some, hs, hh_o (wf_H aH hd _ _), b_some, g_looked (hh_ho (wf_H aH hd _ _)) wH hN, b_some, wf_f3 (blk_at _ _ _), b_some, e1, b_some, e2, b2_some]
  simp only [encM (fun v e => by have := hbo.2 v e; omega)]
  cases q : (pas H t i (lk H N) e0 48 0 (fun _ => none, none)).2 with
  | none =>
    refine ⟨sS s2 0 (nI (N + 1)), g2, ?_, rfl, ag2, r2, by rw [q2, q1]⟩
    rw [if_pos rfl, b_some, wf_f2 (blk_at _ _ _), b_some, wf_f1_0 (blk_at _ _ _), b_some, pI, wf_p1_0, b_some, hn2, nI_1]
  | some c =>
    refine ⟨sS s2 0 (nI (N + 1)), sS (sS g2 0 (nI N)) 1 (nI c), ?_, rfl, ag2, r2, rfl⟩
    rw [if_neg (by intro e; cases e), wf_f2 (blk_at _ _ _), b_some, wf_f1_0 (blk_at _ _ _), b_some, hn2, pI, wf_p0, b_some, pI, wf_p1, b_some, b_some, wf_f2 (blk_at _ _ _), b_some, wf_f1_0 (blk_at _ _ _), b_some, pI, wf_p1_0, b_some, hn2, nI_1, encO, Nat.zero_add]
theorem g_srchEnd {i : Int32} (hg : ¬ g.1 0 = -1) (j : Int32) : f_X6_search_56 (998 + 1) (blk b (wfL b s g) h) b bh i j = some (blk b (wfL b s g) h) := by
  rw [f_X6_search_56, wf_f0 (blk_at _ _ _), b_some, if_neg hg]
  split
  · rfl
  · rfl
theorem g_srch56 (aH : At h bh (hhL bh H s0)) (hd : bh + 15 ≤ b ∨ b + 9 ≤ bh) (wH : wfH H) (wC : wfC H) (wS : wfN H s0 60) {i : Nat} (hi : i < hM H) : ∀ (k j n : Nat) (s g : Blk) (d : Nat → Option Nat), j + k = 12 → k + 1 < n → s.1 0 = nI (sN s0 + j) → AgR H i s s0 → Rw 2147483647 (g.2 0) d → bdO d (9 * j) → g.1 0 = -1 → g.1 1 = -1 → ∃ s' g', f_X6_search_56 n (blk b (wfL b s g) h) b bh (nI i) (nI j) = some (blk b (wfL b s' g') h) ∧ (g'.1 0, g'.1 1) = wayV (wayL H s0 i k j d) := by
  have hm := wH.2.1
  have hi6 : i < 6 := by omega
  have hw := wS.2.1
  intro k
  induction k with
  | zero =>
    intro j n s g d hj hn hs ag hR hb g0 g1
    obtain ⟨n, rfl⟩ : ∃ q, n = q + 1 := ⟨n - 1, by omega⟩
    exact ⟨s, g, by rw [f_X6_search_56, if_pos (show (12 : Int32) ≤ nI j from nI_le (a := 12) (by omega) (by omega))], by rw [g0, g1]; rfl⟩
  | succ k ih =>
    intro j n s g d hj hn hs ag hR hb g0 g1
    obtain ⟨n, rfl⟩ : ∃ q, n = q + 1 := ⟨n - 1, by omega⟩
    obtain ⟨ga, ea, ra, qa⟩ := g_spread (s := s) aH hd wC (hb.le (by omega)) hR (decide (0 < j ∨ s0.2 4 i = 0))
    have hE : (if decide (0 < j ∨ s0.2 4 i = 0) = true then sprA H d 48 0 d else d) = wayE H s0 i j d := by
      rw [wayE]; simp only [decide_eq_true_eq]
    rw [hE] at ra
    obtain ⟨s', g', e1, n1, a1, r1, q1⟩ := g_passN aH hd wH hi (N := sN s0 + j) (by omega) ((wayE_bnd wC hb).le (by omega)) ag hs ra
    have key : (if 0 < nI j then some (1 : Int32) else if s0.2 4 i = 0 then some 1 else some 0) = some (if decide (0 < j ∨ s0.2 4 i = 0) = true then 1 else 0) := by
      by_cases h1 : 0 < j
      · rw [if_pos (show (0 : Int32) < nI j from nI_lt (a := 0) h1 (by omega))]; simp [h1]
      · rw [if_neg (show ¬ (0 : Int32) < nI j from nI_nlt (b := j) (a := 0) (by omega) (by omega))]
        by_cases h2 : s0.2 4 i = 0
        · simp [h2]
        · simp [h1, h2]
    have stepE : f_X6_search_56 (n + 1) (blk b (wfL b s g) h) b bh (nI i) (nI j) = f_X6_search_56 n (blk b (wfL b s' g') h) b bh (nI i) (nI (j + 1)) := by
      rw [f_X6_search_56, if_neg (show ¬ (12 : Int32) ≤ nI j from nI_ge (b := 12) (by omega) (by omega)), wf_f0 (blk_at _ _ _), b_some, if_pos g0, hh_f9 (wf_H aH hd _ _), b_some, hh_f6_5 (wf_H aH hd _ _), b_some, hh_m11 (wf_H aH hd _ _) hi6, b_some, key, b_some, wf_o (blk_at _ _ _), b_some, ea, b_some, wf_o (blk_at _ _ _), b_some, e1, b_some, nI_1]
    rw [stepE, wayL]
    have q1' : (g'.1 0, g'.1 1) = (match (wayP H s0 i j d).2 with | none => (ga.1 0, ga.1 1) | some c => (nI (sN s0 + j), nI c)) := q1
    cases q : (wayP H s0 i j d).2 with
    | none =>
      rw [q, qa, g0, g1] at q1'
      exact ih (j + 1) n s' g' (wayP H s0 i j d).1 (by omega) (by omega) (by rw [n1, Nat.add_assoc]) a1 r1 ((wayP_bnd wC hb).1.le (by omega)) (congrArg Prod.fst q1') (congrArg Prod.snd q1')
    | some c =>
      rw [q] at q1'
      have hne : ¬ g'.1 0 = -1 := by rw [show g'.1 0 = nI (sN s0 + j) from congrArg Prod.fst q1']; exact nI_n1 (by omega)
      obtain ⟨n, rfl⟩ : ∃ q, n = q + 1 := ⟨n - 1, by omega⟩
      refine ⟨s', g', ?_, q1'⟩
      rw [f_X6_search_56, wf_f0 (blk_at _ _ _), b_some, if_neg hne]
      split
      · rfl
      · rfl
theorem g_search (aH : At h bh (hhL bh H s0)) (hd : bh + 15 ≤ b ∨ b + 9 ≤ bh) (wH : wfH H) (wC : wfC H) (wS : wfN H s0 60) (wT : wfT H s0 0) {i : Nat} (hi : i < hM H) : ∃ s' g', f_X6_search (blk b (wfL b s g) h) b bh (nI i) = some (blk b (wfL b s' g') h) ∧ (g'.1 0, g'.1 1) = wayV (wayL H s0 i 12 0 (way0 s0 i)) := by
  have hm := wH.2.1
  have hi6 : i < 6 := by omega
  have tk := g_takeS (h := blk b (wfL b s g) h) (bs := b + 1) (bt := bh + 6) (s := s) (t := s0) (hh_sn (wf_H aH hd s g)) (by omega)
  rw [wf_put, wf_put] at tk
  have te : EqS H (takeS s0 s) s0 := takeS_eq hm
  obtain ⟨er, hr⟩ := inR_cl (wS.2.2 i hi) (by omega)
  obtain ⟨v, hv, ev⟩ := wT i hi
  obtain ⟨ge, ee, re, ke, qe⟩ := g_empty (h := h) (b := b) (s := takeS s0 s) (g := sS (sS g 0 (-1)) 1 (-1))
  have lw := g_lower (h := h) (b := b) (s := takeS s0 s) (j := 0) (rm := (s0.2 0 i).toNatClampNeg) (t := v) (v := 0) (by omega) hr (by omega) (by omega) re (fun q v e => by cases e)
  rw [← er, ← ev, nI_0] at lw
  have hw0 : upO (fun _ => none) ((s0.2 0 i).toNatClampNeg * 6 + m5 v) 0 = way0 s0 i := by
    funext q
    rw [upO, way0, ev, nI_clamp (by omega)]
    rfl
  obtain ⟨s', g', e, q⟩ := g_srch56 aH hd wH wC wS hi 12 0 lots (takeS s0 s) (sA ge 0 ((s0.2 0 i).toNatClampNeg * 6 + m5 v) (encO 2147483647 0 (omin none 0))) (way0 s0 i) (by omega) (by simp only [lots]; omega) (by rw [te.1, Nat.add_zero]; exact wS.1) (fun j q hj hq _ => te.2 j q hj hq) (by rw [← hw0]; exact Rw_sA re) (fun q v e => by
    rw [way0] at e
    split at e
    · cases e; omega
    · cases e) (by rw [sA_1, qe]; rfl) (by rw [sA_1, qe]; rfl)
  rw [nI_0] at e
  refine ⟨s', g', ?_, q⟩
  rw [f_X6_search, wf_f2 (blk_at _ _ _), b_some, hh_f9 (wf_H aH hd _ _), b_some, wf_o1 (blk_at _ _ _), b_some, tk, b_some, pI, wf_p0, b_some, pI, wf_p1, b_some, wf_f3 (blk_at _ _ _), b_some, ee, b_some, wf_f3 (blk_at _ _ _), b_some, wf_f2 (blk_at _ _ _), b_some, wf_f1_1 (blk_at _ _ _), b_some, wf_m2 (blk_at _ _ _) hi6, b_some, b_some, wf_f1_2 (blk_at _ _ _), b_some, wf_m3 (blk_at _ _ _) hi6, b_some, te.2 0 i (by omega) hi, te.2 1 i (by omega) hi, show b + 7 = b + (7 + 0) from rfl, lw, b_some, e, b_some]
end
