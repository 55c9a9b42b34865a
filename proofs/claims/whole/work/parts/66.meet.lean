/-! ===== where the two ways of counting meet ===== -/
theorem enc_le {N0 : Nat} (hN : N0 < 1000000) {d e : Option Nat} (hd : ∀ q, d = some q → q < 60) (he : ∀ q, e = some q → q < 60) : (encO 2147483647 N0 e ≤ encO 2147483647 N0 d ↔ encO 1000000 0 e ≤ encO 1000000 0 d) ∧ (encO 2147483647 N0 e = encO 2147483647 N0 d ↔ encO 1000000 0 e = encO 1000000 0 d) := by
  have a1 : (2147483647 : Int32) = nI 2147483647 := rfl
  have a2 : (1000000 : Int32) = nI 1000000 := rfl
  cases d with
  | none =>
    cases e with
    | none => exact ⟨⟨fun _ => Int32.le_refl _, fun _ => Int32.le_refl _⟩, ⟨fun _ => rfl, fun _ => rfl⟩⟩
    | some q =>
      have := he q rfl
      simp only [encO, a1, a2]
      rw [nI_leI (by omega) (by omega), nI_leI (by omega) (by omega), nI_eq (by omega) (by omega), nI_eq (by omega) (by omega)]
      constructor <;> omega
  | some p =>
    have := hd p rfl
    cases e with
    | none =>
      simp only [encO, a1, a2]
      rw [nI_leI (by omega) (by omega), nI_leI (by omega) (by omega), nI_eq (by omega) (by omega), nI_eq (by omega) (by omega)]
      constructor <;> omega
    | some q =>
      have := he q rfl
      simp only [encO]
      rw [nI_leI (by omega) (by omega), nI_leI (by omega) (by omega), nI_eq (by omega) (by omega), nI_eq (by omega) (by omega)]
      constructor <;> omega
theorem best_eq {N0 : Nat} (hN : N0 < 1000000) {v v' : Nat → Int32} {d : Nat → Option Nat} (hd : ∀ r q, d r = some q → q < 60) (hv : ∀ r, r < 8 → v r = encO 2147483647 N0 (d r)) (hv' : ∀ r, v' r = encO 1000000 0 (d r)) : ∀ (k j : Nat) (a : Int32) (e : Option Nat), j + k = 8 → (∀ q, e = some q → q < 60) → bestL v k j a (encO 2147483647 N0 e) = bestL v' k j a (encO 1000000 0 e) := by
  intro k
  induction k with
  | zero => intro j a e _ _; rfl
  | succ k ih =>
    intro j a e hj he
    rw [bestL, bestL, hv j (by omega), hv' j]
    by_cases hc : encO 1000000 0 e ≤ encO 1000000 0 (d j)
    · rw [if_pos hc, if_pos ((enc_le hN (hd j) he).1.mpr hc), ih (j + 1) a e (by omega) he]
    · rw [if_neg hc, if_neg (fun q => hc ((enc_le hN (hd j) he).1.mp q)), ih (j + 1) (nI j) (d j) (by omega) (hd j)]
theorem hide_eq {H s : Blk} {i : Nat} (hi : i < hM H) (w : wfN H s 60) (h0 : s.2 2 i = 0) : bestL (bv H s i) 8 0 (-1) 2147483647 = bestL (fun r => encO 1000000 0 (fiN H (H.1 0) i 60 0 (sA s 0 i (nI r)))) 8 0 (-1) 1000000 := by
  refine best_eq (N0 := sN s) (d := fun r => fiN H (H.1 0) i 60 0 (sA s 0 i (nI r))) (by have := w.2.1; omega) (fun r q e => by have := fiN_lt _ _ _ _ e; omega) (fun r hr => ?_) (fun r => rfl) 8 0 (-1) none (by omega) (fun q e => by cases e)
  rw [bv, fnN_until hi (Or.inl rfl) 60 0 (sA s 0 i (nI r)) (w.mv (inR_nI hr (by omega))) (show sN s = sN s + 0 from rfl), sA_row (by omega), if_pos h0]
theorem goD_how {H s : Blk} {i : Nat} (x : Nat) : (goD H s i).2 2 x = s.2 2 x ∧ (goD H s i).1 = s.1 := by
  rw [goD]
  cases leastD H (s.2 0 i).toNatClampNeg 8 0 with
  | none => exact ⟨rfl, rfl⟩
  | some j => exact ⟨by simp [goO, goS, sA_2], rfl⟩
theorem prS_how {H s : Blk} {i k p : Nat} (x : Nat) : (prS H s i k p).2 2 x = s.2 2 x ∧ (prS H s i k p).1 = s.1 := by
  rw [prS]
  split
  · exact ⟨rfl, rfl⟩
  · split
    · exact goD_how x
    · split
      · exact goD_how x
      · exact ⟨(goD_how x).1.trans (goD_how x).1, (goD_how x).2.trans (goD_how x).2⟩
theorem pt_eq {H s : Blk} {i q : Nat} (hi : i < hM H) (hq : q < hM H) (w : wfN H s 60) (h0 : s.2 2 i = 0) (h1 : s.2 2 q = 0) : ptV H s i q = hasV H s i q := by
  funext p
  have e0 : sN (prS H s i q p) = sN s + 0 := by simp only [sN, (prS_how 0).2]; rfl
  rw [ptV, hasV, fnN_until hi (Or.inl rfl) 60 0 _ w.pS e0, fnN_until hq (Or.inr rfl) 60 0 _ w.pS e0, (prS_how i).1, (prS_how q).1, if_pos h0, if_pos h1, icmpV]
  have k := enc_le (N0 := sN s) (by have := w.2.1; omega) (d := fiN H (H.1 0) i 60 0 (prS H s i q p)) (e := fiN H (H.1 0) q 60 0 (prS H s i q p)) (fun q e => by have := fiN_lt _ _ _ _ e; omega) (fun q e => by have := fiN_lt _ _ _ _ e; omega)
  simp only [k.1]
  by_cases c1 : encO 1000000 0 (fiN H (H.1 0) q 60 0 (prS H s i q p)) ≤ encO 1000000 0 (fiN H (H.1 0) i 60 0 (prS H s i q p))
  · rw [if_pos c1, if_pos c1]
    by_cases c2 : encO 1000000 0 (fiN H (H.1 0) i 60 0 (prS H s i q p)) = encO 1000000 0 (fiN H (H.1 0) q 60 0 (prS H s i q p))
    · rw [if_pos c2, if_pos (k.2.mpr c2.symm).symm]; rfl
    · rw [if_neg c2, if_neg (fun e => c2 (k.2.mp e.symm).symm)]; rfl
  · rw [if_neg c1, if_neg c1]; rfl
theorem hasV_3 {H s : Blk} {i q : Nat} (p : Nat) : hasV H s i q p = 0 ∨ hasV H s i q p = 1 ∨ hasV H s i q p = 2 := by
  rw [hasV]
  split
  · split
    · exact Or.inr (Or.inl rfl)
    · exact Or.inl rfl
  · exact Or.inr (Or.inr rfl)
/-! what a house's numbers are -/
def wfK (H : Blk) : Prop := (∀ q, q < 8 → ∃ v, v ≤ 9 ∧ H.2 0 q = nI v) ∧ (∀ i, i < hM H → ∃ v, v ≤ 9 ∧ H.2 4 i = nI v) ∧ ∃ v, v ≤ 25 ∧ H.1 1 = nI v
def wfT (H s : Blk) (c : Nat) : Prop := ∀ i, i < hM H → ∃ v, v + c < 1000000 ∧ s.2 1 i = nI v
theorem wfT.nx {H s : Blk} {ey : Int32} {c : Nat} (w : wfT H s (c + 1)) : wfT H (nightS H ey s) c := by
  intro i hi
  obtain ⟨v, hv, e⟩ := w i hi
  simp only [nightS, if_pos hi, if_true]
  split
  · exact ⟨v + 1, by omega, by rw [e, nI_1]⟩
  · exact ⟨v, by omega, e⟩
theorem wfT.le {H s : Blk} {c c' : Nat} (w : wfT H s c) (h : c' ≤ c) : wfT H s c' := fun i hi => by
  obtain ⟨v, hv, e⟩ := w i hi
  exact ⟨v, by omega, e⟩
theorem wfT.eq {H s t : Blk} {c : Nat} (w : wfT H s c) (e : EqS H s t) : wfT H t c := fun i hi => by
  obtain ⟨v, hv, e1⟩ := w i hi
  exact ⟨v, hv, by rw [← e.2 1 i (by omega) hi]; exact e1⟩
theorem pos0_n (p q : Nat) (hp : p < 1000000) (hq : q < 1000000) : pos0 (nI p - nI q) = nI (p - q) := by
  rw [pos0]
  by_cases h : q < p
  · rw [pk_sub (by omega), if_pos (show (0 : Int32) < nI (p - q) by rw [← nI_0]; exact nI_lt (by omega) (by omega))]
  · rw [show p - q = 0 by omega, nI_0]
    split
    · rename_i h1
      exfalso
      by_cases e : p = q
      · rw [e, pk_sub (Nat.le_refl _), Nat.sub_self] at h1; exact absurd h1 (by decide)
      · have := pk_sneg (a := p) (b := q) (by omega) (by omega)
        exact absurd (Int32.lt_trans h1 this) (by decide)
    · rfl
theorem le5_n (p : Nat) (hp : p < 1000000) : le5 (nI p) = nI (if p < 5 then p else 5) := by
  rw [le5, show (5 : Int32) = nI 5 from rfl]
  by_cases h : p < 5
  · rw [if_pos h, if_pos (nI_lt h (by omega))]
  · rw [if_neg h, if_neg (nI_nlt (by omega) (by omega))]
theorem hid_n {H s : Blk} {c i : Nat} (wK : wfK H) (wT : wfT H s c) (hr : inR (s.2 0 i) 8 = true) (hi : i < hM H) : ∃ v, v ≤ 25 ∧ hid H s i = nI v := by
  obtain ⟨er, hlt⟩ := inR_cl hr (by omega)
  obtain ⟨a, ha, ea⟩ := wK.1 _ hlt
  obtain ⟨p, hp, ep⟩ := wK.2.1 i hi
  obtain ⟨u, hu, eu⟩ := wK.2.2
  obtain ⟨t, ht, et⟩ := wT i hi
  have pl : plainOf H s i = nI (a + p) := by rw [plainOf, ea, ep, nI_add]
  have le : ∀ t : Nat, (if t < 5 then t else 5) ≤ 5 := fun t => by split <;> omega
  rw [hid, pl, et, eu, le5_n t (by omega), show (3 : Int32) = nI 3 from rfl, pos0_n _ _ (by omega) (by omega), show (2 : Int32) = nI 2 from rfl, pos0_n _ _ (by omega) (by omega), pk_div (by omega) (by omega) (by omega), nI_add]
  have := le t
  generalize (if t < 5 then t else 5) = w at this ⊢
  split
  · exact ⟨_, by omega, rfl⟩
  · split
    · split
      · exact ⟨_, by omega, rfl⟩
      · exact ⟨_, by omega, rfl⟩
    · split
      · exact ⟨_, by omega, rfl⟩
      · split
        · split
          · exact ⟨_, by omega, rfl⟩
          · exact ⟨_, by omega, rfl⟩
        · split
          · split
            · exact ⟨_, by omega, rfl⟩
            · exact ⟨_, by omega, rfl⟩
          · exact ⟨_, by omega, rfl⟩
/-! the odds -/
def sumT (f : Nat → Nat) : Nat → Nat
  | 0 => 0
  | n + 1 => sumT f n + f (n + 1)
theorem sumT_congr {f g : Nat → Nat} : ∀ n, (∀ e, 1 ≤ e → e ≤ n → f e = g e) → sumT f n = sumT g n := by
  intro n
  induction n with
  | zero => intro _; rfl
  | succ n ih => intro h; rw [sumT, sumT, ih (fun e h1 h2 => h e h1 (by omega)), h (n + 1) (by omega) (by omega)]
theorem sumT_le {f : Nat → Nat} (hf : ∀ e, f e ≤ 1) : ∀ n, sumT f n ≤ n := by
  intro n
  induction n with
  | zero => exact Nat.le_refl _
  | succ n ih => have := hf (n + 1); rw [sumT]; omega
/-- below y0 as g, above as 'more than v' -/
theorem sumT_split {f g : Nat → Nat} {y0 v : Nat} (c : Bool) (hv : c = true → y0 ≤ v) : ∀ y, y0 ≤ y → (∀ e, 1 ≤ e → e ≤ y0 → f e = g e) → (∀ e, y0 < e → e ≤ y → f e = if c = true ∧ v < e then 1 else 0) → sumT f y = sumT g y0 + if c = true then y - v else 0 := by
  intro y
  induction y with
  | zero =>
    intro h0 _ _
    rw [show y0 = 0 by omega]
    cases c <;> simp [sumT]
  | succ y ih =>
    intro h0 h1 h2
    by_cases e0 : y0 = y + 1
    · subst e0
      rw [sumT_congr _ h1]
      cases c with
      | false => simp
      | true => have := hv rfl; simp; omega
    · rw [sumT, ih (by omega) h1 (fun e a1 a2 => h2 e a1 (by omega)), h2 (y + 1) (by omega) (by omega)]
      cases c with
      | false => simp
      | true =>
        simp only [if_true, true_and]
        by_cases hv2 : v < y + 1
        · rw [if_pos hv2]; omega
        · rw [if_neg hv2]; omega
def tB (H : Blk) (i n : Nat) (s : Blk) (e : Nat) : Nat := if ((tillF H (nI e) n 0 s).1 >>> (nI i &&& 31)) &&& 1 = 1 then 1 else 0
theorem tB_le {H : Blk} {i n : Nat} {s : Blk} (e : Nat) : tB H i n s e ≤ 1 := by rw [tB]; split <;> omega
theorem tB_v {H : Blk} {i n : Nat} {s : Blk} (e : Nat) : ((tillF H (nI e) n 0 s).1 >>> (nI i &&& 31)) &&& 1 = nI (tB H i n s e) := by
  rw [tB]
  obtain ⟨j, hj, e1⟩ := pk_andE ((tillF H (nI e) n 0 s).1 >>> (nI i &&& 31)) (m := 1) 1 (by decide)
  rw [e1]
  rcases (show j = 0 ∨ j = 1 by omega) with rfl | rfl
  · rw [if_neg (by decide)]
  · rw [if_pos (by decide)]
theorem oddL_v {H : Blk} {i : Nat} {s : Blk} : ∀ (k j : Nat), oddL H i s k (j + 1) (nI (sumT (tB H i 60 s) j)) = nI (sumT (tB H i 60 s) (j + k)) := by
  intro k
  induction k with
  | zero => intro j; rfl
  | succ k ih =>
    intro j
    rw [oddL, tB_v, nI_add, show sumT (tB H i 60 s) j + tB H i 60 s (j + 1) = sumT (tB H i 60 s) (j + 1) from rfl, ih (j + 1), show j + 1 + k = j + (k + 1) by omega]
theorem till_nz {H : Blk} {ey y : Int32} {n : Nat} {s : Blk} (h : ¬ y = 0) : tillF H ey n y s = (y, s) := by
  cases n with
  | zero => rfl
  | succ n => rw [tillF, if_neg h]
theorem bits_0 {P : Nat → Bool} : bitsF P 6 = 0 ↔ ∀ i, i < 6 → P i = false := by
  constructor
  · intro h i hi
    have := bits_tst P hi
    rw [h] at this
    cases e : P i with
    | false => rfl
    | true =>
      have h2 := this.mpr e
      rcases (show i = 0 ∨ i = 1 ∨ i = 2 ∨ i = 3 ∨ i = 4 ∨ i = 5 by omega) with rfl | rfl | rfl | rfl | rfl | rfl <;> exact absurd h2 (by decide)
  · intro h
    simp [bitsF, h 0 (by omega), h 1 (by omega), h 2 (by omega), h 3 (by omega), h 4 (by omega), h 5 (by omega)]
theorem lst_v {H s : Blk} {c : Nat} (wK : wfK H) (wT : wfT H s c) (wS : wfS H s) : ∀ n, n ≤ hM H → ∃ L, lstH H s n = nI L ∧ L < 2147483648 ∧ (∀ q v, q < n → isSee H s q = true → hid H s q = nI v → v ≤ 25 → L ≤ v) ∧ (L = 2147483647 ∨ ∃ q, q < n ∧ isSee H s q = true ∧ hid H s q = nI L ∧ L ≤ 25) := by
  intro n
  induction n with
  | zero => intro _; exact ⟨2147483647, rfl, by omega, fun q v hq => by omega, Or.inl rfl⟩
  | succ n ih =>
    intro hn
    obtain ⟨L, e, hL, h1, h2⟩ := ih (by omega)
    obtain ⟨v, hv, ev⟩ := hid_n wK wT (wS.2.2 n (by omega)) (by omega)
    rw [lstH, e, ev]
    by_cases hs : isSee H s n = true
    · rw [if_pos hs]
      by_cases hc : v < L
      · rw [if_pos (nI_lt hc (by omega))]
        refine ⟨v, rfl, by omega, fun q u hq hsq hu hu2 => ?_, Or.inr ⟨n, by omega, hs, ev, hv⟩⟩
        by_cases hqn : q = n
        · subst hqn
          rw [ev] at hu
          have := (nI_eq (by omega) (by omega)).mp hu
          omega
        · have := h1 q u (by omega) hsq hu hu2; omega
      · rw [if_neg (nI_nlt (by omega) (by omega))]
        refine ⟨L, rfl, hL, fun q u hq hsq hu hu2 => ?_, ?_⟩
        · by_cases hqn : q = n
          · subst hqn
            rw [ev] at hu
            have := (nI_eq (by omega) (by omega)).mp hu
            omega
          · exact h1 q u (by omega) hsq hu hu2
        · rcases h2 with h2 | ⟨q, a1, a2⟩
          · exact Or.inl h2
          · exact Or.inr ⟨q, by omega, a2⟩
    · rw [if_neg hs]
      refine ⟨L, rfl, hL, fun q u hq hsq hu hu2 => ?_, ?_⟩
      · by_cases hqn : q = n
        · subst hqn; exact absurd hsq hs
        · exact h1 q u (by omega) hsq hu hu2
      · rcases h2 with h2 | ⟨q, a1, a2⟩
        · exact Or.inl h2
        · exact Or.inr ⟨q, by omega, a2⟩
theorem luck_v {H : Blk} {i : Nat} (hi : i < hM H) (wH : wfH H) (wK : wfK H) : ∀ (n y c : Nat) (s : Blk), y ≤ 25 → wfN H s n → wfT H s n → luck H i n (nI y) (nI c) s = nI (c + sumT (tB H i n s) y) := by
  have hm := wH.2.1
  have hi6 : i < 6 := by omega
  intro n
  induction n with
  | zero =>
    intro y c s hy w wT
    have : ∀ y, sumT (tB H i 0 s) y = 0 := by
      intro y
      induction y with
      | zero => rfl
      | succ y ih =>
        rw [sumT, ih, tB, if_neg]
        rw [tillF]
        show ¬ ((0 : Int32) >>> (nI i &&& 31)) &&& 1 = 1
        rcases (show i = 0 ∨ i = 1 ∨ i = 2 ∨ i = 3 ∨ i = 4 ∨ i = 5 by omega) with rfl | rfl | rfl | rfl | rfl | rfl <;> decide
    rw [luck, this, Nat.add_zero]
  | succ n ih =>
    intro y c s hy w wT
    rw [luck]
    by_cases hy0 : y = 0
    · subst hy0
      rw [if_pos (by rw [nI_0]; exact Int32.le_refl _), sumT, Nat.add_zero]
    · rw [if_neg (nI_nle (by omega) (by omega))]
      obtain ⟨L, eL, hL, l1, l2⟩ := lst_v wK wT w.S (hM H) (Nat.le_refl _)
      obtain ⟨v, hv, ev⟩ := hid_n wK wT (w.2.2 i hi) hi
      rw [eL, ev, pos0_n y v (by omega) (by omega)]
      have emin : (if nI L < nI y then nI L else nI y) = nI (if L < y then L else y) := by
        by_cases q : L < y
        · rw [if_pos q, if_pos (nI_lt q (by omega))]
        · rw [if_neg q, if_neg (nI_nlt (by omega) (by omega))]
      have hlo : (if L < y then L else y) ≤ y := by split <;> omega
      have hlL : (if L < y then L else y) ≤ L := by split <;> omega
      -- nobody is found with eyes that low
      have zero : ∀ e, e ≤ (if L < y then L else y) → isFnd H s (nI e) = fun _ => false := by
        intro e he
        funext q
        cases hs : isSee H s q with
        | false => simp [isFnd, hs]
        | true =>
          have hqm : q < hM H := by
            by_cases h1 : q < hM H
            · exact h1
            · rw [isSee, isIn_hi (by omega)] at hs; cases hs
          obtain ⟨u, hu, eu⟩ := hid_n wK wT (w.2.2 q hqm) hqm
          have := l1 q u hqm hs eu hu
          have hn : ¬ hid H s q < nI e := by rw [eu]; exact nI_nlt (by omega) (by omega)
          simp [isFnd, hn]
      have f0 : isFnd H s 0 = fun _ => false := by rw [← nI_0]; exact zero 0 (Nat.zero_le _)
      have low : ∀ e, 1 ≤ e → e ≤ (if L < y then L else y) → tB H i (n + 1) s e = tB H i n (nightS H 0 s) e := by
        intro e _ he
        have fz : fnd H s (nI e) = 0 := by rw [fnd, zero e he]; rfl
        have nz : nightS H (nI e) s = nightS H 0 s := by simp only [nightS, zero e he, f0]
        rw [tB, tB, tillF, if_pos rfl, fz, nz]
      have high : ∀ e, (if L < y then L else y) < e → e ≤ y → tB H i (n + 1) s e = if isSee H s i = true ∧ v < e then 1 else 0 := by
        intro e h1 h2
        have hLy : L < y := by
          by_cases q : L < y
          · exact q
          · rw [if_neg q] at h1; omega
        rw [if_pos hLy] at h1
        rcases l2 with l2 | ⟨q, hq, hs, eq, -⟩
        · omega
        · have fq : isFnd H s (nI e) q = true := by
            have : hid H s q < nI e := by rw [eq]; exact nI_lt h1 (by omega)
            simp [isFnd, hs, this]
          have nz : ¬ fnd H s (nI e) = 0 := by
            intro h
            rw [fnd, bits_0] at h
            rw [h q (by omega)] at fq
            cases fq
          rw [tB, tillF, if_pos rfl, till_nz nz]
          show (if ((fnd H s (nI e) >>> (nI i &&& 31)) &&& 1 = 1) then 1 else 0) = _
          simp only [fnd, bits_tst (isFnd H s (nI e)) hi6]
          have : (isFnd H s (nI e) i = true) ↔ (isSee H s i = true ∧ v < e) := by
            rw [isFnd, Bool.and_eq_true, decide_eq_true_eq, ev, nI_ltI (by omega) (by omega)]
          simp only [this]
      have sp := sumT_split (f := tB H i (n + 1) s) (g := tB H i n (nightS H 0 s)) (y0 := if L < y then L else y) (v := v) (isSee H s i) (fun hs => by
        have := l1 i v hi hs ev hv
        omega) y hlo low high
      have tot : sumT (tB H i (n + 1) s) y ≤ y := sumT_le (fun e => tB_le e) y
      rw [emin, sp]
      cases hs : isSee H s i with
      | true =>
        rw [hs] at sp
        simp only [if_true] at sp ⊢
        rw [nI_add]
        rw [ih _ (c + (y - v)) _ (by omega) w.nx wT.nx, show c + (y - v) + sumT (tB H i n (nightS H 0 s)) (if L < y then L else y) = c + (sumT (tB H i n (nightS H 0 s)) (if L < y then L else y) + (y - v)) by omega]
      | false =>
        simp only [Bool.false_eq_true, if_false, Nat.add_zero]
        exact ih _ c _ (by omega) w.nx wT.nx
/-! the fraction -/
set_option maxRecDepth 20000 in
theorem frac_eq {h : Hea} : ∀ v : Nat, v ≤ 25 → ∃ g : Int32, f_X8_fraction_5 lots h (nI v) 25 = some g ∧ f_X7_greatestShared (nI v) 25 = some g ∧ ¬ g = 0 := by
  intro v hv
  rcases (show v = 0 ∨ v = 1 ∨ v = 2 ∨ v = 3 ∨ v = 4 ∨ v = 5 ∨ v = 6 ∨ v = 7 ∨ v = 8 ∨ v = 9 ∨ v = 10 ∨ v = 11 ∨ v = 12 ∨ v = 13 ∨ v = 14 ∨ v = 15 ∨ v = 16 ∨ v = 17 ∨ v = 18 ∨ v = 19 ∨ v = 20 ∨ v = 21 ∨ v = 22 ∨ v = 23 ∨ v = 24 ∨ v = 25 by omega) with rfl | rfl | rfl | rfl | rfl | rfl | rfl | rfl | rfl | rfl | rfl | rfl | rfl | rfl | rfl | rfl | rfl | rfl | rfl | rfl | rfl | rfl | rfl | rfl | rfl | rfl
  · exact ⟨25, rfl, rfl, by decide⟩
  · exact ⟨1, rfl, rfl, by decide⟩
  · exact ⟨1, rfl, rfl, by decide⟩
  · exact ⟨1, rfl, rfl, by decide⟩
  · exact ⟨1, rfl, rfl, by decide⟩
  · exact ⟨5, rfl, rfl, by decide⟩
  · exact ⟨1, rfl, rfl, by decide⟩
  · exact ⟨1, rfl, rfl, by decide⟩
  · exact ⟨1, rfl, rfl, by decide⟩
  · exact ⟨1, rfl, rfl, by decide⟩
  · exact ⟨5, rfl, rfl, by decide⟩
  · exact ⟨1, rfl, rfl, by decide⟩
  · exact ⟨1, rfl, rfl, by decide⟩
  · exact ⟨1, rfl, rfl, by decide⟩
  · exact ⟨1, rfl, rfl, by decide⟩
  · exact ⟨5, rfl, rfl, by decide⟩
  · exact ⟨1, rfl, rfl, by decide⟩
  · exact ⟨1, rfl, rfl, by decide⟩
  · exact ⟨1, rfl, rfl, by decide⟩
  · exact ⟨1, rfl, rfl, by decide⟩
  · exact ⟨5, rfl, rfl, by decide⟩
  · exact ⟨1, rfl, rfl, by decide⟩
  · exact ⟨1, rfl, rfl, by decide⟩
  · exact ⟨1, rfl, rfl, by decide⟩
  · exact ⟨1, rfl, rfl, by decide⟩
  · exact ⟨25, rfl, rfl, by decide⟩
