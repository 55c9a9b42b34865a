/-! ===== reading: items on both sides ===== -/
def T00 : Nat → Blk := fun _ => (fun _ => 0, fun _ _ => 0)
/-- how an item ends: a fault's place; or before its stop at p, with the house so far on both sides -/
abbrev OutT : Type := Nat ⊕ (Nat × Blk × Blk × (Nat → Int32))
def COut (b d t : Nat) (h : Hea) (c : Nat → Int32) (n : Nat) (it : Int32) (o : OutT) (res : Option Hea) : Prop := match o with
  | .inl f => ∃ g H s, res = some (hcB b d t g H s h) ∧ g.1 6 = it ∧ (g.1 5 = nI f ∨ ∃ p, CC c n p (-1) it g ∧ ¬ tkK c n p = 3 ∧ tkS c n p = f)
  | .inr (p, H, s, _) => ∃ g, res = some (hcB b d t g H s h) ∧ CC c n p (-1) it g
def ROut (b : Nat) (l : Nat → Int64) (r : Nat → Nat → Int64) (h : Hea) (m0 : Blk) (c : Nat → Int32) (n : Nat) (o : OutT) (res : Option (Int32 × Hea)) : Prop := match o with
  | .inl f => ∃ m x, res = some (x, blk b (mdL b m l r) h) ∧ RS m0 m ∧ m.1 3 = nI f ∧ (x = 0 ∨ (x = 1 ∧ ¬ m.1 5 = 3))
  | .inr (p, _, _, N) => ∃ m, res = some (1, blk b (mdL b m l r) h) ∧ CR m0 c n p N m
def goodO (c : Nat → Int32) (n p : Nat) (o : OutT) : Prop := match o with
  | .inl f => f ≤ n
  | .inr (p', H, s, N) => p ≤ p' ∧ p' ≤ n ∧ tkK c n p' = 3 ∧ ST 0 H s 0 T00 N
def finO (c : Nat → Int32) (n p : Nat) (H s : Blk) (N : Nat → Int32) : OutT := if tkK c n p = 3 then .inr (p, H, s, N) else .inl (tkS c n p)
section
variable {b d t : Nat} {H s : Blk} {h : Hea} {c : Nat → Int32} {n p : Nat} {it : Int32} {N : Nat → Int32} {l : Nat → Int64} {r : Nat → Nat → Int64} {m0 : Blk}
theorem COut_fin {res : Option Hea} (e : ∃ g, res = some (hcB b d t g H s h) ∧ CC c n p (-1) it g) : COut b d t h c n it (finO c n p H s N) res := by
  unfold finO
  by_cases k : tkK c n p = 3
  · rw [if_pos k]; exact e
  · rw [if_neg k]
    obtain ⟨g, e1, e2⟩ := e
    exact ⟨g, H, s, e1, e2.2.2.2.2.2.2, Or.inr ⟨p, e2, k, rfl⟩⟩
theorem ROut_fin {res : Option (Int32 × Hea)} (e : ∃ m, res = some (1, blk b (mdL b m l r) h) ∧ CR m0 c n p N m) : ROut b l r h m0 c n (finO c n p H s N) res := by
  unfold finO
  by_cases k : tkK c n p = 3
  · rw [if_pos k]; exact e
  · rw [if_neg k]
    obtain ⟨m, e1, e2⟩ := e
    exact ⟨m, 1, e1, e2.1, e2.2.2.1, Or.inr ⟨rfl, by rw [e2.2.2.2.2.1]; exact nl3 (by have := tkK_le c n p; omega) k⟩⟩
theorem good_fin {p0 : Nat} (h1 : p0 ≤ p) (h2 : p ≤ n) (st : ST 0 H s 0 T00 N) : goodO c n p0 (finO c n p H s N) := by
  unfold finO
  by_cases k : tkK c n p = 3
  · rw [if_pos k]; exact ⟨h1, h2, k, st⟩
  · rw [if_neg k]; exact (tkS_le h2).2
theorem good_mono {p0 : Nat} {o : OutT} (h1 : p0 ≤ p) (g : goodO c n p o) : goodO c n p0 o := by
  cases o with
  | inl f => exact g
  | inr q => exact ⟨Nat.le_trans h1 g.1, g.2⟩
theorem COut_f {f : Nat} {res : Option Hea} (e : ∃ g, res = some (hcB b d t g H s h) ∧ g.1 5 = nI f ∧ g.1 6 = it) : COut b d t h c n it (.inl f) res := by
  obtain ⟨g, e1, e2, e3⟩ := e
  exact ⟨g, H, s, e1, e3, Or.inl e2⟩
theorem ROut_f {f : Nat} {res : Option (Int32 × Hea)} (e : ∃ m, res = some (0, blk b (mdL b m l r) h) ∧ RS m0 m ∧ m.1 3 = nI f) : ROut b l r h m0 c n (.inl f) res := by
  obtain ⟨m, e1, e2, e3⟩ := e
  exact ⟨m, 0, e1, e2, e3, Or.inl rfl⟩
theorem CR.new {N' : Nat → Int32} {m : Blk} (a : CR m0 c n p N m) : CR m0 c n p N' (sB m 14 N') := ⟨a.1.sB (by omega), rfl, a.2.2⟩
theorem g_advC (hx : Txt b d t h c n) (hn : n ≤ 150) (hp : p ≤ n) {f : Int32} {g : Blk} (a : CC c n p f it g) : ∃ g', f_X4_advance (hcB b d t g H s h) b = some (hcB b d t g' H s h) ∧ CC c n (tkE c n p) f it g' := g_adv hx hn (tkE_le hp).2.1 a.1 a.2.1 a.2.2.2.2.2.1 a.2.2.2.2.2.2
theorem tkE_ge (hp : p ≤ n) : p ≤ tkE c n p ∧ tkE c n p ≤ n := by
  have h1 := tkS_le (c := c) hp
  have h2 := tkE_le (c := c) hp
  omega
theorem hc_w1 (hd : d + 15 ≤ b) {g : Blk} {i : Nat} {x : Int32} (hi : i < 8) : stI (hcB b d t g H s h) 0 (d + 1) (nI i) x = some (hcB b d t g (sA H 0 i x) s h) := by rw [hc_comm hd, hh_w1 hi, ← hc_comm hd]
theorem hc_w3 (hd : d + 15 ≤ b) {g : Blk} {i : Nat} {x : Int32} (hi : i < 12) : stI (hcB b d t g H s h) 0 (d + 3) (nI i) x = some (hcB b d t g (sA H 2 i x) s h) := by rw [hc_comm hd, hh_w3 hi, ← hc_comm hd]
theorem hc_hp5 (hd : d + 15 ≤ b) {g : Blk} {x : Int32} : pV (hcB b d t g H s h) d 1 5 (.int x) = some (hcB b d t g (sS H 2 x) s h) := by rw [hc_comm hd, hh_p5, ← hc_comm hd]
theorem hc_hang (hd : d + 15 ≤ b) {g : Blk} {i j : Nat} {x : Int32} (hi : i < 8) (hj : j < 8) : f_X1_hang (hcB b d t g H s h) d (nI i) (nI j) x = some (hcB b d t g (sA (sA H 1 (i * 8 + j) x) 1 (j * 8 + i) x) s h) := by rw [hc_comm hd, g_hang hi hj, ← hc_comm hd]
theorem hc_restart (hd : d + 15 ≤ b) {g : Blk} {e r : Int32} : f_X1_restart (hcB b d t g H s h) d e r = some (hcB b d t g (beginH H e r) (sS s 0 0) h) := by rw [hc_comm hd, g_restart, ← hc_comm hd]
theorem hc_bring (hd : d + 15 ≤ b) {g : Blk} {m : Nat} (hm : H.1 3 = nI m) (h6 : m < 6) {k r p : Int32} : f_X1_bring (hcB b d t g H s h) d k r p = some (nI m, hcB b d t g (sS (sA (sA H 3 m k) 4 m p) 3 (nI (m + 1))) (sA (sA (sA (sA (sA s 0 m r) 1 m 0) 2 m 0) 3 m (-1)) 4 m 0) h) := by rw [hc_comm hd, g_bring hm h6, ← hc_comm hd]
theorem new_door {m : Blk} {i j : Nat} {x : Int32} (hi : i < 8) (hj : j < 8) : f_X8_layDoor (blk b (mdL b m l r) h) (b + 17) (nI i) (nI j) x = some (blk b (mdL b (sB m 14 (upd (upd (m.2 14) (15 + 8 * i + j) x) (15 + 8 * j + i) x)) l r) h) := by
  have e := g8_door (rowNew (h := h) (b := b) (m := m) (l := l) (r := r)) (by omega) (f := m.2 14) (x := x) hi hj
  simp only [sB_self] at e
  exact e
theorem new_begin {m : Blk} {e r' : Int32} : f_X8_begin (blk b (mdL b m l r) h) (b + 17) e r' = some (blk b (mdL b (sB m 14 (beginN (m.2 14) e r')) l r) h) := by
  have e := g8_begin (rowNew (h := h) (b := b) (m := m) (l := l) (r := r)) (by omega) (f := m.2 14) (e := e) (r := r')
  simp only [sB_self] at e
  exact e
theorem new_heir {m : Blk} {c x p : Int32} {k : Nat} (h0 : m.2 14 0 = nI k) (hn : k < 6) : f_X8_layHeir (blk b (mdL b m l r) h) (b + 17) c x p = some (blk b (mdL b (sB m 14 (heirN (m.2 14) k c x p)) l r) h) := by
  have e := g8_layHeir (rowNew (h := h) (b := b) (m := m) (l := l) (r := r)) (by omega) (by omega) (f := m.2 14) (k := c) (r := x) (p := p) h0 hn
  simp only [sB_self] at e
  exact e
end
theorem ST.room {k z : Nat} {H s : Blk} {T : Nat → Blk} {N : Nat → Int32} (a : ST k H s z T N) {x y : Nat} (hx : x < 8) (hy : y ≤ 9) : ST k (sA H 0 x (nI y)) s z T (upd N (7 + x) (nI y)) := by
  obtain ⟨wo, ws, wt, rH, rs, rp⟩ := a
  have h1 := wo.1.2.1
  have h2 := wo.1.2.2.2.2
  have h3 := wo.2.1.2
  have ne : ∀ q, ¬ q = 7 + x → upd N (7 + x) (nI y) q = N q := fun q hq => by rw [upd_v, if_neg hq]
  refine ST.chg0 (H := H) (N := N) ⟨wo, ws, wt, rH, rs, rp⟩ ⟨wo.1, wo.2.1, ⟨fun j hj => ?_, wo.2.2.1.2⟩, wo.2.2.2.1, wo.2.2.2.2⟩ rfl ⟨?_, ?_, ?_, ?_, ?_, fun j hj => ?_, fun j hj => ?_, fun j hj => ?_, fun j hj => ?_, fun j hj => ?_⟩ (fun j hj => ne j (by omega))
  · rw [sA_2]
    by_cases e : j = x
    · rw [if_pos ⟨rfl, e⟩]; exact ⟨y, hy, rfl⟩
    · rw [if_neg (fun c => e c.2)]; exact wo.2.2.1.1 j hj
  · rw [ne _ (by omega)]; exact rH.1
  · rw [ne _ (by omega)]; exact rH.2.1
  · rw [ne _ (by omega)]; exact rH.2.2.1
  · rw [ne _ (by omega)]; exact rH.2.2.2.1
  · rw [ne _ (by omega)]; exact rH.2.2.2.2.1
  · by_cases e : j = x
    · subst e
      rw [upd_v, if_pos rfl, sA_2, if_pos ⟨rfl, rfl⟩]
    · rw [ne _ (by omega), sA_2, if_neg (fun c => e c.2)]; exact rH.2.2.2.2.2.1 j hj
  · rw [ne _ (by omega)]; exact rH.2.2.2.2.2.2.1 j hj
  · have hj' : j < hL H := hj
    rw [ne _ (by omega)]; exact rH.2.2.2.2.2.2.2.1 j hj
  · rw [ne _ (by omega), ne _ (by omega)]; exact rH.2.2.2.2.2.2.2.2.1 j hj
  · rw [ne _ (by omega), ne _ (by omega), ne _ (by omega)]; exact rH.2.2.2.2.2.2.2.2.2 j hj
section
variable {b d t b8 : Nat} {H s : Blk} {c : Nat → Int32} {n p : Nat} {N : Nat → Int32} {l : Nat → Int64} {r : Nat → Nat → Int64} {m0 : Blk}
/-- an item's body does the same on both sides -/
def Jnt (b d t b8 : Nat) (l : Nat → Int64) (r : Nat → Nat → Int64) (m0 : Blk) (c : Nat → Int32) (n p : Nat) (H s : Blk) (N : Nat → Int32) (F : Hea → Option Hea) (G : Hea → Option (Int32 × Hea)) : Prop := ∃ o, goodO c n p o ∧ (∀ (h : Hea) (g : Blk) (it : Int32), Txt b d t h c n → CC c n p (-1) it g → COut b d t h c n it o (F (hcB b d t g H s h))) ∧ (∀ (h : Hea) (m : Blk), CR m0 c n p N m → ROut b8 l r h m0 c n o (G (blk b8 (mdL b8 m l r) h)))
theorem j_room (hd : d + 15 ≤ b) (hn : n ≤ 150) (tx : Tx8 m0 c n) (hp : p ≤ n) (st : ST 0 H s 0 T00 N) : Jnt b d t b8 l r m0 c n p H s N (fun h => f_X4_takeRoom h b d) (fun h => f_X8_takesRoom h b8) := by
  obtain ⟨p1, hp1⟩ := tkE_ge (c := c) hp
  obtain ⟨p2, hp2⟩ := tkE_ge (c := c) hp1
  obtain ⟨p3, hp3⟩ := tkE_ge (c := c) hp2
  have s1 := (tkS_le (c := c) hp1).2
  have s2 := (tkS_le (c := c) hp2).2
  by_cases o1 : okN c n (tkE c n p) 0 7
  · by_cases o2 : okN c n (tkE c n (tkE c n p)) 0 9
    · obtain ⟨x, hx7, ex⟩ := wi_n (hi := 7) (by omega) o1.2
      obtain ⟨y, hy9, ey⟩ := wi_n (hi := 9) (by omega) o2.2
      refine ⟨finO c n (tkE c n (tkE c n (tkE c n p))) (sA H 0 x (nI y)) s (upd N (7 + x) (nI y)), good_fin (by omega) hp3 (st.room (by omega) hy9), fun h g it hx a => COut_fin ?_, fun h m a => ROut_fin ?_⟩
      · obtain ⟨g1, e1, a1⟩ := g_advC (H := H) (s := s) hx hn hp a
        obtain ⟨g2, e2, a2⟩ := g_num_ok (H := H) (s := s) hx hn hp1 a1 o1
        obtain ⟨g3, e3, a3⟩ := g_num_ok (H := H) (s := s) hx hn hp2 a2 o2
        rw [ex] at e2
        rw [ey] at e3
        refine ⟨g3, ?_, a3⟩
        show f_X4_takeRoom _ b d = _
        rw [f_X4_takeRoom, rd_o hc_at, b_some, e1, b_some, rd_o hc_at, b_some, e2, b2_some, rd_o hc_at, b_some, e3, b2_some, rd_f6 hc_at, b_some, a3.2.2.2.2.2.1, if_pos rfl, hh_f2 (hc_ho hd), b_some, hc_w1 hd (by omega), b_some, b_some]
      · obtain ⟨m1, e1, a1, -⟩ := g8_behind (b := b8) (h := h) (l := l) (r := r) tx hn hp a
        obtain ⟨m2, e2, a2, v2⟩ := g8_num_ok (b := b8) (h := h) (l := l) (r := r) (k := 0) (i := 0) tx hn hp1 (by omega) rfl a1 o1
        obtain ⟨m3, e3, a3, v3⟩ := g8_num_ok (b := b8) (h := h) (l := l) (r := r) (k := 1) (i := 1) tx hn hp2 (by omega) rfl a2 o2
        have w0 : m3.2 15 0 = nI x := by rw [v3, upd_v, if_neg (by omega), v2, upd_v, if_pos rfl, ex]
        have w1 : m3.2 15 1 = nI y := by rw [v3, upd_v, if_pos rfl, ey]
        have x7 : (7 : Int32) + nI x = nI (7 + x) := nI_add 7 x
        refine ⟨sB m3 14 (upd N (7 + x) (nI y)), ?_, a3.new⟩
        show f_X8_takesRoom _ b8 = _
        rw [f_X8_takesRoom, md_o (blk_at _ _ _), b_some, e1, b_some, md_o (blk_at _ _ _), b_some, e2, b2_some, if_neg n10, md_o (blk_at _ _ _), b_some, e3, b2_some, if_neg n10, md_f25 (blk_at _ _ _), b_some, md_f26 (blk_at _ _ _), b_some, v8_0, b_some, b_some, v8_1, b_some, w0, w1, x7, md_w17 (by omega), sA_now, a3.2.1, b_some]
    · refine ⟨.inl (tkS c n (tkE c n (tkE c n p))), s2, fun h g it hx a => COut_f (H := H) (s := s) ?_, fun h m a => ROut_f ?_⟩
      · obtain ⟨g1, e1, a1⟩ := g_advC (H := H) (s := s) hx hn hp a
        obtain ⟨g2, e2, a2⟩ := g_num_ok (H := H) (s := s) hx hn hp1 a1 o1
        have e3 := g_num_no (b := b) (d := d) (t := t) (H := H) (s := s) (h := h) a2 o2
        refine ⟨sS g2 5 (nI (tkS c n (tkE c n (tkE c n p)))), ?_, rfl, a2.2.2.2.2.2.2⟩
        have F5 : (sS g2 5 (nI (tkS c n (tkE c n (tkE c n p))))).1 5 = nI (tkS c n (tkE c n (tkE c n p))) := rfl
        show f_X4_takeRoom _ b d = _
        rw [f_X4_takeRoom, rd_o hc_at, b_some, e1, b_some, rd_o hc_at, b_some, e2, b2_some, rd_o hc_at, b_some, e3, b2_some, rd_f6 hc_at, b_some, F5, if_neg (nI_n1 (by omega)), b_some]
      · obtain ⟨m1, e1, a1, -⟩ := g8_behind (b := b8) (h := h) (l := l) (r := r) tx hn hp a
        obtain ⟨m2, e2, a2, v2⟩ := g8_num_ok (b := b8) (h := h) (l := l) (r := r) (k := 0) (i := 0) tx hn hp1 (by omega) rfl a1 o1
        refine ⟨m2, ?_, a2.1, a2.2.2.1⟩
        show f_X8_takesRoom _ b8 = _
        rw [f_X8_takesRoom, md_o (blk_at _ _ _), b_some, e1, b_some, md_o (blk_at _ _ _), b_some, e2, b2_some, if_neg n10, md_o (blk_at _ _ _), b_some, g8_num_no a2 o2, b2_some, if_pos rfl]
  · refine ⟨.inl (tkS c n (tkE c n p)), s1, fun h g it hx a => COut_f (H := H) (s := s) ?_, fun h m a => ROut_f ?_⟩
    · obtain ⟨g1, e1, a1⟩ := g_advC (H := H) (s := s) hx hn hp a
      have e2 := g_num_no (b := b) (d := d) (t := t) (H := H) (s := s) (h := h) a1 o1
      have F5 : (sS g1 5 (nI (tkS c n (tkE c n p)))).1 5 = nI (tkS c n (tkE c n p)) := rfl
      refine ⟨sS g1 5 (nI (tkS c n (tkE c n p))), ?_, rfl, a1.2.2.2.2.2.2⟩
      show f_X4_takeRoom _ b d = _
      rw [f_X4_takeRoom, rd_o hc_at, b_some, e1, b_some, rd_o hc_at, b_some, e2, b2_some, rd_o hc_at, b_some, g_num_f (f := tkS c n (tkE c n p)) (by omega) F5, b2_some, rd_f6 hc_at, b_some, F5, if_neg (nI_n1 (by omega)), b_some]
    · obtain ⟨m1, e1, a1, -⟩ := g8_behind (b := b8) (h := h) (l := l) (r := r) tx hn hp a
      refine ⟨m1, ?_, a1.1, a1.2.2.1⟩
      show f_X8_takesRoom _ b8 = _
      rw [f_X8_takesRoom, md_o (blk_at _ _ _), b_some, e1, b_some, md_o (blk_at _ _ _), b_some, g8_num_no a1 o1, b2_some, if_pos rfl]
theorem j_heir (hd : d + 15 ≤ b) (hn : n ≤ 150) (tx : Tx8 m0 c n) (hp : p ≤ n) (st : ST 0 H s 0 T00 N) (h6 : hM H < 6) : Jnt b d t b8 l r m0 c n p H s N (fun h => f_X4_takeHeir h b d) (fun h => f_X8_takesHeir h b8) := by
  obtain ⟨p1, hp1⟩ := tkE_ge (c := c) hp
  obtain ⟨p2, hp2⟩ := tkE_ge (c := c) hp1
  obtain ⟨p3, hp3⟩ := tkE_ge (c := c) hp2
  obtain ⟨p4, hp4⟩ := tkE_ge (c := c) hp3
  have s1 := (tkS_le (c := c) hp1).2
  have s2 := (tkS_le (c := c) hp2).2
  have s3 := (tkS_le (c := c) hp3).2
  have n0 : N 0 = nI (hM H) := by rw [st.2.2.2.1.1]; exact st.1.1.1
  have n6 : ¬ nI (hM H) = 6 := nl6 (by omega) (by omega)
  have l0 : ∀ (h : Hea) (m : Blk), m.2 14 = N → ldI (blk b8 (mdL b8 m l r) h) 0 (b8 + 17) 0 = some (nI (hM H)) := fun h m e => by
    have q := md_m17 (i := 0) (blk_at b8 (mdL b8 m l r) h) (by omega)
    rw [nI_0, e, n0] at q
    exact q
  by_cases o1 : okN c n (tkE c n p) 0 5
  · by_cases o2 : okN c n (tkE c n (tkE c n p)) 0 7
    · by_cases o3 : okN c n (tkE c n (tkE c n (tkE c n p))) 0 9
      · obtain ⟨x, hx5, ex⟩ := wi_n (hi := 5) (by omega) o1.2
        obtain ⟨y, hy7, ey⟩ := wi_n (hi := 7) (by omega) o2.2
        obtain ⟨z, hz9, ez⟩ := wi_n (hi := 9) (by omega) o3.2
        have z6 : heirN N (hM H) (nI x) (nI y) (nI z) 6 = 0 := by
          simp only [heirN, upd, fillR]
          rw [if_neg (by omega), if_neg (by omega), if_neg (by omega), if_neg (by omega), if_neg (by omega), if_neg (by omega), st.2.2.2.2.2.1]; rfl
        refine ⟨finO c n (tkE c n (tkE c n (tkE c n (tkE c n p)))) (sS (sA (sA H 3 (hM H) (nI x)) 4 (hM H) (nI z)) 3 (nI (hM H + 1))) (sA (sA (sA (sA (sA s 0 (hM H) (nI y)) 1 (hM H) 0) 2 (hM H) 0) 3 (hM H) (-1)) 4 (hM H) 0) (heirN N (hM H) (nI x) (nI y) (nI z)), good_fin (by omega) hp4 (st.heir rfl h6 (by omega) hz9 (fun _ _ _ => rfl) z6), fun h g it hx a => COut_fin ?_, fun h m a => ROut_fin ?_⟩
        · obtain ⟨g1, e1, a1⟩ := g_advC (H := H) (s := s) hx hn hp a
          obtain ⟨g2, e2, a2⟩ := g_num_ok (H := H) (s := s) hx hn hp1 a1 o1
          obtain ⟨g3, e3, a3⟩ := g_num_ok (H := H) (s := s) hx hn hp2 a2 o2
          obtain ⟨g4, e4, a4⟩ := g_num_ok (H := H) (s := s) hx hn hp3 a3 o3
          rw [ex] at e2
          rw [ey] at e3
          rw [ez] at e4
          refine ⟨g4, ?_, a4⟩
          show f_X4_takeHeir _ b d = _
          rw [f_X4_takeHeir, rd_o hc_at, b_some, e1, b_some, rd_o hc_at, b_some, e2, b2_some, rd_o hc_at, b_some, e3, b2_some, rd_o hc_at, b_some, e4, b2_some, rd_f6 hc_at, b_some, a4.2.2.2.2.2.1, if_pos rfl, hh_o (hc_ho hd), b_some, hc_bring hd st.1.1.1 h6, b2_some, b_some]
        · obtain ⟨m1, e1, a1, -⟩ := g8_behind (b := b8) (h := h) (l := l) (r := r) tx hn hp a
          obtain ⟨m2, e2, a2, v2⟩ := g8_num_ok (b := b8) (h := h) (l := l) (r := r) (k := 0) (i := 0) tx hn hp1 (by omega) rfl a1 o1
          obtain ⟨m3, e3, a3, v3⟩ := g8_num_ok (b := b8) (h := h) (l := l) (r := r) (k := 1) (i := 1) tx hn hp2 (by omega) rfl a2 o2
          obtain ⟨m4, e4, a4, v4⟩ := g8_num_ok (b := b8) (h := h) (l := l) (r := r) (k := 2) (i := 2) tx hn hp3 (by omega) rfl a3 o3
          have w0 : m4.2 15 0 = nI x := by rw [v4, upd_v, if_neg (by omega), v3, upd_v, if_neg (by omega), v2, upd_v, if_pos rfl, ex]
          have w1 : m4.2 15 1 = nI y := by rw [v4, upd_v, if_neg (by omega), v3, upd_v, if_pos rfl, ey]
          have w2 : m4.2 15 2 = nI z := by rw [v4, upd_v, if_pos rfl, ez]
          refine ⟨sB m4 14 (heirN N (hM H) (nI x) (nI y) (nI z)), ?_, a4.new⟩
          show f_X8_takesHeir _ b8 = _
          rw [f_X8_takesHeir, md_f25 (blk_at _ _ _), b_some, l0 _ _ a.2.1, b_some, if_neg n6, md_o (blk_at _ _ _), b_some, e1, b_some, md_o (blk_at _ _ _), b_some, e2, b2_some, if_neg n10, md_o (blk_at _ _ _), b_some, e3, b2_some, if_neg n10, md_o (blk_at _ _ _), b_some, e4, b2_some, if_neg n10, md_f25 (blk_at _ _ _), b_some, md_f26 (blk_at _ _ _), b_some, v8_0, b_some, b_some, v8_1, b_some, b_some, v8_2, b_some, w0, w1, w2, new_heir (by rw [a4.2.1, n0]) h6, a4.2.1, b_some]
      · refine ⟨.inl (tkS c n (tkE c n (tkE c n (tkE c n p)))), s3, fun h g it hx a => COut_f (H := H) (s := s) ?_, fun h m a => ROut_f ?_⟩
        · obtain ⟨g1, e1, a1⟩ := g_advC (H := H) (s := s) hx hn hp a
          obtain ⟨g2, e2, a2⟩ := g_num_ok (H := H) (s := s) hx hn hp1 a1 o1
          obtain ⟨g3, e3, a3⟩ := g_num_ok (H := H) (s := s) hx hn hp2 a2 o2
          have e4 := g_num_no (b := b) (d := d) (t := t) (H := H) (s := s) (h := h) a3 o3
          refine ⟨sS g3 5 (nI (tkS c n (tkE c n (tkE c n (tkE c n p))))), ?_, rfl, a3.2.2.2.2.2.2⟩
          have F5 : (sS g3 5 (nI (tkS c n (tkE c n (tkE c n (tkE c n p)))))).1 5 = nI (tkS c n (tkE c n (tkE c n (tkE c n p)))) := rfl
          show f_X4_takeHeir _ b d = _
          rw [f_X4_takeHeir, rd_o hc_at, b_some, e1, b_some, rd_o hc_at, b_some, e2, b2_some, rd_o hc_at, b_some, e3, b2_some, rd_o hc_at, b_some, e4, b2_some, rd_f6 hc_at, b_some, F5, if_neg (nI_n1 (by omega)), b_some]
        · obtain ⟨m1, e1, a1, -⟩ := g8_behind (b := b8) (h := h) (l := l) (r := r) tx hn hp a
          obtain ⟨m2, e2, a2, v2⟩ := g8_num_ok (b := b8) (h := h) (l := l) (r := r) (k := 0) (i := 0) tx hn hp1 (by omega) rfl a1 o1
          obtain ⟨m3, e3, a3, v3⟩ := g8_num_ok (b := b8) (h := h) (l := l) (r := r) (k := 1) (i := 1) tx hn hp2 (by omega) rfl a2 o2
          refine ⟨m3, ?_, a3.1, a3.2.2.1⟩
          show f_X8_takesHeir _ b8 = _
          rw [f_X8_takesHeir, md_f25 (blk_at _ _ _), b_some, l0 _ _ a.2.1, b_some, if_neg n6, md_o (blk_at _ _ _), b_some, e1, b_some, md_o (blk_at _ _ _), b_some, e2, b2_some, if_neg n10, md_o (blk_at _ _ _), b_some, e3, b2_some, if_neg n10, md_o (blk_at _ _ _), b_some, g8_num_no a3 o3, b2_some, if_pos rfl]
    · refine ⟨.inl (tkS c n (tkE c n (tkE c n p))), s2, fun h g it hx a => COut_f (H := H) (s := s) ?_, fun h m a => ROut_f ?_⟩
      · obtain ⟨g1, e1, a1⟩ := g_advC (H := H) (s := s) hx hn hp a
        obtain ⟨g2, e2, a2⟩ := g_num_ok (H := H) (s := s) hx hn hp1 a1 o1
        have e3 := g_num_no (b := b) (d := d) (t := t) (H := H) (s := s) (h := h) a2 o2
        refine ⟨sS g2 5 (nI (tkS c n (tkE c n (tkE c n p)))), ?_, rfl, a2.2.2.2.2.2.2⟩
        have F5 : (sS g2 5 (nI (tkS c n (tkE c n (tkE c n p))))).1 5 = nI (tkS c n (tkE c n (tkE c n p))) := rfl
        show f_X4_takeHeir _ b d = _
        rw [f_X4_takeHeir, rd_o hc_at, b_some, e1, b_some, rd_o hc_at, b_some, e2, b2_some, rd_o hc_at, b_some, e3, b2_some, rd_o hc_at, b_some, g_num_f (f := tkS c n (tkE c n (tkE c n p))) (by omega) F5, b2_some, rd_f6 hc_at, b_some, F5, if_neg (nI_n1 (by omega)), b_some]
      · obtain ⟨m1, e1, a1, -⟩ := g8_behind (b := b8) (h := h) (l := l) (r := r) tx hn hp a
        obtain ⟨m2, e2, a2, v2⟩ := g8_num_ok (b := b8) (h := h) (l := l) (r := r) (k := 0) (i := 0) tx hn hp1 (by omega) rfl a1 o1
        refine ⟨m2, ?_, a2.1, a2.2.2.1⟩
        show f_X8_takesHeir _ b8 = _
        rw [f_X8_takesHeir, md_f25 (blk_at _ _ _), b_some, l0 _ _ a.2.1, b_some, if_neg n6, md_o (blk_at _ _ _), b_some, e1, b_some, md_o (blk_at _ _ _), b_some, e2, b2_some, if_neg n10, md_o (blk_at _ _ _), b_some, g8_num_no a2 o2, b2_some, if_pos rfl]
  · refine ⟨.inl (tkS c n (tkE c n p)), s1, fun h g it hx a => COut_f (H := H) (s := s) ?_, fun h m a => ROut_f ?_⟩
    · obtain ⟨g1, e1, a1⟩ := g_advC (H := H) (s := s) hx hn hp a
      have e2 := g_num_no (b := b) (d := d) (t := t) (H := H) (s := s) (h := h) a1 o1
      have F5 : (sS g1 5 (nI (tkS c n (tkE c n p)))).1 5 = nI (tkS c n (tkE c n p)) := rfl
      refine ⟨sS g1 5 (nI (tkS c n (tkE c n p))), ?_, rfl, a1.2.2.2.2.2.2⟩
      show f_X4_takeHeir _ b d = _
      rw [f_X4_takeHeir, rd_o hc_at, b_some, e1, b_some, rd_o hc_at, b_some, e2, b2_some, rd_o hc_at, b_some, g_num_f (f := tkS c n (tkE c n p)) (by omega) F5, b2_some, rd_o hc_at, b_some, g_num_f (f := tkS c n (tkE c n p)) (by omega) F5, b2_some, rd_f6 hc_at, b_some, F5, if_neg (nI_n1 (by omega)), b_some]
    · obtain ⟨m1, e1, a1, -⟩ := g8_behind (b := b8) (h := h) (l := l) (r := r) tx hn hp a
      refine ⟨m1, ?_, a1.1, a1.2.2.1⟩
      show f_X8_takesHeir _ b8 = _
      rw [f_X8_takesHeir, md_f25 (blk_at _ _ _), b_some, l0 _ _ a.2.1, b_some, if_neg n6, md_o (blk_at _ _ _), b_some, e1, b_some, md_o (blk_at _ _ _), b_some, g8_num_no a1 o1, b2_some, if_pos rfl]
end
