/-! ===== rows that read and write the heap ===== -/
theorem Kn.to {g : Gx} {s U : State} {H : Heap} {locs : List Loc} (hK : Kn g s) (hS : va_S (gA g) s.heap H locs) (hU : U.heap = H) (hW : s.WarmedH U.vm) : Kn g U := by
  obtain ⟨h1, h2, h3, h4, h5, h6, r1, r2, r3, r4, r5, h8, h13, h9, h10, h11, h12⟩ := hK
  refine ⟨va_K.moved hW.alike h1, va_AO.moved hW.alike h2, va_AO.moved hW.alike h3, va_AO.moved hW.alike h4, fun q hq => va_Nw.warmM hW (h5 q hq), ?_, vk_R.warm hW r1, vk_R.warm hW r2, vk_R.warm hW r3, vk_R.warm hW r4, vk_R.warm hW r5, ?_, ?_, ?_, h10, h11, ?_⟩
  · rw [hU]
    exact vk_S.moved hW.alike (h6.kept hS.2.1)
  · rw [hU]
    exact va_Z.moved hW.alike (h8.kept hS.2.1)
  · rw [hU]
    exact va_Zq.moved hW.alike (h13.kept hS.2.1)
  · rw [hU]
    exact va_X.moved hW.alike (h9.kept (hS.2.1 _ (by omega) (Nat.not_le.mpr h10)))
  · rw [hU]
    exact Nat.le_trans h12 hS.1
theorem one_P {D : va_G} {cl : List vw_C} {q : Nat × va_E} {H : Heap} (h : va_at D cl q H) : va_P D cl [q] H := fun k x hx => by
  have hz : k < 1 := (List.getElem?_eq_some_iff.mp hx).1
  rw [show k = 0 by omega] at hx
  cases hx
  exact h
theorem Hp.put {g : Gx} {h : Hea} {H H1 : Heap} {a : Nat} {c : Cel} (hP : Hp g h H) (ha : gB g ≤ a) (hat : va_at (gD g) vwCl (a, ce (gY g) c) H1) (hz : H1.size = H.size) (ho : ∀ q : Nat, q ≠ a → H1[q]? = H[q]?) : Hp g (hup h a c) H1 := by
  refine ⟨hz.trans hP.1, fun b d hb => ?_⟩
  by_cases e : b = a
  · subst e
    simp [hup] at hb
    subst hb
    exact ⟨ha, hat⟩
  · simp [hup, e] at hb
    obtain ⟨h1, h2⟩ := hP.2 b d hb
    exact ⟨h1, h2.kept (ho b e)⟩
theorem Hp.new {g : Gx} {h : Hea} {H H1 : Heap} {c : Cel} (hP : Hp g h H) (ha : gB g ≤ h.1) (hat : va_at (gD g) vwCl (h.1, ce (gY g) c) H1) (hz : H1.size = h.1 + 1) (ho : ∀ q : Nat, q < h.1 → H1[q]? = H[q]?) : Hp g (hnew h c) H1 := by
  refine ⟨hz, fun b d hb => ?_⟩
  by_cases e : b = h.1
  · subst e
    simp [hnew] at hb
    subst hb
    exact ⟨ha, hat⟩
  · simp [hnew, e] at hb
    obtain ⟨h1, h2⟩ := hP.2 b d hb
    have hl : b < H.size := h2.lt
    rw [hP.1] at hl
    exact ⟨h1, h2.kept (ho b hl)⟩
theorem inR_in {i : Int32} {n : Nat} (h : inR i n = true) : vp_in i n := by
  simp only [inR, Bool.and_eq_true, decide_eq_true_eq] at h
  intro q
  rcases q with q | q
  · exact absurd h.1 (Int32.not_le.mpr q)
  · omega
def CKd (ci : Nat) (C : String) (T : u_T) (N : Nat) (ty : Nat → FieldType) : Prop := vwCl[ci]? = some (C, T, N) ∧ (∀ w ∈ u_ws C T N, w ∈ tb) ∧ (∀ k, k < N → parseFieldDescriptor (T k).2.2.1 = some (ty k)) ∧ (∀ a, a < N → ∀ b, b < N → a ≠ b → (T a).2.1 ≠ (T b).2.1)
/-- a field that the pool's entry idx of the class own names: the k-th of class ci -/
def FL (own : String) (idx ci k : Nat) : Prop := ∃ C T N ty, CKd ci C T N ty ∧ k < N ∧ Cond.fieldLink own idx (T k).1 (T k).2.1 (T k).2.2.1 ∈ tb
/-- the same, for a store: not final, or (fin) final and the class's own -/
def FP (own : String) (idx ci k : Nat) (fin : Bool) (ft : FieldType) : Prop := ∃ C T N ty, CKd ci C T N ty ∧ k < N ∧ Cond.fieldLink own idx (T k).1 (T k).2.1 (T k).2.2.1 ∈ tb ∧ (T k).2.2.2 = fin ∧ (fin = true → (T k).1 = own) ∧ parseFieldDescriptor (T k).2.2.1 = some ft
theorem gV_some {h : Hea} {a ci k : Nat} {v : Value} (e : gV h a ci k = some v) : ∃ fs, h.2 a = some (cO ci fs) ∧ fs[k]? = some v := by
  unfold gV at e
  split at e
  · next c fs hc =>
    split at e
    · next hci => subst hci; exact ⟨fs, hc, e⟩
    · cases e
  · cases e
theorem gI_some {h : Hea} {a ci k : Nat} {x : Int32} (e : gI h a ci k = some x) : gV h a ci k = some (.int x) := by
  unfold gI at e
  split at e
  · next y hy => cases e; exact hy
  · cases e
theorem gJ_some {h : Hea} {a ci k : Nat} {x : Int64} (e : gJ h a ci k = some x) : gV h a ci k = some (.long x) := by
  unfold gJ at e
  split at e
  · next y hy => cases e; exact hy
  · cases e
theorem gR_some {h : Hea} {a ci k : Nat} {x : Nat} (e : gR h a ci k = some x) : gV h a ci k = some (.ref x) := by
  unfold gR at e
  split at e
  · next y hy => cases e; exact hy
  · cases e
theorem pV_some {h h' : Hea} {a ci k : Nat} {v : Value} (e : pV h a ci k v = some h') : ∃ fs, h.2 a = some (cO ci fs) ∧ k < fs.length ∧ h' = hup h a (cO ci (fs.set k v)) := by
  unfold pV at e
  split at e
  · next c fs hc =>
    split at e
    · next hci => obtain ⟨rfl, hk⟩ := hci; cases e; exact ⟨fs, hc, hk, rfl⟩
    · cases e
  · cases e
theorem isO_some {h : Hea} {a ci : Nat} {u : Unit} (e : isO h a ci = some u) : ∃ fs, h.2 a = some (cO ci fs) := by
  unfold isO at e
  split at e
  · next c fs hc =>
    split at e
    · next hci => subst hci; exact ⟨fs, hc⟩
    · cases e
  · cases e
theorem ldI_some {h : Hea} {kd a : Nat} {i x : Int32} (e : ldI h kd a i = some x) : ∃ n f, h.2 a = some (cI kd n f) ∧ inR i n = true ∧ x = f i.toNatClampNeg := by
  unfold ldI at e
  split at e
  · next k n f hc =>
    split at e
    · next hci => obtain ⟨rfl, hk⟩ := hci; cases e; exact ⟨n, f, hc, hk, rfl⟩
    · cases e
  · cases e
theorem ldJ_some {h : Hea} {a : Nat} {i : Int32} {x : Int64} (e : ldJ h a i = some x) : ∃ n f, h.2 a = some (cJ n f) ∧ inR i n = true ∧ x = f i.toNatClampNeg := by
  unfold ldJ at e
  split at e
  · next k n f hc =>
    split at e
    · next hci => obtain ⟨rfl, hk⟩ := hci; cases e; exact ⟨n, f, hc, hk, rfl⟩
    · cases e
  · cases e
theorem ldR_some {h : Hea} {kd a : Nat} {i : Int32} {x : Nat} (e : ldR h kd a i = some x) : ∃ n f, h.2 a = some (cR kd n f) ∧ inR i n = true ∧ f i.toNatClampNeg = some x := by
  unfold ldR at e
  split at e
  · next k n f hc =>
    split at e
    · next hci => obtain ⟨rfl, hk⟩ := hci; exact ⟨n, f, hc, hk, e⟩
    · cases e
  · cases e
theorem stI_some {h h' : Hea} {kd a : Nat} {i x : Int32} (e : stI h kd a i x = some h') : ∃ n f, h.2 a = some (cI kd n f) ∧ inR i n = true ∧ h' = hup h a (cI kd n (upd f i.toNatClampNeg x)) := by
  unfold stI at e
  split at e
  · next k n f hc =>
    split at e
    · next hci => obtain ⟨rfl, hk⟩ := hci; cases e; exact ⟨n, f, hc, hk, rfl⟩
    · cases e
  · cases e
theorem stB_some {h h' : Hea} {a : Nat} {i x : Int32} (e : stB h a i x = some h') : ∃ n f, h.2 a = some (cI 1 n f) ∧ inR i n = true ∧ h' = hup h a (cI 1 n (upd f i.toNatClampNeg (vp_nar .byte x))) := by
  unfold stB at e
  split at e
  · next k n f hc =>
    split at e
    · next hci => obtain ⟨rfl, hk⟩ := hci; cases e; exact ⟨n, f, hc, hk, rfl⟩
    · cases e
  · cases e
theorem stZ_some {h h' : Hea} {a : Nat} {i x : Int32} (e : stZ h a i x = some h') : ∃ n f, h.2 a = some (cI 2 n f) ∧ inR i n = true ∧ h' = hup h a (cI 2 n (upd f i.toNatClampNeg (vp_nar .boolean x))) := by
  unfold stZ at e
  split at e
  · next k n f hc =>
    split at e
    · next hci => obtain ⟨rfl, hk⟩ := hci; cases e; exact ⟨n, f, hc, hk, rfl⟩
    · cases e
  · cases e
theorem stJ_some {h h' : Hea} {a : Nat} {i : Int32} {x : Int64} (e : stJ h a i x = some h') : ∃ n f, h.2 a = some (cJ n f) ∧ inR i n = true ∧ h' = hup h a (cJ n (vp_updL f i.toNatClampNeg x)) := by
  unfold stJ at e
  split at e
  · next k n f hc =>
    split at e
    · next hci => obtain ⟨rfl, hk⟩ := hci; cases e; exact ⟨n, f, hc, hk, rfl⟩
    · cases e
  · cases e
theorem stR_some {h h' : Hea} {kd ci a x : Nat} {i : Int32} (e : stR h kd ci a i x = some h') : ∃ n f fs, h.2 a = some (cR kd n f) ∧ h.2 x = some (cO ci fs) ∧ inR i n = true ∧ h' = hup h a (cR kd n (va_up f i.toNatClampNeg (some x))) := by
  unfold stR at e
  split at e
  · next k n f c fs hc hx =>
    split at e
    · next hci => obtain ⟨rfl, rfl, hk⟩ := hci; cases e; exact ⟨n, f, fs, hc, hx, hk, rfl⟩
    · cases e
  · cases e
theorem cpI_some {h h' : Hea} {a b : Nat} {n : Int32} (e : cpI h a b n = some h') : ∃ n0 n1 f g, h.2 a = some (cI 0 n0 f) ∧ h.2 b = some (cI 0 n1 g) ∧ 0 ≤ n ∧ n.toNatClampNeg ≤ n0 ∧ n.toNatClampNeg ≤ n1 ∧ h' = hup h b (cI 0 n1 (va_cpy f g 0 0 n.toNatClampNeg)) := by
  unfold cpI at e
  split at e
  · next k n0 f k1 n1 g hc hx =>
    split at e
    · next hci => obtain ⟨rfl, rfl, h1, h2, h3⟩ := hci; cases e; exact ⟨n0, n1, f, g, hc, hx, h1, h2, h3, rfl⟩
    · cases e
  · cases e
theorem cpJ_some {h h' : Hea} {a b : Nat} {n : Int32} (e : cpJ h a b n = some h') : ∃ n0 n1 f g, h.2 a = some (cJ n0 f) ∧ h.2 b = some (cJ n1 g) ∧ 0 ≤ n ∧ n.toNatClampNeg ≤ n0 ∧ n.toNatClampNeg ≤ n1 ∧ h' = hup h b (cJ n1 (va_cpy f g 0 0 n.toNatClampNeg)) := by
  unfold cpJ at e
  split at e
  · next k n0 f k1 n1 g hc hx =>
    split at e
    · next hci => obtain ⟨rfl, rfl, h1, h2, h3⟩ := hci; cases e; exact ⟨n0, n1, f, g, hc, hx, h1, h2, h3, rfl⟩
    · cases e
  · cases e
theorem alen_some {h : Hea} {kd a : Nat} {x : Int32} (e : alen h kd a = some x) : ∃ n q, h.2 a = some (.inl (kd, n, q)) ∧ n < 2147483648 ∧ x = Int32.ofNat n := by
  unfold alen at e
  split at e
  · next k n q hc =>
    split at e
    · next hci => obtain ⟨rfl, hk⟩ := hci; cases e; exact ⟨n, q, hc, hk, rfl⟩
    · cases e
  · cases e
section
variable {g : Gx} {own : String} {cc : ByteArray} {Y : Ym} {res : Option Value × Hea} {pc : Nat} {L : List (Nat × Value)} {st : List Value} {h : Hea} {ck cn : Nat} {ρ : Type} {o : ρ}
theorem aw_gV {ci k idx a : Nat} {v : Value} (hF : FL own idx ci k) (hd : decode cc pc = .ok (.getfield idx, 3)) (hv : gV h a ci k = some v) (kk : AW g own cc Y res (pc + 3) L (v :: st) h ck cn) : AW g own cc Y res pc L (.ref a :: st) h ck cn := by
  intro l p e s m args below meth c C H locs ls hP hS hl
  obtain ⟨C', T, N, ty, ⟨h1, h2, h3, h4⟩, hk, hw⟩ := hF
  obtain ⟨fs, hc, hfs⟩ := gV_some hv
  exact va_get (ws := [(a, .inr (ci, fs))]) C.1 C.2.1 C.2.2.2.2.2.2.2.1 h2 C.2.2.2.2.2.2.1 C.2.2.2.2.2.2.2.2.1 (one_P (hP.2 a _ hc).2) 0 rfl h1 k hk (C.2.2.2.2.2.2.2.1 _ hw) (fun _ q => q) hfs hd (kk l p e s m args below meth c C H locs ls hP hS hl)
theorem aw_gI {ci k idx a : Nat} {K : Int32 → Option ρ} (hF : FL own idx ci k) (hd : decode cc pc = .ok (.getfield idx, 3)) (hf : (gI h a ci k).bind K = some o) (kk : ∀ x, K x = some o → AW g own cc Y res (pc + 3) L (.int x :: st) h ck cn) : AW g own cc Y res pc L (.ref a :: st) h ck cn := by
  obtain ⟨x, h1, h2⟩ := bnd hf
  exact aw_gV hF hd (gI_some h1) (kk x h2)
theorem aw_gJ {ci k idx a : Nat} {K : Int64 → Option ρ} (hF : FL own idx ci k) (hd : decode cc pc = .ok (.getfield idx, 3)) (hf : (gJ h a ci k).bind K = some o) (kk : ∀ x, K x = some o → AW g own cc Y res (pc + 3) L (.long x :: st) h ck cn) : AW g own cc Y res pc L (.ref a :: st) h ck cn := by
  obtain ⟨x, h1, h2⟩ := bnd hf
  exact aw_gV hF hd (gJ_some h1) (kk x h2)
theorem aw_gR {ci k idx a : Nat} {K : Nat → Option ρ} (hF : FL own idx ci k) (hd : decode cc pc = .ok (.getfield idx, 3)) (hf : (gR h a ci k).bind K = some o) (kk : ∀ x, K x = some o → AW g own cc Y res (pc + 3) L (.ref x :: st) h ck cn) : AW g own cc Y res pc L (.ref a :: st) h ck cn := by
  obtain ⟨x, h1, h2⟩ := bnd hf
  exact aw_gV hF hd (gR_some h1) (kk x h2)
theorem aw_pV {ci k idx a : Nat} {fin : Bool} {ft : FieldType} {v : Value} {h' : Hea} (hF : FP own idx ci k fin ft) (hd : decode cc pc = .ok (.putfield idx, 3)) (hn : narrow ft v = v) (hfit : fits ft v = true) (hi0 : fin = true → Y.2.2.1 = "<init>") (hv : pV h a ci k v = some h') (kk : AW g own cc Y res (pc + 3) L st h' ck cn) : AW g own cc Y res pc L (v :: .ref a :: st) h ck cn := by
  intro l p e s m args below meth c C H locs ls hP hS hl
  obtain ⟨C', T, N, ty, ⟨hc1, hin, hty, hnm⟩, hk, hw, hfin, hown2, hdd⟩ := hF
  obtain ⟨fs, hc, hlen, rfl⟩ := pV_some hv
  have hts := C.2.2.2.2.2.2.2.1
  have hK := C.2.2.2.2.2.2.2.2.1
  have hap := va_apart (own := own) hts hin ty hty hnm hK hc1
  obtain ⟨hB, r, h1, cell, q1, q2, q3, q4⟩ := hP.2 a _ hc
  have hr : r = (C', T, N) := Option.some.inj (h1.symm.trans hc1)
  subst hr
  obtain ⟨hSl, hfc, kC, hkC, hkind⟩ := hK.1 ci _ hc1
  obtain ⟨cf, kf, fi, f, hi, hsl⟩ := hSl k hk
  have hlay := hts _ (hin _ (u_in_lay hk))
  unfold u_lay at hlay
  have hst := (u_facts hfc hkC (u_lays hts hin hk) hi).1
  have fin2 : ∀ H' : Heap, H'[a]? = some (cell.setSlot f.slot v) → H'.size = H.size → (∀ q, q ≠ a → H'[q]? = H[q]?) → W p l e (Yr Y) s m args below meth c H' (locs ++ [⟨a, f.slot⟩]) ck cn (MQ below (MQc g res.1 res.2) args s Y.2.2.2.2.1 Y.2.2.2.2.2 (gA g)) (F0 m (pc + 3) ls st) := by
    intro H' e1 e2 e3
    refine kk l p e s m args below meth c C H' _ ls (hP.put hB ⟨_, hc1, t_OB.to (V := updV (vp_V fs) k v) ⟨_, e1, q2, q3, ?_⟩ (fun j _ => vp_updV_set hlen v j)⟩ e2 e3) (hS.put e2 e3 hB) hl
    rw [hsl]
    exact t_set q4 hap hk v
  cases fin with
  | false =>
    rw [if_neg (by rw [hfin]; decide)] at hlay
    have h6 := u_store hfc hkC hkind hlay hi hdd hn hfit
    exact W.putK C.1 C.2.1 (f := f) ⟨C.2.2.2.2.2.2.1, hts _ hw, ⟨_, _, _, hi⟩, hst⟩ (by rw [q2]; exact h6) q1 q3 (by rw [hsl]; exact k2_hasslot (q4 k hk)) rfl rfl hd fin2
  | true =>
    rw [if_pos hfin] at hlay
    have hcf : m.cls = cf := by
      obtain ⟨_, _, c', _, _, _, -, -, hf', -, -, -, hown3, -⟩ := Cond.laysFinal_spec hlay
      have e1 : c' = cf := by have := hi.symm.trans hf'; simp at this; exact this.1.symm
      rw [hown2 rfl] at hown3
      rw [← e1]; exact Option.some.inj (C.2.2.2.2.2.2.1.symm.trans hown3)
    have h6 := u_fits hfc hkC hkind (Or.inr hlay) hi hdd hn hfit
    exact W.putFinK C.1 C.2.1 C.2.2.2.2.2.2.1 (hts _ hw) hi hst hcf (C.2.2.2.2.2.1.trans (hi0 rfl)) (by rw [q2]; exact h6) q1 q3 (by rw [hsl]; exact k2_hasslot (q4 k hk)) rfl rfl hd fin2
theorem aw_pI {ci k idx a : Nat} {x : Int32} {K : Hea → Option ρ} (hF : FP own idx ci k false .int) (hd : decode cc pc = .ok (.putfield idx, 3)) (hf : (pI h a ci k x).bind K = some o) (kk : ∀ h', K h' = some o → AW g own cc Y res (pc + 3) L st h' ck cn) : AW g own cc Y res pc L (.int x :: .ref a :: st) h ck cn := by
  obtain ⟨h', h1, h2⟩ := bnd hf
  exact aw_pV hF hd rfl rfl (fun q => by cases q) h1 (kk h' h2)
theorem aw_pJ {ci k idx a : Nat} {x : Int64} {K : Hea → Option ρ} (hF : FP own idx ci k false .long) (hd : decode cc pc = .ok (.putfield idx, 3)) (hf : (pJ h a ci k x).bind K = some o) (kk : ∀ h', K h' = some o → AW g own cc Y res (pc + 3) L st h' ck cn) : AW g own cc Y res pc L (.long x :: .ref a :: st) h ck cn := by
  obtain ⟨h', h1, h2⟩ := bnd hf
  exact aw_pV hF hd rfl rfl (fun q => by cases q) h1 (kk h' h2)
theorem aw_pR {ci k idx a x : Nat} {fin : Bool} {ft : FieldType} {K : Hea → Option ρ} (hF : FP own idx ci k fin ft) (hd : decode cc pc = .ok (.putfield idx, 3)) (hn : narrow ft (.ref x) = .ref x) (hfit : fits ft (.ref x) = true) (hi0 : fin = true → Y.2.2.1 = "<init>") (hf : (pR h a ci k x).bind K = some o) (kk : ∀ h', K h' = some o → AW g own cc Y res (pc + 3) L st h' ck cn) : AW g own cc Y res pc L (.ref x :: .ref a :: st) h ck cn := by
  obtain ⟨h', h1, h2⟩ := bnd hf
  exact aw_pV hF hd hn hfit hi0 h1 (kk h' h2)
theorem aw_ldI {a : Nat} {i : Int32} {K : Int32 → Option ρ} (hd : decode cc pc = .ok (.iaload, 1)) (hf : (ldI h 0 a i).bind K = some o) (kk : ∀ x, K x = some o → AW g own cc Y res (pc + 1) L (.int x :: st) h ck cn) : AW g own cc Y res pc L (.int i :: .ref a :: st) h ck cn := by
  obtain ⟨x, h1, h2⟩ := bnd hf
  obtain ⟨n, f, hc, hin, rfl⟩ := ldI_some h1
  intro l p e s m args below meth c C H locs ls hP hS hl
  exact va_iald (ws := [(a, .inl (gY g 0, n, .inl f))]) C.1 C.2.1 C.2.2.2.2.2.2.2.2.1 (one_P (hP.2 a _ hc).2) 0 0 rfl rfl (inR_in hin) hd (kk _ h2 l p e s m args below meth c C H locs ls hP hS hl)
theorem aw_ldB {a : Nat} {i : Int32} {K : Int32 → Option ρ} (hd : decode cc pc = .ok (.baload, 1)) (hf : (ldI h 1 a i).bind K = some o) (kk : ∀ x, K x = some o → AW g own cc Y res (pc + 1) L (.int x :: st) h ck cn) : AW g own cc Y res pc L (.int i :: .ref a :: st) h ck cn := by
  obtain ⟨x, h1, h2⟩ := bnd hf
  obtain ⟨n, f, hc, hin, rfl⟩ := ldI_some h1
  intro l p e s m args below meth c C H locs ls hP hS hl
  exact va_bald (ws := [(a, .inl (gY g 1, n, .inl f))]) C.1 C.2.1 C.2.2.2.2.2.2.2.2.1 (one_P (hP.2 a _ hc).2) 0 1 rfl rfl (inR_in hin) hd (kk _ h2 l p e s m args below meth c C H locs ls hP hS hl)
theorem aw_ldZ {a : Nat} {i : Int32} {K : Int32 → Option ρ} (hd : decode cc pc = .ok (.baload, 1)) (hf : (ldI h 2 a i).bind K = some o) (kk : ∀ x, K x = some o → AW g own cc Y res (pc + 1) L (.int x :: st) h ck cn) : AW g own cc Y res pc L (.int i :: .ref a :: st) h ck cn := by
  obtain ⟨x, h1, h2⟩ := bnd hf
  obtain ⟨n, f, hc, hin, rfl⟩ := ldI_some h1
  intro l p e s m args below meth c C H locs ls hP hS hl
  exact va_zald (ws := [(a, .inl (gY g 2, n, .inl f))]) C.1 C.2.1 C.2.2.2.2.2.2.2.2.1 (one_P (hP.2 a _ hc).2) 0 2 rfl rfl (inR_in hin) hd (kk _ h2 l p e s m args below meth c C H locs ls hP hS hl)
theorem aw_ldJ {a : Nat} {i : Int32} {K : Int64 → Option ρ} (hd : decode cc pc = .ok (.laload, 1)) (hf : (ldJ h a i).bind K = some o) (kk : ∀ x, K x = some o → AW g own cc Y res (pc + 1) L (.long x :: st) h ck cn) : AW g own cc Y res pc L (.int i :: .ref a :: st) h ck cn := by
  obtain ⟨x, h1, h2⟩ := bnd hf
  obtain ⟨n, f, hc, hin, rfl⟩ := ldJ_some h1
  intro l p e s m args below meth c C H locs ls hP hS hl
  exact va_lald (ws := [(a, .inl (gY g 3, n, .inr (.inl f)))]) C.1 C.2.1 C.2.2.2.2.2.2.2.2.1 (one_P (hP.2 a _ hc).2) 0 3 rfl rfl (inR_in hin) hd (kk _ h2 l p e s m args below meth c C H locs ls hP hS hl)
theorem aw_ldR {kd a : Nat} {i : Int32} {E : String} {K : Nat → Option ρ} (ht : ∀ cy : Nat → ClassId, (tysOf cy)[kd]? = some (cy kd, .object E)) (hd : decode cc pc = .ok (.aaload, 1)) (hf : (ldR h kd a i).bind K = some o) (kk : ∀ x, K x = some o → AW g own cc Y res (pc + 1) L (.ref x :: st) h ck cn) : AW g own cc Y res pc L (.int i :: .ref a :: st) h ck cn := by
  obtain ⟨x, h1, h2⟩ := bnd hf
  obtain ⟨n, f, hc, hin, hx⟩ := ldR_some h1
  intro l p e s m args below meth c C H locs ls hP hS hl
  refine va_aldq (ws := [(a, .inl (gY g kd, n, .inr (.inr (.inr (.inr f)))))]) C.1 C.2.1 C.2.2.2.2.2.2.2.2.1 (one_P (hP.2 a _ hc).2) 0 kd rfl (ht _) (inR_in hin) hd ?_
  rw [hx]
  exact kk _ h2 l p e s m args below meth c C H locs ls hP hS hl
theorem aw_stI {a : Nat} {i x : Int32} {K : Hea → Option ρ} (hd : decode cc pc = .ok (.iastore, 1)) (hf : (stI h 0 a i x).bind K = some o) (kk : ∀ h', K h' = some o → AW g own cc Y res (pc + 1) L st h' ck cn) : AW g own cc Y res pc L (.int x :: .int i :: .ref a :: st) h ck cn := by
  obtain ⟨h', h1, h2⟩ := bnd hf
  obtain ⟨n, f, hc, hin, rfl⟩ := stI_some h1
  intro l p e s m args below meth c C H locs ls hP hS hl
  have hB := (hP.2 a _ hc).1
  refine W.iast C.1 C.2.1 (hP.2 a _ hc).2 ((C.2.2.2.2.2.2.2.2.1.2 0 _ rfl).1 n (fun j => .int (f j))) (fun q => by cases q) (by show ¬ (i < 0 ∨ (arrV _ _ _).slots.size ≤ _); rw [arrV_size]; exact inR_in hin) rfl rfl hd fun H1 e1 z oq => ?_
  refine kk _ h2 l p e s m args below meth c C H1 _ ls (hP.put hB ?_ z oq) (hS.put z oq hB) hl
  show H1[a]? = some (vp_cell _ _)
  rw [e1, vp_cell_i, vp_cell_i, arrV_store]
  congr 2
  funext q
  by_cases hq : q = i.toNatClampNeg
  · subst hq
    simp [updV, upd]
  · simp [updV, upd, hq]
theorem aw_stB {a : Nat} {i x : Int32} {K : Hea → Option ρ} (hd : decode cc pc = .ok (.bastore, 1)) (hf : (stB h a i x).bind K = some o) (kk : ∀ h', K h' = some o → AW g own cc Y res (pc + 1) L st h' ck cn) : AW g own cc Y res pc L (.int x :: .int i :: .ref a :: st) h ck cn := by
  obtain ⟨h', h1, h2⟩ := bnd hf
  obtain ⟨n, f, hc, hin, rfl⟩ := stB_some h1
  intro l p e s m args below meth c C H locs ls hP hS hl
  have hB := (hP.2 a _ hc).1
  refine W.bast C.1 C.2.1 (hP.2 a _ hc).2 ((C.2.2.2.2.2.2.2.2.1.2 1 _ rfl).1 n (fun j => .int (f j))) (fun q => by cases q) (by show ¬ (i < 0 ∨ (arrV _ _ _).slots.size ≤ _); rw [arrV_size]; exact inR_in hin) rfl rfl hd fun H1 e1 z oq => ?_
  refine kk _ h2 l p e s m args below meth c C H1 _ ls (hP.put hB ?_ z oq) (hS.put z oq hB) hl
  show H1[a]? = some (vp_cell _ _)
  rw [e1, vp_cell_i, vp_cell_i, arrV_store]
  congr 2
  funext q
  by_cases hq : q = i.toNatClampNeg
  · subst hq
    simp [updV, upd, vp_nar]
    try rfl
  · simp [updV, upd, hq]
theorem aw_stZ {a : Nat} {i x : Int32} {K : Hea → Option ρ} (hd : decode cc pc = .ok (.bastore, 1)) (hf : (stZ h a i x).bind K = some o) (kk : ∀ h', K h' = some o → AW g own cc Y res (pc + 1) L st h' ck cn) : AW g own cc Y res pc L (.int x :: .int i :: .ref a :: st) h ck cn := by
  obtain ⟨h', h1, h2⟩ := bnd hf
  obtain ⟨n, f, hc, hin, rfl⟩ := stZ_some h1
  intro l p e s m args below meth c C H locs ls hP hS hl
  have hB := (hP.2 a _ hc).1
  refine W.zast C.1 C.2.1 (hP.2 a _ hc).2 ((C.2.2.2.2.2.2.2.2.1.2 2 _ rfl).1 n (fun j => .int (f j))) (fun q => by cases q) (by show ¬ (i < 0 ∨ (arrV _ _ _).slots.size ≤ _); rw [arrV_size]; exact inR_in hin) rfl rfl hd fun H1 e1 z oq => ?_
  refine kk _ h2 l p e s m args below meth c C H1 _ ls (hP.put hB ?_ z oq) (hS.put z oq hB) hl
  show H1[a]? = some (vp_cell _ _)
  rw [e1, vp_cell_i, vp_cell_i, arrV_store]
  congr 2
  funext q
  by_cases hq : q = i.toNatClampNeg
  · subst hq
    simp [updV, upd, vp_nar]
    try rfl
  · simp [updV, upd, hq]
theorem aw_stJ {a : Nat} {i : Int32} {x : Int64} {K : Hea → Option ρ} (hd : decode cc pc = .ok (.lastore, 1)) (hf : (stJ h a i x).bind K = some o) (kk : ∀ h', K h' = some o → AW g own cc Y res (pc + 1) L st h' ck cn) : AW g own cc Y res pc L (.long x :: .int i :: .ref a :: st) h ck cn := by
  obtain ⟨h', h1, h2⟩ := bnd hf
  obtain ⟨n, f, hc, hin, rfl⟩ := stJ_some h1
  intro l p e s m args below meth c C H locs ls hP hS hl
  have hB := (hP.2 a _ hc).1
  refine W.last C.1 C.2.1 (hP.2 a _ hc).2 ((C.2.2.2.2.2.2.2.2.1.2 3 _ rfl).1 n (fun j => .long (f j))) (fun q => by cases q) (by show ¬ (i < 0 ∨ (arrV _ _ _).slots.size ≤ _); rw [arrV_size]; exact inR_in hin) rfl rfl hd fun H1 e1 z oq => ?_
  refine kk _ h2 l p e s m args below meth c C H1 _ ls (hP.put hB ?_ z oq) (hS.put z oq hB) hl
  show H1[a]? = some (vp_cell _ _)
  rw [e1, vp_cell_l, vp_cell_l, arrV_store]
  congr 2
  funext q
  by_cases hq : q = i.toNatClampNeg
  · subst hq
    simp [updV, vp_updL]
  · simp [updV, vp_updL, hq]
theorem aw_stR {kd ci a x : Nat} {i : Int32} {E : String} {T : u_T} {N : Nat} {K : Hea → Option ρ} (ht : ∀ cy : Nat → ClassId, (tysOf cy)[kd]? = some (cy kd, .object E)) (hE : vwCl[ci]? = some (E, T, N)) (hd : decode cc pc = .ok (.aastore, 1)) (hf : (stR h kd ci a i x).bind K = some o) (kk : ∀ h', K h' = some o → AW g own cc Y res (pc + 1) L st h' ck cn) : AW g own cc Y res pc L (.ref x :: .int i :: .ref a :: st) h ck cn := by
  obtain ⟨h', h1, h2⟩ := bnd hf
  obtain ⟨n, f, fs, hc, hx, hin, rfl⟩ := stR_some h1
  intro l p e s m args below meth c C H locs ls hP hS hl
  have hB := (hP.2 a _ hc).1
  have hK := C.2.2.2.2.2.2.2.2.1
  have hin2 := inR_in hin
  have hlt : i.toNatClampNeg < n := Nat.not_le.mp fun q => hin2 (Or.inr q)
  have h0 : ¬ i < 0 := fun q => hin2 (Or.inl q)
  obtain ⟨r', hr', cellV, g1, g2, g3, -⟩ := (hP.2 x _ hx).2
  have hcls := (hK.1 ci _ hE).2
  obtain ⟨kA, comp, k1, k2, k3, -⟩ := (hK.2 kd _ (ht _)).2
  have hcomp : comp = (gD g).1 ci := Option.some.inj (k3.symm.trans hcls.1)
  subst hcomp
  obtain ⟨kC, hkC, -⟩ := hcls.2
  refine W.aast C.1 C.2.1 (hP.2 a _ hc).2 (fun q h => by cases h) (fun h => by cases h) k1 k2 rfl hkC ⟨h0, by show _ < (arrV _ _ _).slots.size; rw [arrV_size]; exact hlt⟩ g1 (fun q h => by rw [g3] at h; cases h) (by rw [g2]; exact hkC) (by rw [g2]; exact va_assign hcls) rfl rfl hd fun H1 e1 z oq => ?_
  refine kk _ h2 l p e s m args below meth c C H1 _ ls (hP.put hB ?_ z oq) (hS.put z oq hB) hl
  show H1[a]? = some (vp_cell _ _)
  rw [e1, vp_cell_q, vp_cell_q, arrV_store]
  congr 2
  funext q
  by_cases hq : q = i.toNatClampNeg
  · subst hq
    simp [updV, va_up, va_rf]
  · simp [updV, va_up, hq]
end
