/-! ===== arraycopy, lengths, Math, new cells ===== -/
section
variable {g : Gx} {own : String} {cc : ByteArray} {Y : Ym} {res : Option Value × Hea} {pc : Nat} {L : List (Nat × Value)} {st : List Value} {h : Hea} {ck cn : Nat} {ρ : Type} {o : ρ}
/-- the words of System.arraycopy -/
def WC (own : String) (idx : Nat) : Prop := Cond.methodLink own idx arraycopyName ∈ tb ∧ Cond.native arraycopyName ∈ tb ∧ Cond.static arraycopyName ∈ tb ∧ Cond.initialized "java/lang/System" ∈ tb
theorem nn0 {z : Int32} (hz : ¬ z < 0) : z.toInt = (z.toNatClampNeg : Int) := by
  have hz0 : (0 : Int) ≤ z.toInt := by
    have := Int32.not_lt.mp hz
    simpa using Int32.le_iff_toInt_le.mp this
  show z.toInt = ((z.toInt.toNat : Nat) : Int)
  omega
theorem aw_cpI {idx a b : Nat} {n : Int32} {K : Hea → Option ρ} (hw : WC own idx) (hd : decode cc pc = .ok (.invokestatic idx, 3)) (hdd : 1 ≤ Y.2.2.2.1) (hcat : (st.map fun v => v.category).sum ≤ 8) (hf : (cpI h a b n).bind K = some o) (kk : ∀ h', K h' = some o → AW g own cc Y res (pc + 3) L st h' ck cn) :
    AW g own cc Y res pc L (.int n :: .int 0 :: .ref b :: .int 0 :: .ref a :: st) h ck cn := by
  obtain ⟨h', h1, h2⟩ := bnd hf
  obtain ⟨n0, n1, f, gg, ha, hb, hn0, hn1, hn2, rfl⟩ := cpI_some h1
  intro l p e s m args below meth c C H locs ls hP hS hl
  have hts := C.2.2.2.2.2.2.2.1
  have hn : ¬ n < 0 := Int32.not_lt.mpr hn0
  have hK := C.2.2.2.2.2.2.2.2.1
  have hc0 : H[a]? = some (vp_cell (gY g 0) (n0, .inl f)) := (hP.2 a _ ha).2
  have hc1 : H[b]? = some (vp_cell (gY g 0) (n1, .inl gg)) := (hP.2 b _ hb).2
  have hB := (hP.2 b _ hb).1
  obtain ⟨-, k0, hk0, cm0, hkk0⟩ := (hK.2 0 _ rfl).1 n0 (fun j => .int (f j))
  obtain ⟨-, k1, hk1, cm1, hkk1⟩ := (hK.2 0 _ rfl).1 n1 (fun j => .int (gg j))
  intro T hT X
  obtain ⟨vm', X', step⟩ := X.arraycopy C.1 C.2.2.2.2.2.2.1 (hts _ hw.1) (hts _ hw.2.1) (hts _ hw.2.2.1) (hts _ hw.2.2.2) (src := a) (dst := b) (cs := vp_cell (gY g 0) (n0, .inl f)) (cd := vp_cell (gY g 0) (n1, .inl gg)) (srcPos := 0) (destPos := 0) (n := n) (by rw [hT]; exact hc0) (by rw [hT]; exact hc1)
    (fun _ h => by cases h) (fun _ h => by cases h) (fun h => by cases h) (fun h => by cases h) hk0 hk1 hkk0 hkk1 (by simp [refKind]) (by decide) (by decide) hn
    (by rw [nn0 hn]; show ¬ _ > ((arrV (gY g 0) n0 (fun j => .int (f j))).slots.size : Int); rw [arrV_size]; simp; omega)
    (by rw [nn0 hn]; show ¬ _ > ((arrV (gY g 0) n1 (fun j => .int (gg j))).slots.size : Int); rw [arrV_size]; simp; omega)
    (fun vm₁ _ i hi => by
      have e : (vp_cell (gY g 0) (n0, .inl f)).slots.getD ((0 : Int32).toNatClampNeg + i) .null = .int (f ((0 : Int32).toNatClampNeg + i)) := by
        show (arrV (gY g 0) n0 (fun j => .int (f j))).slots.getD _ _ = _
        rw [Array.getD_eq_getD_getElem?, arrV_read _ _ (by rw [sb_cl0]; omega)]
        rfl
      refine ⟨?_, ?_⟩
      · rw [e]; rfl
      · rw [e]
        exact trivial)
    (g := F0 m pc ls (.int n :: .int 0 :: .ref b :: .int 0 :: .ref a :: st)) rfl (by rw [C.2.2.1]; exact hl.1) (rest := st) rfl (by rw [C.2.1]; exact hd) hdd (by
      show 2 * 0 + (st.map fun v => v.category).sum + _ ≤ 36 * Y.2.2.2.1 + 2
      have : nativeFrameWords "java/lang/System" "arraycopy" 5 + 11 ≤ 28 := by decide
      omega)
  have e1 : copied (vp_cell (gY g 0) (n0, .inl f)) (vp_cell (gY g 0) (n1, .inl gg)) 0 0 n = vp_cell (gY g 0) (n1, .inl (va_cpy f gg (0 : Int32).toNatClampNeg (0 : Int32).toNatClampNeg n.toNatClampNeg)) := va_copied (fun z => .int z) (gY g 0) (gY g 0) f gg (by rw [sb_cl0]; omega)
  rw [e1, sb_cl0] at X' step
  have hlt : b < H.size := (Array.getElem?_eq_some_iff.mp hc1).1
  have hheap : ((T.setVm vm').setCell b (vp_cell (gY g 0) (n1, .inl (va_cpy f gg 0 0 n.toNatClampNeg)))).heap = H.setIfInBounds b (vp_cell (gY g 0) (n1, .inl (va_cpy f gg 0 0 n.toNatClampNeg))) := by rw [← hT]; rfl
  have oq : ∀ q : Nat, q ≠ b → (H.setIfInBounds b (vp_cell (gY g 0) (n1, .inl (va_cpy f gg 0 0 n.toNatClampNeg))))[q]? = H[q]? := fun q hq => by simp [Array.getElem?_setIfInBounds, Ne.symm hq]
  obtain ⟨t, a1, b1⟩ := kk _ h2 l p e s m args below meth c C _ _ ls (hP.put hB (show (H.setIfInBounds b _)[b]? = some _ by simp [Array.getElem?_setIfInBounds, hlt]) (by simp) oq) ⟨by simp; exact hS.1, fun q g1 g2 => by
      rw [oq q (fun e => g2 (by rw [e]; exact hB))]
      exact hS.2.1 q g1 g2, fun q hq => by
      rcases List.mem_append.mp hq with h | h
      · exact hS.2.2 q h
      · obtain ⟨z, -, hz⟩ := List.mem_map.mp h
        rw [← hz]
        exact hB⟩ hl _ hheap X'
  exact ⟨t, step t a1, b1⟩
theorem aw_cpJ {idx a b : Nat} {n : Int32} {K : Hea → Option ρ} (hw : WC own idx) (hd : decode cc pc = .ok (.invokestatic idx, 3)) (hdd : 1 ≤ Y.2.2.2.1) (hcat : (st.map fun v => v.category).sum ≤ 8) (hf : (cpJ h a b n).bind K = some o) (kk : ∀ h', K h' = some o → AW g own cc Y res (pc + 3) L st h' ck cn) :
    AW g own cc Y res pc L (.int n :: .int 0 :: .ref b :: .int 0 :: .ref a :: st) h ck cn := by
  obtain ⟨h', h1, h2⟩ := bnd hf
  obtain ⟨n0, n1, f, gg, ha, hb, hn0, hn1, hn2, rfl⟩ := cpJ_some h1
  intro l p e s m args below meth c C H locs ls hP hS hl
  have hts := C.2.2.2.2.2.2.2.1
  have hn : ¬ n < 0 := Int32.not_lt.mpr hn0
  have hK := C.2.2.2.2.2.2.2.2.1
  have hc0 : H[a]? = some (vp_cell (gY g 3) (n0, .inr (.inl f))) := (hP.2 a _ ha).2
  have hc1 : H[b]? = some (vp_cell (gY g 3) (n1, .inr (.inl gg))) := (hP.2 b _ hb).2
  have hB := (hP.2 b _ hb).1
  obtain ⟨-, k0, hk0, cm0, hkk0⟩ := (hK.2 3 _ rfl).1 n0 (fun j => .long (f j))
  obtain ⟨-, k1, hk1, cm1, hkk1⟩ := (hK.2 3 _ rfl).1 n1 (fun j => .long (gg j))
  intro T hT X
  obtain ⟨vm', X', step⟩ := X.arraycopy C.1 C.2.2.2.2.2.2.1 (hts _ hw.1) (hts _ hw.2.1) (hts _ hw.2.2.1) (hts _ hw.2.2.2) (src := a) (dst := b) (cs := vp_cell (gY g 3) (n0, .inr (.inl f))) (cd := vp_cell (gY g 3) (n1, .inr (.inl gg))) (srcPos := 0) (destPos := 0) (n := n) (by rw [hT]; exact hc0) (by rw [hT]; exact hc1)
    (fun _ h => by cases h) (fun _ h => by cases h) (fun h => by cases h) (fun h => by cases h) hk0 hk1 hkk0 hkk1 (by simp [refKind]) (by decide) (by decide) hn
    (by rw [nn0 hn]; show ¬ _ > ((arrV (gY g 3) n0 (fun j => .long (f j))).slots.size : Int); rw [arrV_size]; simp; omega)
    (by rw [nn0 hn]; show ¬ _ > ((arrV (gY g 3) n1 (fun j => .long (gg j))).slots.size : Int); rw [arrV_size]; simp; omega)
    (fun vm₁ _ i hi => by
      have e : (vp_cell (gY g 3) (n0, .inr (.inl f))).slots.getD ((0 : Int32).toNatClampNeg + i) .null = .long (f ((0 : Int32).toNatClampNeg + i)) := by
        show (arrV (gY g 3) n0 (fun j => .long (f j))).slots.getD _ _ = _
        rw [Array.getD_eq_getD_getElem?, arrV_read _ _ (by rw [sb_cl0]; omega)]
        rfl
      refine ⟨?_, ?_⟩
      · rw [e]; rfl
      · rw [e]
        exact trivial)
    (g := F0 m pc ls (.int n :: .int 0 :: .ref b :: .int 0 :: .ref a :: st)) rfl (by rw [C.2.2.1]; exact hl.1) (rest := st) rfl (by rw [C.2.1]; exact hd) hdd (by
      show 2 * 0 + (st.map fun v => v.category).sum + _ ≤ 36 * Y.2.2.2.1 + 2
      have : nativeFrameWords "java/lang/System" "arraycopy" 5 + 11 ≤ 28 := by decide
      omega)
  have e1 : copied (vp_cell (gY g 3) (n0, .inr (.inl f))) (vp_cell (gY g 3) (n1, .inr (.inl gg))) 0 0 n = vp_cell (gY g 3) (n1, .inr (.inl (va_cpy f gg (0 : Int32).toNatClampNeg (0 : Int32).toNatClampNeg n.toNatClampNeg))) := va_copied (fun z => .long z) (gY g 3) (gY g 3) f gg (by rw [sb_cl0]; omega)
  rw [e1, sb_cl0] at X' step
  have hlt : b < H.size := (Array.getElem?_eq_some_iff.mp hc1).1
  have hheap : ((T.setVm vm').setCell b (vp_cell (gY g 3) (n1, .inr (.inl (va_cpy f gg 0 0 n.toNatClampNeg))))).heap = H.setIfInBounds b (vp_cell (gY g 3) (n1, .inr (.inl (va_cpy f gg 0 0 n.toNatClampNeg)))) := by rw [← hT]; rfl
  have oq : ∀ q : Nat, q ≠ b → (H.setIfInBounds b (vp_cell (gY g 3) (n1, .inr (.inl (va_cpy f gg 0 0 n.toNatClampNeg)))))[q]? = H[q]? := fun q hq => by simp [Array.getElem?_setIfInBounds, Ne.symm hq]
  obtain ⟨t, a1, b1⟩ := kk _ h2 l p e s m args below meth c C _ _ ls (hP.put hB (show (H.setIfInBounds b _)[b]? = some _ by simp [Array.getElem?_setIfInBounds, hlt]) (by simp) oq) ⟨by simp; exact hS.1, fun q g1 g2 => by
      rw [oq q (fun e => g2 (by rw [e]; exact hB))]
      exact hS.2.1 q g1 g2, fun q hq => by
      rcases List.mem_append.mp hq with h | h
      · exact hS.2.2 q h
      · obtain ⟨z, -, hz⟩ := List.mem_map.mp h
        rw [← hz]
        exact hB⟩ hl _ hheap X'
  exact ⟨t, step t a1, b1⟩
theorem aw_alen {kd a : Nat} {ty : FieldType} {K : Int32 → Option ρ} (ht : ∀ cy : Nat → ClassId, (tysOf cy)[kd]? = some (cy kd, ty)) (hd : decode cc pc = .ok (.arraylength, 1)) (hf : (alen h kd a).bind K = some o) (kk : ∀ x, K x = some o → AW g own cc Y res (pc + 1) L (.int x :: st) h ck cn) : AW g own cc Y res pc L (.ref a :: st) h ck cn := by
  obtain ⟨x, h1, h2⟩ := bnd hf
  obtain ⟨n, q, hc, hn, rfl⟩ := alen_some h1
  intro l p e s m args below meth c C H locs ls hP hS hl
  exact va_alen (ws := [(a, .inl (gY g kd, n, q))]) C.1 C.2.1 C.2.2.2.2.2.2.2.2.1 (one_P (hP.2 a _ hc).2) 0 kd rfl (ht _) rfl hd (kk _ h2 l p e s m args below meth c C H locs ls hP hS hl)
/-- the words of Math.max, min of ints, max of longs -/
def WM (own : String) (idx : Nat) (y : MethodName) (cb : ByteArray) (mL : Nat) (ret : Option FieldType) : Prop := Cond.methodLink own idx y ∈ tb ∧ Cond.static y ∈ tb ∧ Cond.initialized "java/lang/Math" ∈ tb ∧ Cond.code y cb mL ret ∈ tb
theorem aw_mmax {idx : Nat} {x y : Int32} (hw : WM own idx Lib.Math.max.name Lib.Math.max.code 2 (some .int)) (hd : decode cc pc = .ok (.invokestatic idx, 3)) (hdd : 1 ≤ Y.2.2.2.1) (hcat : (st.map fun v => v.category).sum ≤ 8) (hc : ck ≤ Y.2.2.2.2.1) (hn : cn ≤ Y.2.2.2.2.2) (kk : AW g own cc Y res (pc + 3) L (.int (if x < y then y else x) :: st) h ck cn) : AW g own cc Y res pc L (.int y :: .int x :: st) h ck cn :=
  fun l p e s m args below meth c C H locs ls hP hS hl => va_mmax C.1 C.2.1 (C.2.2.1.trans hl.1.symm) C.2.2.2.2.2.2.1 (C.2.2.2.2.2.2.2.1 _ hw.1) (C.2.2.2.2.2.2.2.1 _ hw.2.1) (C.2.2.2.2.2.2.2.1 _ hw.2.2.1) (C.2.2.2.2.2.2.2.1 _ hw.2.2.2) hdd (by show _ + 13 ≤ 36 * Y.2.2.2.1 + 2; omega) hc hn hd (kk l p e s m args below meth c C H locs ls hP hS hl)
theorem aw_mmin {idx : Nat} {x y : Int32} (hw : WM own idx Lib.Math.min.name Lib.Math.min.code 2 (some .int)) (hd : decode cc pc = .ok (.invokestatic idx, 3)) (hdd : 1 ≤ Y.2.2.2.1) (hcat : (st.map fun v => v.category).sum ≤ 8) (hc : ck ≤ Y.2.2.2.2.1) (hn : cn ≤ Y.2.2.2.2.2) (kk : AW g own cc Y res (pc + 3) L (.int (if y < x then y else x) :: st) h ck cn) : AW g own cc Y res pc L (.int y :: .int x :: st) h ck cn :=
  fun l p e s m args below meth c C H locs ls hP hS hl => va_mmin C.1 C.2.1 (C.2.2.1.trans hl.1.symm) C.2.2.2.2.2.2.1 (C.2.2.2.2.2.2.2.1 _ hw.1) (C.2.2.2.2.2.2.2.1 _ hw.2.1) (C.2.2.2.2.2.2.2.1 _ hw.2.2.1) (C.2.2.2.2.2.2.2.1 _ hw.2.2.2) hdd (by show _ + 13 ≤ 36 * Y.2.2.2.1 + 2; omega) hc hn hd (kk l p e s m args below meth c C H locs ls hP hS hl)
theorem aw_mmaxJ {idx : Nat} {x y : Int64} (hw : WM own idx Lib.MathLoose.max_long.x Lib.MathLoose.max_long.code 4 (some .long)) (hd : decode cc pc = .ok (.invokestatic idx, 3)) (hdd : 1 ≤ Y.2.2.2.1) (hcat : (st.map fun v => v.category).sum ≤ 8) (hc : ck ≤ Y.2.2.2.2.1) (hn : cn ≤ Y.2.2.2.2.2) (kk : AW g own cc Y res (pc + 3) L (.long (if y < x then x else y) :: st) h ck cn) : AW g own cc Y res pc L (.long y :: .long x :: st) h ck cn :=
  fun l p e s m args below meth c C H locs ls hP hS hl => va_mmax_long C.1 C.2.1 (C.2.2.1.trans hl.1.symm) C.2.2.2.2.2.2.1 (C.2.2.2.2.2.2.2.1 _ hw.1) (C.2.2.2.2.2.2.2.1 _ hw.2.1) (C.2.2.2.2.2.2.2.1 _ hw.2.2.1) (C.2.2.2.2.2.2.2.1 _ hw.2.2.2) hdd (by show _ + 15 ≤ 36 * Y.2.2.2.1 + 2; omega) hc hn hd (kk l p e s m args below meth c C H locs ls hP hS hl)
/-- Object.<init> -/
theorem aw_obj {idx a : Nat} (hw : Cond.methodLink own idx Lib.objectInit ∈ tb ∧ Cond.instanceMethod Lib.objectInit ∈ tb ∧ Cond.code Lib.objectInit ⟨#[0xb1]⟩ 1 none ∈ tb) (hd : decode cc pc = .ok (.invokespecial idx, 3)) (hdd : 1 ≤ Y.2.2.2.1) (hcat : (st.map fun v => v.category).sum ≤ 8) (kk : AW g own cc Y res (pc + 3) L st h ck cn) : AW g own cc Y res pc L (.ref a :: st) h ck cn :=
  fun l p e s m args below meth c C H locs ls hP hS hl => W.objInit C.1 C.2.1 C.2.2.2.2.2.2.1 (C.2.2.2.2.2.2.2.1 _ hw.1) (C.2.2.2.2.2.2.2.1 _ hw.2.1) (C.2.2.2.2.2.2.2.1 _ hw.2.2) (g := F0 m pc ls (.ref a :: st)) rfl (hl.1.trans C.2.2.1.symm) rfl hd hdd (by show 2 * 0 + _ + 12 ≤ 36 * Y.2.2.2.1 + 2; omega) (kk l p e s m args below meth c C H locs ls hP hS hl)
theorem aw_new {idx ci N : Nat} {C' : String} {T : u_T} {ty : Nat → FieldType} {fs : List Value} (hck : CKd ci C' T N ty) (hw : Cond.classLink own idx C' ∈ tb ∧ Cond.instantiable C' N ∈ tb ∧ Cond.initialized C' ∈ tb) (hfs : ∀ j, j < N → defaultValue (ty j) = vp_V fs j) (hd : decode cc pc = .ok (.new idx, 3)) (hk1 : ck + 1 ≤ Y.2.2.2.2.1) (hk2 : cn + N ≤ Y.2.2.2.2.2) (kk : AW g own cc Y res (pc + 3) L (.ref h.1 :: st) (hnew h (cO ci fs)) (ck + 1) (cn + N)) : AW g own cc Y res pc L st h ck cn := by
  intro l p e s m args below meth c C H locs ls hP hS hl
  have hB : gB g ≤ h.1 := by rw [← hP.1]; exact Nat.le_trans (Kn.lst C.2.2.2.2.2.2.2.2).2.2.2 hS.1
  have hts := C.2.2.2.2.2.2.2.1
  have hKn := C.2.2.2.2.2.2.2.2.1.1 ci _ hck.1
  refine W.newcK C.1 C.2.1 C.2.2.2.2.2.2.1 (hts _ hw.1) (hts _ hw.2.1) (hts _ hw.2.2) rfl hd hk1 hk2 hKn.2.1 hP.1 fun H1 kC hkC e1 z1 o1 => ?_
  refine kk l p e s m args below meth c C H1 locs ls (hP.new hB ⟨_, hck.1, (u_born ty hts hck.2.1 hKn hkC e1 hck.2.2.1).to hfs⟩ z1 o1) ⟨Nat.le_trans hS.1 (by rw [hP.1]; omega), fun x h1 h2 => (o1 x (by rw [← hP.1]; exact Nat.lt_of_lt_of_le h1 hS.1)).trans (hS.2.1 x h1 h2), hS.2.2⟩ hl
theorem aw_newa {kd N : Nat} {n : Int32} {atype : ArrayType} {a0 : vp_A} (hw : Cond.arrayClass (newarray.typeOf atype) ∈ tb) (ht : ∀ cy : Nat → ClassId, (tysOf cy)[kd]? = some (cy kd, newarray.typeOf atype)) (hra : ∀ (U : State) (cA : ClassId), va_RA U cA (newarray.typeOf atype) → U.vm.findClass ("[" ++ (newarray.typeOf atype).toString) = some cA) (ha : ∀ cA : ClassId, vp_cell cA a0 = arrV cA N (fun _ => defaultValue (newarray.typeOf atype))) (hn : ¬ n < 0) (hN : n.toNatClampNeg = N) (hbytes : N * componentBytes (newarray.typeOf atype) ≤ 536870912) (hd : decode cc pc = .ok (.newarray atype, 2)) (hk1 : ck + 1 ≤ Y.2.2.2.2.1) (hk2 : cn + N ≤ Y.2.2.2.2.2) (kk : AW g own cc Y res (pc + 2) L (.ref h.1 :: st) (hnew h (.inl (kd, a0))) (ck + 1) (cn + N)) : AW g own cc Y res pc L (.int n :: st) h ck cn := by
  intro l p e s m args below meth c C H locs ls hP hS hl
  have hB : gB g ≤ h.1 := by rw [← hP.1]; exact Nat.le_trans (Kn.lst C.2.2.2.2.2.2.2.2).2.2.2 hS.1
  have hts := C.2.2.2.2.2.2.2.1
  have hK := C.2.2.2.2.2.2.2.2.1
  refine va_newaK C.1 C.2.1 (hts _ hw) rfl hd rfl hn hN hbytes hk1 hk2 hP.1 fun H1 cA e1 z1 o1 hAr hNm => ?_
  have hcy : cA = gY g kd := Option.some.inj (hNm.symm.trans (hra _ _ (hK.2 kd _ (ht _)).2))
  subst hcy
  refine kk l p e s m args below meth c C H1 locs ls (hP.new hB (show H1[h.1]? = some (vp_cell _ _) by rw [ha]; exact e1) z1 o1) ⟨Nat.le_trans hS.1 (by rw [hP.1]; omega), fun x h1 h2 => (o1 x (by rw [← hP.1]; exact Nat.lt_of_lt_of_le h1 hS.1)).trans (hS.2.1 x h1 h2), hS.2.2⟩ hl
theorem aw_anew {idx kd N : Nat} {n : Int32} {E : String} (hw : Cond.classLink own idx E ∈ tb) (ho : ∀ U, Kn g U → va_AO E U) (ht : ∀ cy : Nat → ClassId, (tysOf cy)[kd]? = some (cy kd, .object E)) (hn : ¬ n < 0) (hN : n.toNatClampNeg = N) (hbytes : N * 4 ≤ 536870912) (hd : decode cc pc = .ok (.anewarray idx, 3)) (hk1 : ck + 1 ≤ Y.2.2.2.2.1) (hk2 : cn + N ≤ Y.2.2.2.2.2) (kk : AW g own cc Y res (pc + 3) L (.ref h.1 :: st) (hnew h (cR kd N (fun _ => none))) (ck + 1) (cn + N)) : AW g own cc Y res pc L (.int n :: st) h ck cn := by
  intro l p e s m args below meth c C H locs ls hP hS hl
  have hB : gB g ≤ h.1 := by rw [← hP.1]; exact Nat.le_trans (Kn.lst C.2.2.2.2.2.2.2.2).2.2.2 hS.1
  have hts := C.2.2.2.2.2.2.2.1
  have hK := C.2.2.2.2.2.2.2.2.1
  subst hN
  refine W.anew C.1 C.2.1 C.2.2.2.2.2.2.1 (hts _ hw) (va_AO.use (ho _ C.2.2.2.2.2.2.2.2)) rfl hd rfl hn hbytes hk1 hk2 fun cA kA comp f1 f2 f3 f4 => ?_
  generalize hH1 : H.push ({ cls := cA, slots := Array.replicate n.toNatClampNeg .null, vm := .none } : Cell) = H1
  have z1 : H1.size = h.1 + 1 := by rw [← hH1, Array.size_push, hP.1]
  have e1 : H1[h.1]? = some (arrV cA n.toNatClampNeg (fun _ => .null)) := by rw [← hP.1, ← hH1, Array.getElem?_push_size, ← arrV_new]
  have o1 : ∀ q : Nat, q < h.1 → H1[q]? = H[q]? := fun q hq => by rw [← hH1, Array.getElem?_push, if_neg (by rw [hP.1]; exact Nat.ne_of_lt hq)]
  obtain ⟨kB, compB, b1, b2, b3, b4⟩ := (hK.2 kd _ (ht _)).2
  have hcy : cA = gY g kd := Option.some.inj (f1.symm.trans b4)
  subst hcy
  rw [show H.size = h.1 from hP.1]
  refine kk l p e s m args below meth c C H1 locs ls (hP.new hB (show H1[h.1]? = some (vp_cell _ _) by rw [vp_cell_q]; exact e1) z1 o1) ⟨Nat.le_trans hS.1 (by rw [z1, hP.1]; omega), fun x h1 h2 => (o1 x (by rw [← hP.1]; exact Nat.lt_of_lt_of_le h1 hS.1)).trans (hS.2.1 x h1 h2), hS.2.2⟩ hl
end
