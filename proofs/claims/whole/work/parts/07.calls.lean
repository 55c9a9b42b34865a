/-! ===== entry, returns, calls ===== -/
theorem Kn.same {g : Gx} {u U : State} (hv : U.vm = u.vm) (hh : U.heap = u.heap) (hK : Kn g u) : Kn g U := by
  obtain ⟨h1, h2, h3, h4, h5, h6, r1, r2, r3, r4, r5, h8, h13, h9, h10, h11, h12⟩ := hK
  have al : u.vm.Alike U.vm := by rw [hv]; exact Vm.Alike.refl u.vm
  refine ⟨va_K.moved al h1, va_AO.moved al h2, va_AO.moved al h3, va_AO.moved al h4, fun q hq => va_Nw.same rfl hv.symm (h5 q hq), ?_, vk_R.same hv r1, vk_R.same hv r2, vk_R.same hv r3, vk_R.same hv r4, vk_R.same hv r5, ?_, ?_, ?_, h10, h11, ?_⟩
  · rw [hh]; exact vk_S.moved al h6
  · rw [hh]; exact va_Z.moved al h8
  · rw [hh]; exact va_Zq.moved al h13
  · rw [hh]; exact va_X.moved al h9
  · rw [hh]; exact h12
theorem MPc_blind (g : Gx) (vs : List Value) (h : Hea) : FrameBlind (MPc g vs h) := fun a U f mk q => ⟨q.1, q.2.1, Kn.same (u := U) rfl rfl q.2.2⟩
theorem MC_of {g : Gx} {y : MethodName} {cc : ByteArray} {mL : Nat} {ret : Option FieldType} {d k n : Nat} {vs : List Value} {h : Hea} {res : Option Value × Hea} {own nm : String} (L : List (Nat × Value)) (hown0 : y.cls = own) (hnm0 : y.name = nm) (hy : plainName own = true) (hlen : (lg_sl vs).length ≤ mL) (hL : lv_args 0 vs = L) (kk : AW g own cc (mL, ret, nm, d, k, n) res 0 L [] h 0 0) : MC g y cc mL ret d k n vs h res := by
  intro l
  subst hown0
  subst hnm0
  refine Met.ofW (cc := cc) (maxL := mL) (ret := ret) hy rfl ?_
  intro p e s m args below meth c s₁ B hml hv
  obtain ⟨rfl, hP, hK⟩ := hv
  have hts := atoms_spec (ws := wsM y cc mL ret) B.pre
  have hown : s.vm.findClass y.cls = some m.cls := findClass_of_methodNamed B.named
  have hl := lv_entry vs (n := mL) hlen
  rw [hL] at hl
  rw [lg_entry_eq]
  exact kk l p e s m vs.toArray below meth c ⟨B.exec, B.bytes, hml, B.returns, B.notSynchronized, (name_of_methodNamed B.named B.method).1, hown, fun w hw => hts w (List.mem_cons_of_mem _ hw), hK⟩ s.heap [] _ hP va_S.rf hl
section
variable {g : Gx} {own : String} {cc : ByteArray} {Y : Ym} {res : Option Value × Hea} {pc : Nat} {L : List (Nat × Value)} {st : List Value} {h : Hea} {ck cn : Nat} {ρ : Type} {o : ρ}
theorem aw_widen {k n : Nat} (h1 : ck ≤ k) (h2 : cn ≤ n) (kk : AW g own cc Y res pc L st h k n) : AW g own cc Y res pc L st h ck cn :=
  fun l p e s m args below meth c C H locs ls hP hS hl => W.widen h1 h2 (kk l p e s m args below meth c C H locs ls hP hS hl)
theorem aw_iret {x : Int32} (hd : decode cc pc = .ok (.ireturn, 1)) (hr : Y.2.1 = some .int) (hres : res = (some (.int x), h)) : AW g own cc Y res pc L [.int x] h Y.2.2.2.2.1 Y.2.2.2.2.2 := by
  intro l p e s m args below meth c C H locs ls hP hS hl
  subst hres
  exact W.iret C.1 C.2.1 (C.2.2.2.1.trans hr) (fun t ht _ => ⟨rfl, by rw [ht]; exact hP, hS.F ht⟩) hS.2.2 hd C.2.2.2.2.1
theorem aw_zret {x : Int32} {ty : FieldType} (hd : decode cc pc = .ok (.ireturn, 1)) (hr : Y.2.1 = some ty) (hn : narrow ty (.int x) = .int x) (hres : res = (some (.int x), h)) : AW g own cc Y res pc L [.int x] h Y.2.2.2.2.1 Y.2.2.2.2.2 := by
  intro l p e s m args below meth c C H locs ls hP hS hl
  subst hres
  exact W.zret C.1 C.2.1 (C.2.2.2.1.trans hr) hn (fun t ht _ => ⟨rfl, by rw [ht]; exact hP, hS.F ht⟩) hS.2.2 hd C.2.2.2.2.1
theorem aw_lret {x : Int64} (hd : decode cc pc = .ok (.lreturn, 1)) (hr : Y.2.1 = some .long) (hres : res = (some (.long x), h)) : AW g own cc Y res pc L [.long x] h Y.2.2.2.2.1 Y.2.2.2.2.2 := by
  intro l p e s m args below meth c C H locs ls hP hS hl
  subst hres
  exact W.lret C.1 C.2.1 (C.2.2.2.1.trans hr) (fun t ht _ => ⟨rfl, by rw [ht]; exact hP, hS.F ht⟩) hS.2.2 hd C.2.2.2.2.1
theorem aw_aret {x : Nat} {ct : String} (hd : decode cc pc = .ok (.areturn, 1)) (hr : Y.2.1 = some (.object ct)) (hres : res = (some (.ref x), h)) : AW g own cc Y res pc L [.ref x] h Y.2.2.2.2.1 Y.2.2.2.2.2 := by
  intro l p e s m args below meth c C H locs ls hP hS hl
  subst hres
  exact W.aret C.1 C.2.1 (C.2.2.2.1.trans hr) (Or.inl ⟨_, rfl⟩) (Or.inr ⟨_, rfl⟩) (fun t ht _ => ⟨rfl, by rw [ht]; exact hP, hS.F ht⟩) hS.2.2 hd C.2.2.2.2.1
theorem aw_vret (hd : decode cc pc = .ok (.return_, 1)) (hr : Y.2.1 = none) (hres : res = (none, h)) : AW g own cc Y res pc L [] h Y.2.2.2.2.1 Y.2.2.2.2.2 := by
  intro l p e s m args below meth c C H locs ls hP hS hl
  subst hres
  exact W.vret C.1 C.2.1 (C.2.2.2.1.trans hr) (fun t ht _ => ⟨rfl, by rw [ht]; exact hP, hS.F ht⟩) hS.2.2 hd C.2.2.2.2.1
/-- the words of a call -/
def WB (own : String) (idx : Nat) (y : MethodName) (cb : ByteArray) (mL : Nat) (ret : Option FieldType) (na : Nat) : Prop := Cond.methodLink own idx y ∈ tb ∧ Cond.initialized y.cls ∈ tb ∧ Cond.code y cb mL ret ∈ tb ∧ (y.cls ≠ "java/lang/invoke/MethodHandle" ∧ y.cls ≠ "java/lang/invoke/VarHandle" ∧ (parseMethodDescriptor y.desc).map (fun d => d.parameters.length) = some na) ∧ mL ≤ 17
def WV (own : String) (idx : Nat) (y : MethodName) (cb : ByteArray) (mL : Nat) (ret : Option FieldType) (na : Nat) : Prop := WB own idx y cb mL ret na ∧ Cond.instanceMethod y ∈ tb ∧ Cond.selects y.cls y y ∈ tb
def WS (own : String) (idx : Nat) (y : MethodName) (cb : ByteArray) (mL : Nat) (ret : Option FieldType) (na : Nat) : Prop := WB own idx y cb mL ret na ∧ Cond.static y ∈ tb
def WI (own : String) (idx : Nat) (y : MethodName) (cb : ByteArray) (mL : Nat) (na : Nat) : Prop := WB own idx y cb mL none na ∧ Cond.instanceMethod y ∈ tb ∧ y.name = "<init>"
def WN (own : String) (idx : Nat) (y : MethodName) (cb : ByteArray) (mL : Nat) (ret : Option FieldType) (na : Nat) : Prop := (own, idx, y) ∈ nstW ∧ Cond.initialized y.cls ∈ tb ∧ Cond.code y cb mL ret ∈ tb ∧ (y.cls ≠ "java/lang/invoke/MethodHandle" ∧ y.cls ≠ "java/lang/invoke/VarHandle" ∧ (parseMethodDescriptor y.desc).map (fun d => d.parameters.length) = some na) ∧ mL ≤ 17
theorem gin {y : MethodName} {cb : ByteArray} {mL : Nat} {ret : Option FieldType} (hc : Cond.code y cb mL ret ∈ tb) : GoodIn tb (wsM y cb mL ret) := fun w hw => by
  have hm : w ∈ tb := by
    rcases List.mem_cons.mp hw with e | e
    · rw [e]; exact hc
    · exact e
  exact ⟨hm, tb_good w hm⟩
theorem room_ok {d : Nat} {k n : Nat} {mL : Nat} (hd : d + 1 ≤ Y.2.2.2.1) (hm : mL ≤ 17) : (rmk d k n).frames + 1 ≤ (Yr Y).frames ∧ 8 + (mL + 11) + (rmk d k n).locals ≤ (Yr Y).locals := by
  refine ⟨hd, ?_⟩
  show 8 + (mL + 11) + (36 * d + 2) ≤ 36 * Y.2.2.2.1 + 2
  omega
theorem aw_run {st0 : List Value} {r : Option Value} {h' : Hea} {mc ms : Nat} {a : Array Value} (kk : AW g own cc Y res (pc + 3) L (r.toList ++ st) h' (ck + mc) (cn + ms))
    {l : Launch} {p : Program} {e : Env} {s : State} {m : MethodId} {args : Array Value} {below : List Frame} {meth : Method} {c : Code} (C : Cx g own cc Y p s m args meth c) {H : Heap} {locs : List Loc} {ls : Array Slot} (hS : va_S (gA g) s.heap H locs) (hl : lv_has ls Y.1 L)
    (hr : va_Run p l e (Yr Y) s m args below meth c H locs ck cn mc ms (F0 m pc ls st0) st (MQc g r h' a) (gA g)) :
    W p l e (Yr Y) s m args below meth c H locs ck cn (MQ below (MQc g res.1 res.2) args s Y.2.2.2.2.1 Y.2.2.2.2.2 (gA g)) (F0 m pc ls st0) := by
  intro T hT X
  obtain ⟨v, st₀, t, T', L', h0, X', hL, e1, e2, ⟨hv, hP', hz, hk⟩, stp⟩ := hr T hT X
  cases hv
  rw [h0] at hz hk
  obtain ⟨t2, a1, b1⟩ := kk l p e s m args below meth c C T'.heap (locs ++ L') ls (by rw [e1]; exact hP')
    ⟨Nat.le_trans hS.1 (by rw [e1]; exact hz), fun q h1 h2 => by rw [e1, hk q (Nat.lt_of_lt_of_le h1 hS.1) h2]; exact hS.2.1 q h1 h2, fun q hq => by
      rcases List.mem_append.mp hq with h | h
      · exact hS.2.2 q h
      · exact hL q h⟩ hl T' rfl X'
  exact ⟨t2, stp t2 a1, b1⟩
theorem aw_callV {y : MethodName} {cb : ByteArray} {mL' : Nat} {ret' : Option FieldType} {d' k' n' idx a ci na : Nat} {T : u_T} {N : Nat} {As : List Value} {st0 : List Value} {r : Option Value} {h' : Hea} {fs : List Value}
    (hw : WV own idx y cb mL' ret' na) (hM : MC g y cb mL' ret' d' k' n' (.ref a :: As) h (r, h')) (hci : vwCl[ci]? = some (y.cls, T, N)) (hrv : h.2 a = some (cO ci fs)) (hd : decode cc pc = .ok (.invokevirtual idx, 3)) (hn : As.length = na) (hst : st0 = As.reverse ++ .ref a :: st) (hcat : (st.map fun v => v.category).sum ≤ 8) (hdd : d' + 1 ≤ Y.2.2.2.1) (hk1 : ck + k' ≤ Y.2.2.2.2.1) (hk2 : cn + n' ≤ Y.2.2.2.2.2)
    (kk : AW g own cc Y res (pc + 3) L (r.toList ++ st) h' (ck + k') (cn + n')) : AW g own cc Y res pc L st0 h ck cn := by
  intro l p e s m args below meth c C H locs ls hP hS hl
  obtain ⟨⟨w1, w2, w3, w4, w5⟩, w6, w7⟩ := hw
  have hts := C.2.2.2.2.2.2.2.1
  have hG : GoodIn tb (wsV own idx y.cls y (wsM y cb mL' ret')) := fun w hw => by
    unfold wsV at hw
    rcases List.mem_append.mp hw with q | q
    · have : w ∈ tb := by
        simp only [List.mem_cons, List.not_mem_nil, or_false] at q
        rcases q with rfl | rfl | rfl | rfl
        · exact w1
        · exact w6
        · exact w7
        · exact w2
      exact ⟨this, tb_good w this⟩
    · exact gin w3 w q
  refine aw_run kk C hS hl (va_runV (As := As) (rest := st) ⟨C.1, C.2.1, C.2.2.1, C.2.2.2.2.2.2.1, hts⟩ (hM l) (cwV na hts hG rfl rfl rfl ⟨rfl, w4⟩ (room_ok hdd w5)) ⟨MPc_blind _ _ _, va_recv C.2.2.2.2.2.2.2.2.1 (one_P (hP.2 a _ hrv).2) hci (q0 := 0) rfl, fun U hU hW => ⟨rfl, by rw [hU]; exact hP, C.2.2.2.2.2.2.2.2.to hS hU hW⟩⟩ rfl hn hl.1 hst (lv_room hcat) hd ⟨hk1, hk2⟩)
theorem aw_callS {y : MethodName} {cb : ByteArray} {mL' : Nat} {ret' : Option FieldType} {d' k' n' idx na : Nat} {As : List Value} {st0 : List Value} {r : Option Value} {h' : Hea}
    (hw : WS own idx y cb mL' ret' na) (hM : MC g y cb mL' ret' d' k' n' As h (r, h')) (hd : decode cc pc = .ok (.invokestatic idx, 3)) (hn : As.length = na) (hst : st0 = As.reverse ++ st) (hcat : (st.map fun v => v.category).sum ≤ 8) (hdd : d' + 1 ≤ Y.2.2.2.1) (hk1 : ck + k' ≤ Y.2.2.2.2.1) (hk2 : cn + n' ≤ Y.2.2.2.2.2)
    (kk : AW g own cc Y res (pc + 3) L (r.toList ++ st) h' (ck + k') (cn + n')) : AW g own cc Y res pc L st0 h ck cn := by
  intro l p e s m args below meth c C H locs ls hP hS hl
  obtain ⟨⟨w1, w2, w3, w4, w5⟩, w6⟩ := hw
  have hts := C.2.2.2.2.2.2.2.1
  refine aw_run kk C hS hl (va_runS (As := As) (rest := st) ⟨C.1, C.2.1, C.2.2.1, C.2.2.2.2.2.2.1, hts⟩ (hM l) ⟨callB_of na hts (gin w3) rfl rfl rfl (hts _ w2) (hts _ w1) w4 (room_ok hdd w5), hts _ w6⟩ ⟨MPc_blind _ _ _, fun U hU hW => ⟨rfl, by rw [hU]; exact hP, C.2.2.2.2.2.2.2.2.to hS hU hW⟩⟩ rfl hn hl.1 hst (lv_room hcat) hd ⟨hk1, hk2⟩)
theorem aw_callI {y : MethodName} {cb : ByteArray} {mL' : Nat} {d' k' n' idx a na : Nat} {As : List Value} {st0 : List Value} {r : Option Value} {h' : Hea}
    (hw : WI own idx y cb mL' na) (hM : MC g y cb mL' none d' k' n' (.ref a :: As) h (r, h')) (hd : decode cc pc = .ok (.invokespecial idx, 3)) (hn : As.length = na) (hst : st0 = As.reverse ++ .ref a :: st) (hcat : (st.map fun v => v.category).sum ≤ 8) (hdd : d' + 1 ≤ Y.2.2.2.1) (hk1 : ck + k' ≤ Y.2.2.2.2.1) (hk2 : cn + n' ≤ Y.2.2.2.2.2)
    (kk : AW g own cc Y res (pc + 3) L (r.toList ++ st) h' (ck + k') (cn + n')) : AW g own cc Y res pc L st0 h ck cn := by
  intro l p e s m args below meth c C H locs ls hP hS hl
  obtain ⟨⟨w1, w2, w3, w4, w5⟩, w6, w7⟩ := hw
  have hts := C.2.2.2.2.2.2.2.1
  refine aw_run kk C hS hl (va_runI (As := As) (rest := st) ⟨C.1, C.2.1, C.2.2.1, C.2.2.2.2.2.2.1, hts⟩ (hM l) ⟨callB_of na hts (gin w3) rfl rfl rfl (hts _ w2) (hts _ w1) w4 (room_ok hdd w5), w7, hts _ w6⟩ ⟨MPc_blind _ _ _, fun U hU hW => ⟨rfl, by rw [hU]; exact hP, C.2.2.2.2.2.2.2.2.to hS hU hW⟩⟩ rfl hn hl.1 hst (lv_room hcat) hd ⟨hk1, hk2⟩)
theorem aw_callIN {y : MethodName} {cb : ByteArray} {mL' : Nat} {d' k' n' idx a na : Nat} {As : List Value} {st0 : List Value} {r : Option Value} {h' : Hea}
    (hw : WN own idx y cb mL' none na) (hin : Cond.instanceMethod y ∈ tb) (hnm : y.name = "<init>") (hM : MC g y cb mL' none d' k' n' (.ref a :: As) h (r, h')) (hd : decode cc pc = .ok (.invokespecial idx, 3)) (hn : As.length = na) (hst : st0 = As.reverse ++ .ref a :: st) (hcat : (st.map fun v => v.category).sum ≤ 8) (hdd : d' + 1 ≤ Y.2.2.2.1) (hk1 : ck + k' ≤ Y.2.2.2.2.1) (hk2 : cn + n' ≤ Y.2.2.2.2.2)
    (kk : AW g own cc Y res (pc + 3) L (r.toList ++ st) h' (ck + k') (cn + n')) : AW g own cc Y res pc L st0 h ck cn := by
  intro l p e s m args below meth c C H locs ls hP hS hl
  obtain ⟨w1, w2, w3, w4, w5⟩ := hw
  have hts := C.2.2.2.2.2.2.2.1
  refine aw_run kk C hS hl (va_runIN (As := As) (rest := st) ⟨C.1, C.2.1, C.2.2.1, C.2.2.2.2.2.2.1, hts⟩ (hM l) ⟨va_cnB na hts (gin w3) rfl rfl rfl (C.2.2.2.2.2.2.2.2.2.2.2.2.1 _ w1) (hts _ w2) w4 (room_ok hdd w5), hnm, hts _ hin⟩ ⟨MPc_blind _ _ _, fun U hU hW => ⟨rfl, by rw [hU]; exact hP, C.2.2.2.2.2.2.2.2.to hS hU hW⟩⟩ rfl hn hl.1 hst (lv_room hcat) hd ⟨hk1, hk2⟩)
theorem aw_callSN {y : MethodName} {cb : ByteArray} {mL' : Nat} {ret' : Option FieldType} {d' k' n' idx na : Nat} {As : List Value} {st0 : List Value} {r : Option Value} {h' : Hea}
    (hw : WN own idx y cb mL' ret' na) (hsta : Cond.static y ∈ tb) (hM : MC g y cb mL' ret' d' k' n' As h (r, h')) (hd : decode cc pc = .ok (.invokestatic idx, 3)) (hn : As.length = na) (hst : st0 = As.reverse ++ st) (hcat : (st.map fun v => v.category).sum ≤ 8) (hdd : d' + 1 ≤ Y.2.2.2.1) (hk1 : ck + k' ≤ Y.2.2.2.2.1) (hk2 : cn + n' ≤ Y.2.2.2.2.2)
    (kk : AW g own cc Y res (pc + 3) L (r.toList ++ st) h' (ck + k') (cn + n')) : AW g own cc Y res pc L st0 h ck cn := by
  intro l p e s m args below meth c C H locs ls hP hS hl
  obtain ⟨w1, w2, w3, w4, w5⟩ := hw
  have hts := C.2.2.2.2.2.2.2.1
  refine aw_run kk C hS hl (va_runSN (As := As) (rest := st) ⟨C.1, C.2.1, C.2.2.1, C.2.2.2.2.2.2.1, hts⟩ (hM l) ⟨va_cnB na hts (gin w3) rfl rfl rfl (C.2.2.2.2.2.2.2.2.2.2.2.2.1 _ w1) (hts _ w2) w4 (room_ok hdd w5), hts _ hsta, trivial⟩ ⟨MPc_blind _ _ _, fun U hU hW => ⟨rfl, by rw [hU]; exact hP, C.2.2.2.2.2.2.2.2.to hS hU hW⟩⟩ rfl hn hl.1 hst (lv_room hcat) hd ⟨hk1, hk2⟩)
end
