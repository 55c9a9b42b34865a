/-! ===== calls by what comes back ===== -/
section
variable {g : Gx} {own : String} {cc : ByteArray} {Y : Ym} {res : Option Value × Hea} {pc : Nat} {L : List (Nat × Value)} {st : List Value} {h : Hea} {ck cn : Nat} {ρ : Type} {o : ρ}
theorem aw_cV_i {y : MethodName} {cb : ByteArray} {mL' d' k' n' idx na : Nat} {ret' : Option FieldType} {a : Nat} {ci : Nat} {T : u_T} {N : Nat} (As : List Value) {st0 : List Value} {F : Option (Int32)} {K : Int32 → Option ρ} (hw : WV own idx y cb mL' ret' na) (hci : vwCl[ci]? = some (y.cls, T, N)) (hM : ∀ x, F = some x → MC g y cb mL' ret' d' k' n' (.ref a :: As) h (some (.int x), h)) (hd : decode cc pc = .ok (.invokevirtual idx, 3)) (hn : As.length = na) (hst : st0 = As.reverse ++ .ref a :: st) (hcat : (st.map fun v => v.category).sum ≤ 8) (hdd : d' + 1 ≤ Y.2.2.2.1) (hk1 : ck + k' ≤ Y.2.2.2.2.1) (hk2 : cn + n' ≤ Y.2.2.2.2.2) (hf : ((isO h a ci).bind fun _ => F.bind K) = some o) (kk : ∀ x, K x = some o → AW g own cc Y res (pc + 3) L (.int x :: st) h (ck + k') (cn + n')) : AW g own cc Y res pc L st0 h ck cn := by
  obtain ⟨_, e0, hf⟩ := bnd hf
  obtain ⟨fs, hrv⟩ := isO_some e0
  obtain ⟨x, e1, hf⟩ := bnd hf
  exact aw_callV hw (hM x e1) hci hrv hd hn hst hcat hdd hk1 hk2 (kk x hf)
theorem aw_cV_l {y : MethodName} {cb : ByteArray} {mL' d' k' n' idx na : Nat} {ret' : Option FieldType} {a : Nat} {ci : Nat} {T : u_T} {N : Nat} (As : List Value) {st0 : List Value} {F : Option (Int64)} {K : Int64 → Option ρ} (hw : WV own idx y cb mL' ret' na) (hci : vwCl[ci]? = some (y.cls, T, N)) (hM : ∀ x, F = some x → MC g y cb mL' ret' d' k' n' (.ref a :: As) h (some (.long x), h)) (hd : decode cc pc = .ok (.invokevirtual idx, 3)) (hn : As.length = na) (hst : st0 = As.reverse ++ .ref a :: st) (hcat : (st.map fun v => v.category).sum ≤ 8) (hdd : d' + 1 ≤ Y.2.2.2.1) (hk1 : ck + k' ≤ Y.2.2.2.2.1) (hk2 : cn + n' ≤ Y.2.2.2.2.2) (hf : ((isO h a ci).bind fun _ => F.bind K) = some o) (kk : ∀ x, K x = some o → AW g own cc Y res (pc + 3) L (.long x :: st) h (ck + k') (cn + n')) : AW g own cc Y res pc L st0 h ck cn := by
  obtain ⟨_, e0, hf⟩ := bnd hf
  obtain ⟨fs, hrv⟩ := isO_some e0
  obtain ⟨x, e1, hf⟩ := bnd hf
  exact aw_callV hw (hM x e1) hci hrv hd hn hst hcat hdd hk1 hk2 (kk x hf)
theorem aw_cV_wi {y : MethodName} {cb : ByteArray} {mL' d' k' n' idx na : Nat} {ret' : Option FieldType} {a : Nat} {ci : Nat} {T : u_T} {N : Nat} (As : List Value) {st0 : List Value} {F : Option (Int32 × Hea)} {K : Int32 → Hea → Option ρ} (hw : WV own idx y cb mL' ret' na) (hci : vwCl[ci]? = some (y.cls, T, N)) (hM : ∀ x h1, F = some (x, h1) → MC g y cb mL' ret' d' k' n' (.ref a :: As) h (some (.int x), h1)) (hd : decode cc pc = .ok (.invokevirtual idx, 3)) (hn : As.length = na) (hst : st0 = As.reverse ++ .ref a :: st) (hcat : (st.map fun v => v.category).sum ≤ 8) (hdd : d' + 1 ≤ Y.2.2.2.1) (hk1 : ck + k' ≤ Y.2.2.2.2.1) (hk2 : cn + n' ≤ Y.2.2.2.2.2) (hf : ((isO h a ci).bind fun _ => bind2 F K) = some o) (kk : ∀ x h1, K x h1 = some o → AW g own cc Y res (pc + 3) L (.int x :: st) h1 (ck + k') (cn + n')) : AW g own cc Y res pc L st0 h ck cn := by
  obtain ⟨_, e0, hf⟩ := bnd hf
  obtain ⟨fs, hrv⟩ := isO_some e0
  obtain ⟨x, h1, e1, hf⟩ := bnd2 hf
  exact aw_callV hw (hM x h1 e1) hci hrv hd hn hst hcat hdd hk1 hk2 (kk x h1 hf)
theorem aw_cV_wl {y : MethodName} {cb : ByteArray} {mL' d' k' n' idx na : Nat} {ret' : Option FieldType} {a : Nat} {ci : Nat} {T : u_T} {N : Nat} (As : List Value) {st0 : List Value} {F : Option (Int64 × Hea)} {K : Int64 → Hea → Option ρ} (hw : WV own idx y cb mL' ret' na) (hci : vwCl[ci]? = some (y.cls, T, N)) (hM : ∀ x h1, F = some (x, h1) → MC g y cb mL' ret' d' k' n' (.ref a :: As) h (some (.long x), h1)) (hd : decode cc pc = .ok (.invokevirtual idx, 3)) (hn : As.length = na) (hst : st0 = As.reverse ++ .ref a :: st) (hcat : (st.map fun v => v.category).sum ≤ 8) (hdd : d' + 1 ≤ Y.2.2.2.1) (hk1 : ck + k' ≤ Y.2.2.2.2.1) (hk2 : cn + n' ≤ Y.2.2.2.2.2) (hf : ((isO h a ci).bind fun _ => bind2 F K) = some o) (kk : ∀ x h1, K x h1 = some o → AW g own cc Y res (pc + 3) L (.long x :: st) h1 (ck + k') (cn + n')) : AW g own cc Y res pc L st0 h ck cn := by
  obtain ⟨_, e0, hf⟩ := bnd hf
  obtain ⟨fs, hrv⟩ := isO_some e0
  obtain ⟨x, h1, e1, hf⟩ := bnd2 hf
  exact aw_callV hw (hM x h1 e1) hci hrv hd hn hst hcat hdd hk1 hk2 (kk x h1 hf)
theorem aw_cV_wa {y : MethodName} {cb : ByteArray} {mL' d' k' n' idx na : Nat} {ret' : Option FieldType} {a : Nat} {ci : Nat} {T : u_T} {N : Nat} (As : List Value) {st0 : List Value} {F : Option (Nat × Hea)} {K : Nat → Hea → Option ρ} (hw : WV own idx y cb mL' ret' na) (hci : vwCl[ci]? = some (y.cls, T, N)) (hM : ∀ x h1, F = some (x, h1) → MC g y cb mL' ret' d' k' n' (.ref a :: As) h (some (.ref x), h1)) (hd : decode cc pc = .ok (.invokevirtual idx, 3)) (hn : As.length = na) (hst : st0 = As.reverse ++ .ref a :: st) (hcat : (st.map fun v => v.category).sum ≤ 8) (hdd : d' + 1 ≤ Y.2.2.2.1) (hk1 : ck + k' ≤ Y.2.2.2.2.1) (hk2 : cn + n' ≤ Y.2.2.2.2.2) (hf : ((isO h a ci).bind fun _ => bind2 F K) = some o) (kk : ∀ x h1, K x h1 = some o → AW g own cc Y res (pc + 3) L (.ref x :: st) h1 (ck + k') (cn + n')) : AW g own cc Y res pc L st0 h ck cn := by
  obtain ⟨_, e0, hf⟩ := bnd hf
  obtain ⟨fs, hrv⟩ := isO_some e0
  obtain ⟨x, h1, e1, hf⟩ := bnd2 hf
  exact aw_callV hw (hM x h1 e1) hci hrv hd hn hst hcat hdd hk1 hk2 (kk x h1 hf)
theorem aw_cV_v {y : MethodName} {cb : ByteArray} {mL' d' k' n' idx na : Nat} {ret' : Option FieldType} {a : Nat} {ci : Nat} {T : u_T} {N : Nat} (As : List Value) {st0 : List Value} {F : Option (Hea)} {K : Hea → Option ρ} (hw : WV own idx y cb mL' ret' na) (hci : vwCl[ci]? = some (y.cls, T, N)) (hM : ∀ h1, F = some h1 → MC g y cb mL' ret' d' k' n' (.ref a :: As) h (none, h1)) (hd : decode cc pc = .ok (.invokevirtual idx, 3)) (hn : As.length = na) (hst : st0 = As.reverse ++ .ref a :: st) (hcat : (st.map fun v => v.category).sum ≤ 8) (hdd : d' + 1 ≤ Y.2.2.2.1) (hk1 : ck + k' ≤ Y.2.2.2.2.1) (hk2 : cn + n' ≤ Y.2.2.2.2.2) (hf : ((isO h a ci).bind fun _ => F.bind K) = some o) (kk : ∀ h1, K h1 = some o → AW g own cc Y res (pc + 3) L (st) h1 (ck + k') (cn + n')) : AW g own cc Y res pc L st0 h ck cn := by
  obtain ⟨_, e0, hf⟩ := bnd hf
  obtain ⟨fs, hrv⟩ := isO_some e0
  obtain ⟨h1, e1, hf⟩ := bnd hf
  exact aw_callV hw (hM h1 e1) hci hrv hd hn hst hcat hdd hk1 hk2 (kk h1 hf)
theorem aw_cS_i {y : MethodName} {cb : ByteArray} {mL' d' k' n' idx na : Nat} {ret' : Option FieldType} (As : List Value) {st0 : List Value} {F : Option (Int32)} {K : Int32 → Option ρ} (hw : WS own idx y cb mL' ret' na) (hM : ∀ x, F = some x → MC g y cb mL' ret' d' k' n' As h (some (.int x), h)) (hd : decode cc pc = .ok (.invokestatic idx, 3)) (hn : As.length = na) (hst : st0 = As.reverse ++ st) (hcat : (st.map fun v => v.category).sum ≤ 8) (hdd : d' + 1 ≤ Y.2.2.2.1) (hk1 : ck + k' ≤ Y.2.2.2.2.1) (hk2 : cn + n' ≤ Y.2.2.2.2.2) (hf : F.bind K = some o) (kk : ∀ x, K x = some o → AW g own cc Y res (pc + 3) L (.int x :: st) h (ck + k') (cn + n')) : AW g own cc Y res pc L st0 h ck cn := by
  obtain ⟨x, e1, hf⟩ := bnd hf
  exact aw_callS hw (hM x e1) hd hn hst hcat hdd hk1 hk2 (kk x hf)
theorem aw_cS_l {y : MethodName} {cb : ByteArray} {mL' d' k' n' idx na : Nat} {ret' : Option FieldType} (As : List Value) {st0 : List Value} {F : Option (Int64)} {K : Int64 → Option ρ} (hw : WS own idx y cb mL' ret' na) (hM : ∀ x, F = some x → MC g y cb mL' ret' d' k' n' As h (some (.long x), h)) (hd : decode cc pc = .ok (.invokestatic idx, 3)) (hn : As.length = na) (hst : st0 = As.reverse ++ st) (hcat : (st.map fun v => v.category).sum ≤ 8) (hdd : d' + 1 ≤ Y.2.2.2.1) (hk1 : ck + k' ≤ Y.2.2.2.2.1) (hk2 : cn + n' ≤ Y.2.2.2.2.2) (hf : F.bind K = some o) (kk : ∀ x, K x = some o → AW g own cc Y res (pc + 3) L (.long x :: st) h (ck + k') (cn + n')) : AW g own cc Y res pc L st0 h ck cn := by
  obtain ⟨x, e1, hf⟩ := bnd hf
  exact aw_callS hw (hM x e1) hd hn hst hcat hdd hk1 hk2 (kk x hf)
theorem aw_cS_wi {y : MethodName} {cb : ByteArray} {mL' d' k' n' idx na : Nat} {ret' : Option FieldType} (As : List Value) {st0 : List Value} {F : Option (Int32 × Hea)} {K : Int32 → Hea → Option ρ} (hw : WS own idx y cb mL' ret' na) (hM : ∀ x h1, F = some (x, h1) → MC g y cb mL' ret' d' k' n' As h (some (.int x), h1)) (hd : decode cc pc = .ok (.invokestatic idx, 3)) (hn : As.length = na) (hst : st0 = As.reverse ++ st) (hcat : (st.map fun v => v.category).sum ≤ 8) (hdd : d' + 1 ≤ Y.2.2.2.1) (hk1 : ck + k' ≤ Y.2.2.2.2.1) (hk2 : cn + n' ≤ Y.2.2.2.2.2) (hf : bind2 F K = some o) (kk : ∀ x h1, K x h1 = some o → AW g own cc Y res (pc + 3) L (.int x :: st) h1 (ck + k') (cn + n')) : AW g own cc Y res pc L st0 h ck cn := by
  obtain ⟨x, h1, e1, hf⟩ := bnd2 hf
  exact aw_callS hw (hM x h1 e1) hd hn hst hcat hdd hk1 hk2 (kk x h1 hf)
theorem aw_cS_wl {y : MethodName} {cb : ByteArray} {mL' d' k' n' idx na : Nat} {ret' : Option FieldType} (As : List Value) {st0 : List Value} {F : Option (Int64 × Hea)} {K : Int64 → Hea → Option ρ} (hw : WS own idx y cb mL' ret' na) (hM : ∀ x h1, F = some (x, h1) → MC g y cb mL' ret' d' k' n' As h (some (.long x), h1)) (hd : decode cc pc = .ok (.invokestatic idx, 3)) (hn : As.length = na) (hst : st0 = As.reverse ++ st) (hcat : (st.map fun v => v.category).sum ≤ 8) (hdd : d' + 1 ≤ Y.2.2.2.1) (hk1 : ck + k' ≤ Y.2.2.2.2.1) (hk2 : cn + n' ≤ Y.2.2.2.2.2) (hf : bind2 F K = some o) (kk : ∀ x h1, K x h1 = some o → AW g own cc Y res (pc + 3) L (.long x :: st) h1 (ck + k') (cn + n')) : AW g own cc Y res pc L st0 h ck cn := by
  obtain ⟨x, h1, e1, hf⟩ := bnd2 hf
  exact aw_callS hw (hM x h1 e1) hd hn hst hcat hdd hk1 hk2 (kk x h1 hf)
theorem aw_cS_wa {y : MethodName} {cb : ByteArray} {mL' d' k' n' idx na : Nat} {ret' : Option FieldType} (As : List Value) {st0 : List Value} {F : Option (Nat × Hea)} {K : Nat → Hea → Option ρ} (hw : WS own idx y cb mL' ret' na) (hM : ∀ x h1, F = some (x, h1) → MC g y cb mL' ret' d' k' n' As h (some (.ref x), h1)) (hd : decode cc pc = .ok (.invokestatic idx, 3)) (hn : As.length = na) (hst : st0 = As.reverse ++ st) (hcat : (st.map fun v => v.category).sum ≤ 8) (hdd : d' + 1 ≤ Y.2.2.2.1) (hk1 : ck + k' ≤ Y.2.2.2.2.1) (hk2 : cn + n' ≤ Y.2.2.2.2.2) (hf : bind2 F K = some o) (kk : ∀ x h1, K x h1 = some o → AW g own cc Y res (pc + 3) L (.ref x :: st) h1 (ck + k') (cn + n')) : AW g own cc Y res pc L st0 h ck cn := by
  obtain ⟨x, h1, e1, hf⟩ := bnd2 hf
  exact aw_callS hw (hM x h1 e1) hd hn hst hcat hdd hk1 hk2 (kk x h1 hf)
theorem aw_cS_v {y : MethodName} {cb : ByteArray} {mL' d' k' n' idx na : Nat} {ret' : Option FieldType} (As : List Value) {st0 : List Value} {F : Option (Hea)} {K : Hea → Option ρ} (hw : WS own idx y cb mL' ret' na) (hM : ∀ h1, F = some h1 → MC g y cb mL' ret' d' k' n' As h (none, h1)) (hd : decode cc pc = .ok (.invokestatic idx, 3)) (hn : As.length = na) (hst : st0 = As.reverse ++ st) (hcat : (st.map fun v => v.category).sum ≤ 8) (hdd : d' + 1 ≤ Y.2.2.2.1) (hk1 : ck + k' ≤ Y.2.2.2.2.1) (hk2 : cn + n' ≤ Y.2.2.2.2.2) (hf : F.bind K = some o) (kk : ∀ h1, K h1 = some o → AW g own cc Y res (pc + 3) L (st) h1 (ck + k') (cn + n')) : AW g own cc Y res pc L st0 h ck cn := by
  obtain ⟨h1, e1, hf⟩ := bnd hf
  exact aw_callS hw (hM h1 e1) hd hn hst hcat hdd hk1 hk2 (kk h1 hf)
theorem aw_cSN_i {y : MethodName} {cb : ByteArray} {mL' d' k' n' idx na : Nat} {ret' : Option FieldType} (As : List Value) {st0 : List Value} {F : Option (Int32)} {K : Int32 → Option ρ} (hw : WN own idx y cb mL' ret' na) (hsta : Cond.static y ∈ tb) (hM : ∀ x, F = some x → MC g y cb mL' ret' d' k' n' As h (some (.int x), h)) (hd : decode cc pc = .ok (.invokestatic idx, 3)) (hn : As.length = na) (hst : st0 = As.reverse ++ st) (hcat : (st.map fun v => v.category).sum ≤ 8) (hdd : d' + 1 ≤ Y.2.2.2.1) (hk1 : ck + k' ≤ Y.2.2.2.2.1) (hk2 : cn + n' ≤ Y.2.2.2.2.2) (hf : F.bind K = some o) (kk : ∀ x, K x = some o → AW g own cc Y res (pc + 3) L (.int x :: st) h (ck + k') (cn + n')) : AW g own cc Y res pc L st0 h ck cn := by
  obtain ⟨x, e1, hf⟩ := bnd hf
  exact aw_callSN hw hsta (hM x e1) hd hn hst hcat hdd hk1 hk2 (kk x hf)
theorem aw_cI_v {y : MethodName} {cb : ByteArray} {mL' d' k' n' idx na : Nat} {a : Nat} (As : List Value) {st0 : List Value} {F : Option (Hea)} {K : Hea → Option ρ} (hw : WI own idx y cb mL' na) (hM : ∀ h1, F = some h1 → MC g y cb mL' none d' k' n' (.ref a :: As) h (none, h1)) (hd : decode cc pc = .ok (.invokespecial idx, 3)) (hn : As.length = na) (hst : st0 = As.reverse ++ .ref a :: st) (hcat : (st.map fun v => v.category).sum ≤ 8) (hdd : d' + 1 ≤ Y.2.2.2.1) (hk1 : ck + k' ≤ Y.2.2.2.2.1) (hk2 : cn + n' ≤ Y.2.2.2.2.2) (hf : F.bind K = some o) (kk : ∀ h1, K h1 = some o → AW g own cc Y res (pc + 3) L (st) h1 (ck + k') (cn + n')) : AW g own cc Y res pc L st0 h ck cn := by
  obtain ⟨h1, e1, hf⟩ := bnd hf
  exact aw_callI hw (hM h1 e1) hd hn hst hcat hdd hk1 hk2 (kk h1 hf)
theorem aw_cIN_v {y : MethodName} {cb : ByteArray} {mL' d' k' n' idx na : Nat} {a : Nat} (As : List Value) {st0 : List Value} {F : Option (Hea)} {K : Hea → Option ρ} (hw : WN own idx y cb mL' none na) (hin : Cond.instanceMethod y ∈ tb) (hnm : y.name = "<init>") (hM : ∀ h1, F = some h1 → MC g y cb mL' none d' k' n' (.ref a :: As) h (none, h1)) (hd : decode cc pc = .ok (.invokespecial idx, 3)) (hn : As.length = na) (hst : st0 = As.reverse ++ .ref a :: st) (hcat : (st.map fun v => v.category).sum ≤ 8) (hdd : d' + 1 ≤ Y.2.2.2.1) (hk1 : ck + k' ≤ Y.2.2.2.2.1) (hk2 : cn + n' ≤ Y.2.2.2.2.2) (hf : F.bind K = some o) (kk : ∀ h1, K h1 = some o → AW g own cc Y res (pc + 3) L (st) h1 (ck + k') (cn + n')) : AW g own cc Y res pc L st0 h ck cn := by
  obtain ⟨h1, e1, hf⟩ := bnd hf
  exact aw_callIN hw hin hnm (hM h1 e1) hd hn hst hcat hdd hk1 hk2 (kk h1 hf)
theorem aw_zretb {x o : Int32} (hd : decode cc pc = .ok (.ireturn, 1)) (hr : Y.2.1 = some .boolean) (hf : zb x = some o) (hres : res = (some (.int o), h)) : AW g own cc Y res pc L [.int x] h Y.2.2.2.2.1 Y.2.2.2.2.2 := by
  unfold zb at hf
  split at hf
  · next hx =>
    cases hf
    rcases hx with rfl | rfl
    · exact aw_zret hd hr rfl hres
    · exact aw_zret hd hr rfl hres
  · cases hf
theorem aw_ldcw {i : Nat} {v : Int32} (hw : Cond.constant own i v ∈ tb) (hd : decode cc pc = .ok (.ldc_w i, 3)) (kk : AW g own cc Y res (pc + 3) L (.int v :: st) h ck cn) : AW g own cc Y res pc L st h ck cn :=
  fun l p e s m args below meth c C H locs ls hP hS hl => lv_ldcw C.1 C.2.1 C.2.2.2.2.2.2.1 (C.2.2.2.2.2.2.2.1 _ hw) hd (kk l p e s m args below meth c C H locs ls hP hS hl)
theorem aw_ldcS {i q : Nat} {tx : String} (hw : ∀ U, Kn g U → vk_R own i tx q U) (hd : decode cc pc = .ok (.ldc i, 2)) (kk : AW g own cc Y res (pc + 2) L (.ref q :: st) h ck cn) : AW g own cc Y res pc L st h ck cn :=
  fun l p e s m args below meth c C H locs ls hP hS hl => va_ldcS C.1 C.2.1 C.2.2.2.2.2.2.1 (hw s C.2.2.2.2.2.2.2.2) hd (kk l p e s m args below meth c C H locs ls hP hS hl)
theorem aw_sLd {i : Int32} {K : Int32 → Option ρ} (hd : decode cc pc = .ok (.iaload, 1)) (hf : (sLd (gL g) (gX g) i).bind K = some o) (kk : ∀ x, K x = some o → AW g own cc Y res (pc + 1) L (.int x :: st) h ck cn) : AW g own cc Y res pc L (.int i :: .ref (gS g) :: st) h ck cn := by
  obtain ⟨x, h1, h2⟩ := bnd hf
  unfold sLd at h1
  split at h1
  · next hin =>
    cases h1
    intro l p e s m args below meth c C H locs ls hP hS hl
    obtain ⟨hX, hb, -, hsz⟩ := Kn.lst C.2.2.2.2.2.2.2.2
    exact va_sld C.1 C.2.1 hX (Nat.lt_of_lt_of_le hb hsz) (Nat.not_le.mpr hb) hS (inR_in hin) hd (kk _ h2 l p e s m args below meth c C H locs ls hP hS hl)
  · cases h1
theorem aw_sLen (hd : decode cc pc = .ok (.arraylength, 1)) (kk : AW g own cc Y res (pc + 1) L (.int (Int32.ofNat (gL g)) :: st) h ck cn) : AW g own cc Y res pc L (.ref (gS g) :: st) h ck cn := by
  intro l p e s m args below meth c C H locs ls hP hS hl
  obtain ⟨hX, hb, -, hsz⟩ := Kn.lst C.2.2.2.2.2.2.2.2
  exact va_slen C.1 C.2.1 hX (Nat.lt_of_lt_of_le hb hsz) (Nat.not_le.mpr hb) hS hd (kk l p e s m args below meth c C H locs ls hP hS hl)
theorem aw_newB {idx ci N : Nat} {C' : String} {T : u_T} {ty : Nat → FieldType} {fs : List Value} {K : Nat → Hea → Option ρ} (hck : CKd ci C' T N ty) (hw : Cond.classLink own idx C' ∈ tb ∧ Cond.instantiable C' N ∈ tb ∧ Cond.initialized C' ∈ tb) (hfs : ∀ j, j < N → defaultValue (ty j) = vp_V fs j) (hd : decode cc pc = .ok (.new idx, 3)) (hk1 : ck + 1 ≤ Y.2.2.2.2.1) (hk2 : cn + N ≤ Y.2.2.2.2.2) (hf : bind2 (nwO h (cO ci fs)) K = some o) (kk : ∀ q h', K q h' = some o → AW g own cc Y res (pc + 3) L (.ref q :: st) h' (ck + 1) (cn + N)) : AW g own cc Y res pc L st h ck cn :=
  aw_new hck hw hfs hd hk1 hk2 (kk _ _ hf)
theorem aw_newaB {kd N : Nat} {n : Int32} {atype : ArrayType} {a0 : vp_A} {K : Nat → Hea → Option ρ} (hw : Cond.arrayClass (newarray.typeOf atype) ∈ tb) (ht : ∀ cy : Nat → ClassId, (tysOf cy)[kd]? = some (cy kd, newarray.typeOf atype)) (hra : ∀ (U : State) (cA : ClassId), va_RA U cA (newarray.typeOf atype) → U.vm.findClass ("[" ++ (newarray.typeOf atype).toString) = some cA) (ha : ∀ cA : ClassId, vp_cell cA a0 = arrV cA N (fun _ => defaultValue (newarray.typeOf atype))) (hn : ¬ n < 0) (hN : n.toNatClampNeg = N) (hbytes : N * componentBytes (newarray.typeOf atype) ≤ 536870912) (hd : decode cc pc = .ok (.newarray atype, 2)) (hk1 : ck + 1 ≤ Y.2.2.2.2.1) (hk2 : cn + N ≤ Y.2.2.2.2.2) (hf : bind2 (nwO h (.inl (kd, a0))) K = some o) (kk : ∀ q h', K q h' = some o → AW g own cc Y res (pc + 2) L (.ref q :: st) h' (ck + 1) (cn + N)) : AW g own cc Y res pc L (.int n :: st) h ck cn :=
  aw_newa hw ht hra ha hn hN hbytes hd hk1 hk2 (kk _ _ hf)
theorem aw_anewB {idx kd N : Nat} {n : Int32} {E : String} {K : Nat → Hea → Option ρ} (hw : Cond.classLink own idx E ∈ tb) (ho : ∀ U, Kn g U → va_AO E U) (ht : ∀ cy : Nat → ClassId, (tysOf cy)[kd]? = some (cy kd, .object E)) (hn : ¬ n < 0) (hN : n.toNatClampNeg = N) (hbytes : N * 4 ≤ 536870912) (hd : decode cc pc = .ok (.anewarray idx, 3)) (hk1 : ck + 1 ≤ Y.2.2.2.2.1) (hk2 : cn + N ≤ Y.2.2.2.2.2) (hf : bind2 (nwO h (cR kd N (fun _ => none))) K = some o) (kk : ∀ q h', K q h' = some o → AW g own cc Y res (pc + 3) L (.ref q :: st) h' (ck + 1) (cn + N)) : AW g own cc Y res pc L (.int n :: st) h ck cn :=
  aw_anew hw ho ht hn hN hbytes hd hk1 hk2 (kk _ _ hf)
theorem aw_zretw {x z : Int32} {h1 : Hea} (hd : decode cc pc = .ok (.ireturn, 1)) (hr : Y.2.1 = some .boolean) (hf : (zb x).bind (fun z => some (z, h)) = some (z, h1)) (hres : res = (some (.int z), h1)) : AW g own cc Y res pc L [.int x] h Y.2.2.2.2.1 Y.2.2.2.2.2 := by
  obtain ⟨w, e1, e2⟩ := bnd hf
  cases e2
  exact aw_zretb hd hr e1 hres
theorem aw_tsK {dflt lo hi : Int} {offs : Array Int} {len : Nat} {x v : Int32} {off k : Int} {tgt : Nat} (hx : x = v) (hk : v.toInt = k) (hd : decode cc pc = .ok (.tableswitch dflt lo hi offs, len)) (h1 : ¬ k < lo) (h2 : ¬ hi < k) (ho : offs[(k - lo).toNat]? = some off) (ht : (pc : Int) + off = (tgt : Int)) (kk : AW g own cc Y res tgt L st h ck cn) : AW g own cc Y res pc L (.int x :: st) h ck cn := by
  have e : x.toInt = k := by rw [hx]; exact hk
  exact aw_tsIn hd (by rw [e]; exact h1) (by rw [e]; exact h2) (by rw [e]; exact ho) ht kk
end
theorem ts_out {x : Int32} (lo : Int) (n : Nat) (hlo : -2147483648 ≤ lo) (hn : lo + n ≤ 2147483648) (hh : ∀ i : Nat, i < n → ¬ x = Int32.ofInt (lo + i)) : x.toInt < lo ∨ lo + n - 1 < x.toInt := by
  by_cases h1 : x.toInt < lo
  · exact Or.inl h1
  · by_cases h2 : lo + n - 1 < x.toInt
    · exact Or.inr h2
    · exfalso
      refine hh (x.toInt - lo).toNat (by omega) ?_
      have e : lo + ((x.toInt - lo).toNat : Int) = x.toInt := by omega
      rw [e]
      exact (Int32.ofInt_toInt x).symm
theorem tbl_in (ws : List Cond) (ps : List Nat) (hp : ws = ps.filterMap (fun i => tables_1[i]?)) (hg : ws.all goodWord = true) : ∀ w ∈ ws, w ∈ tb := by
  intro w hw
  have h1 := List.all_eq_true.mp hg w hw
  rw [hp] at hw
  obtain ⟨i, -, hi⟩ := List.mem_filterMap.mp hw
  exact tb_of i hi h1
