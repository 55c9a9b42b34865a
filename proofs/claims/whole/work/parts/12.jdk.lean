/-! ===== the JDK's own: Integer.compare, String.length, String.charAt ===== -/
set_option maxRecDepth 100000 in
theorem c_icmp (g : Gx) (h : Hea) (x y : Int32) (o : Int32) (hf : f_icmp x y = some o) : MC g yJ6_compare_7cf53 cJ6_compare_7cf53 2 (some .int) 0 0 0 [.int x, .int y] h (some (.int o), h) := by
  refine MC_of (own := RJ6) (nm := "compare") [(0, .int x), (1, .int y)] rfl rfl (by decide +kernel) (Nat.le_of_ble_eq_true rfl) rfl ?_
  unfold f_icmp at hf
  refine aw_iload_n 0 dJ6_compare_7cf53_0 rfl ?_
  refine aw_iload_n 1 dJ6_compare_7cf53_1 rfl ?_
  refine aw_icmp_ge (tgt := 9) dJ6_compare_7cf53_2 rfl (fun hc => ?_) (fun hc => ?_)
  · have hf := itp0 hc hf
    refine aw_iload_n 0 dJ6_compare_7cf53_9 rfl ?_
    refine aw_iload_n 1 dJ6_compare_7cf53_10 rfl ?_
    refine aw_icmp_ne (tgt := 18) dJ6_compare_7cf53_11 rfl (fun hc => ?_) (fun hc => ?_)
    · have hf := itn0 hc hf
      refine aw_iconst (v := 1) dJ6_compare_7cf53_18 rfl ?_
      cases hf
      exact aw_iret dJ6_compare_7cf53_19 rfl rfl
    · have hf := itp0 hc hf
      refine aw_iconst (v := 0) dJ6_compare_7cf53_14 rfl ?_
      refine aw_goto (tgt := 19) dJ6_compare_7cf53_15 rfl ?_
      cases hf
      exact aw_iret dJ6_compare_7cf53_19 rfl rfl
  · have hf := itn0 hc hf
    refine aw_iconst (v := -1) dJ6_compare_7cf53_5 rfl ?_
    refine aw_goto (tgt := 19) dJ6_compare_7cf53_6 rfl ?_
    cases hf
    exact aw_iret dJ6_compare_7cf53_19 rfl rfl
section
variable {g : Gx} {own : String} {cc : ByteArray} {Y : Ym} {res : Option Value × Hea} {pc : Nat} {L : List (Nat × Value)} {st : List Value} {h : Hea} {ck cn : Nat} {ρ : Type} {o : ρ}
theorem jw_9 : Cond.fieldLink RJ0 9 "java/lang/String" "value" "[B" ∈ tb := tb_of 1280 (by decide +kernel) rfl
theorem jw_15 : Cond.fieldLink RJ0 15 "java/lang/String" "coder" "B" ∈ tb := tb_of 1281 (by decide +kernel) rfl
theorem jw_38 : Cond.fieldLink RJ0 38 "java/lang/String" "COMPACT_STRINGS" "Z" ∈ tb := tb_of 426 (by decide +kernel) rfl
theorem jw_1053 : Cond.fieldLink RJ0 1053 "jdk/internal/util/Preconditions" "SIOOBE_FORMATTER" "Ljava/util/function/BiFunction;" ∈ tb := tb_of 442 (by decide +kernel) rfl
theorem aw_sgV {w : Nat} (hw : w < 5) (hd : decode cc pc = .ok (.getfield 9, 3)) (kk : AW g RJ0 cc Y res (pc + 3) L (.ref (g.2.2.2.1 w) :: st) h ck cn) : AW g RJ0 cc Y res pc L (.ref (g.2.2.1 w) :: st) h ck cn :=
  fun l p e s m args below meth c C H locs ls hP hS hl => vk_getf C.1 C.2.1 ((Kn.str C.2.2.2.2.2.2.2.2).1 w hw).2.2.1 hS C.2.2.2.2.2.2.1 (C.2.2.2.2.2.2.2.1 _ jw_9) (fun _ q => q) hd (kk l p e s m args below meth c C H locs ls hP hS hl)
theorem aw_sgC {w : Nat} (hw : w < 5) (hd : decode cc pc = .ok (.getfield 15, 3)) (kk : AW g RJ0 cc Y res (pc + 3) L (.int 0 :: st) h ck cn) : AW g RJ0 cc Y res pc L (.ref (g.2.2.1 w) :: st) h ck cn :=
  fun l p e s m args below meth c C H locs ls hP hS hl => vk_getf C.1 C.2.1 ((Kn.str C.2.2.2.2.2.2.2.2).1 w hw).2.1 hS C.2.2.2.2.2.2.1 (C.2.2.2.2.2.2.2.1 _ jw_15) (fun _ q => q) hd (kk l p e s m args below meth c C H locs ls hP hS hl)
theorem aw_stl {w : Nat} (hw : w < 5) (hd : decode cc pc = .ok (.arraylength, 1)) (kk : AW g own cc Y res (pc + 1) L (.int (Int32.ofNat (lenS.getD w 0)) :: st) h ck cn) : AW g own cc Y res pc L (.ref (g.2.2.2.1 w) :: st) h ck cn :=
  fun l p e s m args below meth c C H locs ls hP hS hl => va_tlen C.1 C.2.1 ((Kn.str C.2.2.2.2.2.2.2.2).1 w hw).2.2.2 hS rfl hd (kk l p e s m args below meth c C H locs ls hP hS hl)
theorem aw_stb {w : Nat} {i : Int32} (hw : w < 5) (hin : inR i (lenS.getD w 0) = true) (hd : decode cc pc = .ok (.baload, 1)) (kk : AW g own cc Y res (pc + 1) L (.int ((bytS.getD w []).getD i.toNatClampNeg 0) :: st) h ck cn) : AW g own cc Y res pc L (.int i :: .ref (g.2.2.2.1 w) :: st) h ck cn :=
  fun l p e s m args below meth c C H locs ls hP hS hl => va_tb C.1 C.2.1 ((Kn.str C.2.2.2.2.2.2.2.2).1 w hw).2.2.2 hS (inR_in hin) rfl hd (kk l p e s m args below meth c C H locs ls hP hS hl)
theorem aw_gsC (hd : decode cc pc = .ok (.getstatic 38, 3)) (kk : AW g RJ0 cc Y res (pc + 3) L (.int 1 :: st) h ck cn) : AW g RJ0 cc Y res pc L st h ck cn :=
  fun l p e s m args below meth c C H locs ls hP hS hl => va_gets C.1 C.2.1 (Kn.cmp C.2.2.2.2.2.2.2.2) hS C.2.2.2.2.2.2.1 (C.2.2.2.2.2.2.2.1 _ jw_38) (fun _ q => q) hd (kk l p e s m args below meth c C H locs ls hP hS hl)
theorem aw_gsQ (hd : decode cc pc = .ok (.getstatic 1053, 3)) (kk : ∀ v : Value, (v = .null ∨ ∃ t, v = .ref t) → AW g RJ0 cc Y res (pc + 3) L (v :: st) h ck cn) : AW g RJ0 cc Y res pc L st h ck cn := by
  intro l p e s m args below meth c C H locs ls hP hS hl
  rcases Kn.sio C.2.2.2.2.2.2.2.2 with hZ | ⟨t, hZ⟩
  · exact va_gets C.1 C.2.1 hZ hS C.2.2.2.2.2.2.1 (C.2.2.2.2.2.2.2.1 _ jw_1053) (fun _ q => q) hd (kk _ (Or.inl rfl) l p e s m args below meth c C H locs ls hP hS hl)
  · exact va_gets C.1 C.2.1 hZ hS C.2.2.2.2.2.2.1 (C.2.2.2.2.2.2.2.1 _ jw_1053) (fun _ q => q) hd (kk _ (Or.inr ⟨t, rfl⟩) l p e s m args below meth c C H locs ls hP hS hl)
theorem aw_i2c {x v : Int32} (hd : decode cc pc = .ok (.i2c, 1)) (hv : (x.toUInt32 % 65536).toInt32 = v) (kk : AW g own cc Y res (pc + 1) L (.int v :: st) h ck cn) : AW g own cc Y res pc L (.int x :: st) h ck cn :=
  fun l p e s m args below meth c C H locs ls hP hS hl => lv_i2c C.1 C.2.1 hd hv (kk l p e s m args below meth c C H locs ls hP hS hl)
/-- a call on a String constant -/
theorem aw_callVS {y : MethodName} {cb : ByteArray} {mL' : Nat} {ret' : Option FieldType} {d' idx w na : Nat} {As : List Value} {st0 : List Value} {r : Option Value}
    (hw5 : w < 5) (hy : y.cls = "java/lang/String") (hw : WV own idx y cb mL' ret' na) (hM : MC g y cb mL' ret' d' 0 0 (.ref (g.2.2.1 w) :: As) h (r, h)) (hd : decode cc pc = .ok (.invokevirtual idx, 3)) (hn : As.length = na) (hst : st0 = As.reverse ++ .ref (g.2.2.1 w) :: st) (hcat : (st.map fun v => v.category).sum ≤ 8) (hdd : d' + 1 ≤ Y.2.2.2.1) (hk1 : ck ≤ Y.2.2.2.2.1) (hk2 : cn ≤ Y.2.2.2.2.2)
    (kk : AW g own cc Y res (pc + 3) L (r.toList ++ st) h ck cn) : AW g own cc Y res pc L st0 h ck cn := by
  intro l p e s m args below meth c C H locs ls hP hS hl
  obtain ⟨⟨w1, w2, w3, w4, w5⟩, w6, w7⟩ := hw
  have hts := C.2.2.2.2.2.2.2.1
  have hG : GoodIn tb (wsV own idx y.cls y (wsM y cb mL' ret')) := fun w hw => by
    unfold wsV at hw
    rcases List.mem_append.mp hw with q | q
    · have : w ∈ tb := by
        simp only [List.mem_cons, List.not_mem_nil, or_false] at q
        rcases q with rfl | rfl | rfl | rfl
        · exact w1
        · exact w6
        · exact w7
        · exact w2
      exact ⟨this, tb_good w this⟩
    · exact gin w3 w q
  refine aw_run (mc := 0) (ms := 0) kk C hS hl (va_runV (As := As) (rest := st) ⟨C.1, C.2.1, C.2.2.1, C.2.2.2.2.2.2.1, hts⟩ (hM l) (cwV na hts hG rfl rfl rfl ⟨rfl, w4⟩ (room_ok hdd w5)) ⟨MPc_blind _ _ _, by rw [hy]; exact vk_recv (Kn.str C.2.2.2.2.2.2.2.2) hw5 hS, fun U hU hW => ⟨rfl, by rw [hU]; exact hP, C.2.2.2.2.2.2.2.2.to hS hU hW⟩⟩ rfl hn hl.1 hst (lv_room hcat) hd ⟨hk1, hk2⟩)
end
theorem wV_RJ0_335 : WV RJ0 335 yJ0_coder_7d493 cJ0_coder_7d493 1 (some .byte) 0 := ⟨⟨tb_of 422 (by decide +kernel) rfl, tb_of 11 (by decide +kernel) rfl, tb_of 425 (by decide +kernel) rfl, ⟨by decide +kernel, by decide +kernel, by decide +kernel⟩, by decide⟩, tb_of 423 (by decide +kernel) rfl, tb_of 424 (by decide +kernel) rfl⟩
theorem wV_RJ0_492 : WV RJ0 492 yJ0_isLatin1_aae02 cJ0_isLatin1_aae02 1 (some .boolean) 0 := ⟨⟨tb_of 432 (by decide +kernel) rfl, tb_of 11 (by decide +kernel) rfl, tb_of 435 (by decide +kernel) rfl, ⟨by decide +kernel, by decide +kernel, by decide +kernel⟩, by decide⟩, tb_of 433 (by decide +kernel) rfl, tb_of 434 (by decide +kernel) rfl⟩
theorem wS_RJ0_495 : WS RJ0 495 yJ1_charAt_3b067 cJ1_charAt_3b067 2 (some .char) 2 := ⟨⟨tb_of 436 (by decide +kernel) rfl, tb_of 12 (by decide +kernel) rfl, tb_of 438 (by decide +kernel) rfl, ⟨by decide +kernel, by decide +kernel, by decide +kernel⟩, by decide⟩, tb_of 437 (by decide +kernel) rfl⟩
theorem wS_RJ1_9 : WS RJ1 9 yJ0_checkIndex_df160 cJ0_checkIndex_df160 2 none 2 := ⟨⟨tb_of 439 (by decide +kernel) rfl, tb_of 11 (by decide +kernel) rfl, tb_of 441 (by decide +kernel) rfl, ⟨by decide +kernel, by decide +kernel, by decide +kernel⟩, by decide⟩, tb_of 440 (by decide +kernel) rfl⟩
theorem wS_RJ0_1059 : WS RJ0 1059 yJ3_checkIndex_8e157 cJ3_checkIndex_8e157 3 (some .int) 3 := ⟨⟨tb_of 444 (by decide +kernel) rfl, tb_of 13 (by decide +kernel) rfl, tb_of 446 (by decide +kernel) rfl, ⟨by decide +kernel, by decide +kernel, by decide +kernel⟩, by decide⟩, tb_of 445 (by decide +kernel) rfl⟩
theorem pn_RJ0 : plainName RJ0 = true := by decide +kernel
theorem pn_RJ1 : plainName RJ1 = true := by decide +kernel
theorem pn_RJ3 : plainName RJ3 = true := by decide +kernel
set_option maxRecDepth 100000 in
theorem c_coder (g : Gx) (h : Hea) {w : Nat} (hw : w < 5) : MC g yJ0_coder_7d493 cJ0_coder_7d493 1 (some .byte) 0 0 0 [.ref (g.2.2.1 w)] h (some (.int 0), h) := by
  refine MC_of (own := RJ0) (nm := "coder") [(0, .ref (g.2.2.1 w))] rfl rfl pn_RJ0 (Nat.le_of_ble_eq_true rfl) rfl ?_
  refine aw_gsC dJ0_coder_7d493_0 ?_
  refine aw_if_eq (tgt := 13) dJ0_coder_7d493_3 rfl (fun hc => absurd hc (by decide)) (fun _ => ?_)
  refine aw_aload_n 0 dJ0_coder_7d493_6 rfl ?_
  refine aw_sgC hw dJ0_coder_7d493_7 ?_
  refine aw_goto (tgt := 14) dJ0_coder_7d493_10 rfl ?_
  exact aw_zret dJ0_coder_7d493_14 rfl rfl rfl
set_option maxRecDepth 100000 in
theorem c_isLatin1 (g : Gx) (h : Hea) {w : Nat} (hw : w < 5) : MC g yJ0_isLatin1_aae02 cJ0_isLatin1_aae02 1 (some .boolean) 0 0 0 [.ref (g.2.2.1 w)] h (some (.int 1), h) := by
  refine MC_of (own := RJ0) (nm := "isLatin1") [(0, .ref (g.2.2.1 w))] rfl rfl pn_RJ0 (Nat.le_of_ble_eq_true rfl) rfl ?_
  refine aw_gsC dJ0_isLatin1_aae02_0 ?_
  refine aw_if_eq (tgt := 17) dJ0_isLatin1_aae02_3 rfl (fun hc => absurd hc (by decide)) (fun _ => ?_)
  refine aw_aload_n 0 dJ0_isLatin1_aae02_6 rfl ?_
  refine aw_sgC hw dJ0_isLatin1_aae02_7 ?_
  refine aw_if_ne (tgt := 17) dJ0_isLatin1_aae02_10 rfl (fun hc => absurd rfl hc) (fun _ => ?_)
  refine aw_iconst (v := 1) dJ0_isLatin1_aae02_13 rfl ?_
  refine aw_goto (tgt := 18) dJ0_isLatin1_aae02_14 rfl ?_
  exact aw_zret dJ0_isLatin1_aae02_18 rfl rfl rfl
set_option maxRecDepth 100000 in
theorem c_length (g : Gx) (h : Hea) {w : Nat} (hw : w < 5) : MC g yJ0_length_8abf5 cJ0_length_8abf5 1 (some .int) 1 0 0 [.ref (g.2.2.1 w)] h (some (.int (Int32.ofNat (lenS.getD w 0))), h) := by
  refine MC_of (own := RJ0) (nm := "length") [(0, .ref (g.2.2.1 w))] rfl rfl pn_RJ0 (Nat.le_of_ble_eq_true rfl) rfl ?_
  refine aw_aload_n 0 dJ0_length_8abf5_0 rfl ?_
  refine aw_sgV hw dJ0_length_8abf5_1 ?_
  refine aw_stl hw dJ0_length_8abf5_4 ?_
  refine aw_aload_n 0 dJ0_length_8abf5_5 rfl ?_
  refine aw_callVS (As := []) (st := [.int (Int32.ofNat (lenS.getD w 0))]) hw rfl wV_RJ0_335 (c_coder g h hw) dJ0_length_8abf5_6 rfl rfl (Nat.le_of_ble_eq_true rfl) (Nat.le_of_ble_eq_true rfl) (Nat.le_of_ble_eq_true rfl) (Nat.le_of_ble_eq_true rfl) ?_
  refine aw_ishr (x := Int32.ofNat (lenS.getD w 0)) (y := 0) dJ0_length_8abf5_9 ?_
  rw [sb_shr0]
  exact aw_iret dJ0_length_8abf5_10 rfl rfl
set_option maxRecDepth 100000 in
theorem c_pre (g : Gx) (h : Hea) {i n : Int32} {v : Value} (hv : v = .null ∨ ∃ t, v = .ref t) (h0 : ¬ i < 0) (h1 : i < n) : MC g yJ3_checkIndex_8e157 cJ3_checkIndex_8e157 3 (some .int) 0 0 0 [.int i, .int n, v] h (some (.int i), h) := by
  refine MC_of (own := RJ3) (nm := "checkIndex") [(0, .int i), (1, .int n), (2, v)] rfl rfl pn_RJ3 (by rcases hv with rfl | ⟨t, rfl⟩ <;> exact Nat.le_of_ble_eq_true rfl) rfl ?_
  refine aw_iload_n 0 dJ3_checkIndex_8e157_0 rfl ?_
  refine aw_if_lt (tgt := 9) dJ3_checkIndex_8e157_1 rfl (fun hc => absurd hc h0) (fun _ => ?_)
  refine aw_iload_n 0 dJ3_checkIndex_8e157_4 rfl ?_
  refine aw_iload_n 1 dJ3_checkIndex_8e157_5 rfl ?_
  refine aw_icmp_lt (tgt := 16) dJ3_checkIndex_8e157_6 rfl (fun _ => ?_) (fun hc => absurd h1 hc)
  refine aw_iload_n 0 dJ3_checkIndex_8e157_16 rfl ?_
  exact aw_iret dJ3_checkIndex_8e157_17 rfl rfl
set_option maxRecDepth 100000 in
theorem c_sci (g : Gx) (h : Hea) {i n : Int32} (h0 : ¬ i < 0) (h1 : i < n) : MC g yJ0_checkIndex_df160 cJ0_checkIndex_df160 2 none 1 0 0 [.int i, .int n] h (none, h) := by
  refine MC_of (own := RJ0) (nm := "checkIndex") [(0, .int i), (1, .int n)] rfl rfl pn_RJ0 (Nat.le_of_ble_eq_true rfl) rfl ?_
  refine aw_iload_n 0 dJ0_checkIndex_df160_0 rfl ?_
  refine aw_iload_n 1 dJ0_checkIndex_df160_1 rfl ?_
  refine aw_gsQ dJ0_checkIndex_df160_2 (fun v hv => ?_)
  refine aw_callS (As := [.int i, .int n, v]) (st := []) (r := some (.int i)) wS_RJ0_1059 (c_pre g h hv h0 h1) dJ0_checkIndex_df160_5 rfl rfl (Nat.le_of_ble_eq_true rfl) (Nat.le_of_ble_eq_true rfl) (Nat.le_of_ble_eq_true rfl) (Nat.le_of_ble_eq_true rfl) ?_
  refine aw_pop (v := .int i) (st := []) dJ0_checkIndex_df160_8 rfl ?_
  exact aw_vret dJ0_checkIndex_df160_9 rfl rfl
theorem bytS_ok : ∀ w, w < 5 → ∀ i, i < lenS.getD w 0 → (((bytS.getD w []).getD i 0 &&& 255).toUInt32 % 65536).toInt32 = (bytS.getD w []).getD i 0 ∧ narrow .char (.int ((bytS.getD w []).getD i 0)) = .int ((bytS.getD w []).getD i 0) := by decide +kernel
theorem lenS_ok : ∀ w, w < 5 → lenS.getD w 0 < 2147483648 := by decide +kernel
theorem inR_lt {i : Int32} {n : Nat} (hn : n < 2147483648) (hin : inR i n = true) : ¬ i < 0 ∧ i < Int32.ofNat n ∧ i.toNatClampNeg < n := by
  simp only [inR, Bool.and_eq_true, decide_eq_true_eq] at hin
  obtain ⟨h0, h1⟩ := hin
  refine ⟨Int32.not_lt.mpr h0, ?_, h1⟩
  obtain ⟨j, hj, rfl⟩ := nI_of (Int32.not_lt.mpr h0)
  rw [nI_clamp hj] at h1
  exact nI_lt h1 hn
set_option maxRecDepth 100000 in
theorem c_l1 (g : Gx) (h : Hea) {w : Nat} {i : Int32} (hw : w < 5) (hin : inR i (lenS.getD w 0) = true) : MC g yJ1_charAt_3b067 cJ1_charAt_3b067 2 (some .char) 2 0 0 [.ref (g.2.2.2.1 w), .int i] h (some (.int ((bytS.getD w []).getD i.toNatClampNeg 0)), h) := by
  obtain ⟨h0, h1, h2⟩ := inR_lt (lenS_ok w hw) hin
  refine MC_of (own := RJ1) (nm := "charAt") [(0, .ref (g.2.2.2.1 w)), (1, .int i)] rfl rfl pn_RJ1 (Nat.le_of_ble_eq_true rfl) rfl ?_
  refine aw_iload_n 1 dJ1_charAt_3b067_0 rfl ?_
  refine aw_aload_n 0 dJ1_charAt_3b067_1 rfl ?_
  refine aw_stl hw dJ1_charAt_3b067_2 ?_
  refine aw_callS (As := [.int i, .int (Int32.ofNat (lenS.getD w 0))]) (st := []) (r := none) wS_RJ1_9 (c_sci g h h0 h1) dJ1_charAt_3b067_3 rfl rfl (Nat.le_of_ble_eq_true rfl) (Nat.le_of_ble_eq_true rfl) (Nat.le_of_ble_eq_true rfl) (Nat.le_of_ble_eq_true rfl) ?_
  show AW _ _ _ _ _ _ _ [] _ _ _
  refine aw_aload_n 0 dJ1_charAt_3b067_6 rfl ?_
  refine aw_iload_n 1 dJ1_charAt_3b067_7 rfl ?_
  refine aw_stb hw hin dJ1_charAt_3b067_8 ?_
  refine aw_sipush (v := 255) dJ1_charAt_3b067_9 rfl ?_
  refine aw_iand dJ1_charAt_3b067_12 ?_
  refine aw_i2c dJ1_charAt_3b067_13 (bytS_ok w hw _ h2).1 ?_
  exact aw_zret dJ1_charAt_3b067_14 rfl (bytS_ok w hw _ h2).2 rfl
set_option maxRecDepth 100000 in
theorem c_charAt (g : Gx) (h : Hea) {w : Nat} {i : Int32} (hw : w < 5) (hin : inR i (lenS.getD w 0) = true) : MC g yJ0_charAt_5068e cJ0_charAt_5068e 2 (some .char) 3 0 0 [.ref (g.2.2.1 w), .int i] h (some (.int ((bytS.getD w []).getD i.toNatClampNeg 0)), h) := by
  obtain ⟨h0, h1, h2⟩ := inR_lt (lenS_ok w hw) hin
  refine MC_of (own := RJ0) (nm := "charAt") [(0, .ref (g.2.2.1 w)), (1, .int i)] rfl rfl pn_RJ0 (Nat.le_of_ble_eq_true rfl) rfl ?_
  refine aw_aload_n 0 dJ0_charAt_5068e_0 rfl ?_
  refine aw_callVS (As := []) (st := []) (r := some (.int 1)) hw rfl wV_RJ0_492 (c_isLatin1 g h hw) dJ0_charAt_5068e_1 rfl rfl (Nat.le_of_ble_eq_true rfl) (Nat.le_of_ble_eq_true rfl) (Nat.le_of_ble_eq_true rfl) (Nat.le_of_ble_eq_true rfl) ?_
  refine aw_if_eq (x := 1) (st := []) (tgt := 16) dJ0_charAt_5068e_4 rfl (fun hc => absurd hc (by decide)) (fun _ => ?_)
  refine aw_aload_n 0 dJ0_charAt_5068e_7 rfl ?_
  refine aw_sgV hw dJ0_charAt_5068e_8 ?_
  refine aw_iload_n 1 dJ0_charAt_5068e_11 rfl ?_
  refine aw_callS (As := [.ref (g.2.2.2.1 w), .int i]) (st := []) (r := some (.int ((bytS.getD w []).getD i.toNatClampNeg 0))) wS_RJ0_495 (c_l1 g h hw hin) dJ0_charAt_5068e_12 rfl rfl (Nat.le_of_ble_eq_true rfl) (Nat.le_of_ble_eq_true rfl) (Nat.le_of_ble_eq_true rfl) (Nat.le_of_ble_eq_true rfl) ?_
  exact aw_zret (L := _) dJ0_charAt_5068e_15 rfl (bytS_ok w hw _ h2).2 rfl
theorem wS_120 : WV RX4 120 yJ0_length_8abf5 cJ0_length_8abf5 1 (some .int) 0 := ⟨⟨tb_of 418 (by decide +kernel) rfl, tb_of 11 (by decide +kernel) rfl, tb_of 421 (by decide +kernel) rfl, ⟨by decide +kernel, by decide +kernel, by decide +kernel⟩, by decide⟩, tb_of 419 (by decide +kernel) rfl, tb_of 420 (by decide +kernel) rfl⟩
theorem wS_126 : WV RX4 126 yJ0_charAt_5068e cJ0_charAt_5068e 2 (some .char) 1 := ⟨⟨tb_of 428 (by decide +kernel) rfl, tb_of 11 (by decide +kernel) rfl, tb_of 431 (by decide +kernel) rfl, ⟨by decide +kernel, by decide +kernel, by decide +kernel⟩, by decide⟩, tb_of 429 (by decide +kernel) rfl, tb_of 430 (by decide +kernel) rfl⟩
section
variable {g : Gx} {own : String} {cc : ByteArray} {Y : Ym} {res : Option Value × Hea} {pc : Nat} {L : List (Nat × Value)} {st : List Value} {h : Hea} {ck cn : Nat} {ρ : Type} {o : ρ}
theorem aw_strLen {idx w : Nat} {K : Int32 → Option ρ} (hw : WV own idx yJ0_length_8abf5 cJ0_length_8abf5 1 (some .int) 0) (hd : decode cc pc = .ok (.invokevirtual idx, 3)) (hdd : 4 ≤ Y.2.2.2.1) (hcat : (st.map fun v => v.category).sum ≤ 8) (hk : ck ≤ Y.2.2.2.2.1) (hn : cn ≤ Y.2.2.2.2.2) (hf : (sLen w).bind K = some o) (kk : ∀ x, K x = some o → AW g own cc Y res (pc + 3) L (.int x :: st) h ck cn) : AW g own cc Y res pc L (.ref (g.2.2.1 w) :: st) h ck cn := by
  obtain ⟨x, h1, h2⟩ := bnd hf
  unfold sLen at h1
  split at h1
  · next hw5 =>
    cases h1
    exact aw_callVS (As := []) (r := some (.int _)) hw5 rfl hw (c_length g h hw5) hd rfl rfl hcat (by omega) hk hn (kk _ h2)
  · cases h1
theorem aw_strCh {idx w : Nat} {i : Int32} {K : Int32 → Option ρ} (hw : WV own idx yJ0_charAt_5068e cJ0_charAt_5068e 2 (some .char) 1) (hd : decode cc pc = .ok (.invokevirtual idx, 3)) (hdd : 4 ≤ Y.2.2.2.1) (hcat : (st.map fun v => v.category).sum ≤ 8) (hk : ck ≤ Y.2.2.2.2.1) (hn : cn ≤ Y.2.2.2.2.2) (hf : (sCh w i).bind K = some o) (kk : ∀ x, K x = some o → AW g own cc Y res (pc + 3) L (.int x :: st) h ck cn) : AW g own cc Y res pc L (.int i :: .ref (g.2.2.1 w) :: st) h ck cn := by
  obtain ⟨x, h1, h2⟩ := bnd hf
  unfold sCh at h1
  split at h1
  · next hw5 =>
    cases h1
    exact aw_callVS (As := [.int i]) (r := some (.int _)) hw5.1 rfl hw (c_charAt g h hw5.1 hw5.2) hd rfl rfl hcat (by omega) hk hn (kk _ h2)
  · cases h1
end
