/-! ===== contracts, by program: X8_begin .. X8_keep ===== -/
set_option maxRecDepth 100000 in
set_option maxHeartbeats 4000000 in
theorem l_X8_begin_2 (g : Gx) {res : Option Value × Hea} : ∀ (n : Nat) (h : Hea) (y0 : Nat) (y1 : Int32) (y2 : Int32) (y3 : Int32) (ho : Hea) (hf : f_X8_begin_2 n h y0 y3 = some ho) (kk : AW g RX8 cX8_begin (4, none, "begin", 0, 0, 0) res 19 [(0, .ref y0), (1, .int y1), (2, .int y2)] [] ho 0 0), AW g RX8 cX8_begin (4, none, "begin", 0, 0, 0) res 2 [(0, .ref y0), (1, .int y1), (2, .int y2), (3, .int y3)] [] h 0 0 := by
  intro n
  induction n with
  | zero =>
    intro h y0 y1 y2 y3 ho hf kk
    rw [f_X8_begin_2] at hf
    cases hf
  | succ n ih =>
    intro h y0 y1 y2 y3 ho hf kk
    rw [f_X8_begin_2] at hf
    refine aw_iload_n 3 dX8_begin_2 rfl ?_
    refine aw_sipush (v := 151) dX8_begin_3 rfl ?_
    refine aw_icmp_ge (tgt := 19) dX8_begin_6 rfl (fun hc => ?_) (fun hc => ?_)
    · have hf := itp0 hc hf
      obtain rfl := so1 hf
      exact aw_pick [0, 1, 2] rfl kk
    · have hf := itn0 hc hf
      refine aw_aload_n 0 dX8_begin_9 rfl ?_
      refine aw_iload_n 3 dX8_begin_10 rfl ?_
      refine aw_iconst (v := 0) dX8_begin_11 rfl ?_
      refine aw_stI dX8_begin_12 hf (fun h1 hf => ?_)
      refine aw_iinc (y3 + 1) [(3, .int (y3 + 1)), (0, .ref y0), (1, .int y1), (2, .int y2)] 3 dX8_begin_13 rfl rfl (Nat.le_of_ble_eq_true rfl) rfl ?_
      refine aw_goto (tgt := 2) dX8_begin_16 rfl ?_
      refine aw_pick [1, 2, 3, 0] rfl ?_
      exact ih h1 y0 y1 y2 (y3 + 1) ho hf kk
set_option maxRecDepth 100000 in
set_option maxHeartbeats 4000000 in
theorem l_X8_begin_33 (g : Gx) {res : Option Value × Hea} : ∀ (n : Nat) (h : Hea) (y0 : Nat) (y3 : Int32) (ho : Hea) (hf : f_X8_begin_33 n h y0 y3 = some ho) (kk : AW g RX8 cX8_begin (4, none, "begin", 0, 0, 0) res 52 [] [] ho 0 0), AW g RX8 cX8_begin (4, none, "begin", 0, 0, 0) res 33 [(0, .ref y0), (3, .int y3)] [] h 0 0 := by
  intro n
  induction n with
  | zero =>
    intro h y0 y3 ho hf kk
    rw [f_X8_begin_33] at hf
    cases hf
  | succ n ih =>
    intro h y0 y3 ho hf kk
    rw [f_X8_begin_33] at hf
    refine aw_iload_n 1 dX8_begin_33 rfl ?_
    refine aw_bipush (v := 8) dX8_begin_34 rfl ?_
    refine aw_icmp_ge (tgt := 52) dX8_begin_36 rfl (fun hc => ?_) (fun hc => ?_)
    · have hf := itp0 hc hf
      obtain rfl := so1 hf
      exact aw_pick [] rfl kk
    · have hf := itn0 hc hf
      refine aw_aload_n 0 dX8_begin_39 rfl ?_
      refine aw_bipush (v := 7) dX8_begin_40 rfl ?_
      refine aw_iload_n 1 dX8_begin_42 rfl ?_
      refine aw_iadd dX8_begin_43 ?_
      refine aw_iconst (v := 5) dX8_begin_44 rfl ?_
      refine aw_stI dX8_begin_45 hf (fun h1 hf => ?_)
      refine aw_iinc (y3 + 1) [(3, .int (y3 + 1)), (0, .ref y0)] 1 dX8_begin_46 rfl rfl (Nat.le_of_ble_eq_true rfl) rfl ?_
      refine aw_goto (tgt := 33) dX8_begin_49 rfl ?_
      refine aw_pick [1, 0] rfl ?_
      exact ih h1 y0 (y3 + 1) ho hf kk
set_option maxRecDepth 100000 in
set_option maxHeartbeats 4000000 in
theorem c_X8_begin (g : Gx) (h : Hea) (a0 : Nat) (a1 : Int32) (a2 : Int32) (o : Hea) (hf : f_X8_begin h a0 a1 a2 = some o) : MC g yX8_begin cX8_begin 4 none 0 0 0 [.ref a0, .int a1, .int a2] h (none, o) := by
  refine MC_of (own := RX8) (nm := "begin") [(0, .ref a0), (1, .int a1), (2, .int a2)] rfl rfl pn_RX8 (Nat.le_of_ble_eq_true rfl) rfl ?_
  rw [f_X8_begin] at hf
  refine aw_iconst (v := 0) dX8_begin_0 rfl ?_
  refine aw_istore_n [(3, .int 0), (0, .ref a0), (1, .int a1), (2, .int a2)] dX8_begin_1 (Nat.le_of_ble_eq_true rfl) rfl ?_
  refine aw_pick [1, 2, 3, 0] rfl ?_
  refine reg1 (fun (h1 : Hea) => AW g RX8 cX8_begin (4, none, "begin", 0, 0, 0) (none, o) 19 [(0, .ref a0), (1, .int a1), (2, .int a2)] [] h1 0 0) hf (fun h1 hf => ?_) (fun h1 hf hJ => l_X8_begin_2 g  lots h a0 a1 a2 0 h1 hf hJ)
  refine aw_aload_n 0 dX8_begin_19 rfl ?_
  refine aw_iconst (v := 1) dX8_begin_20 rfl ?_
  refine aw_iload_n 1 dX8_begin_21 rfl ?_
  refine aw_stI dX8_begin_22 hf (fun h2 hf => ?_)
  refine aw_aload_n 0 dX8_begin_23 rfl ?_
  refine aw_iconst (v := 2) dX8_begin_24 rfl ?_
  refine aw_iload_n 2 dX8_begin_25 rfl ?_
  refine aw_stI dX8_begin_26 hf (fun h3 hf => ?_)
  refine aw_aload_n 0 dX8_begin_27 rfl ?_
  refine aw_iconst (v := 4) dX8_begin_28 rfl ?_
  refine aw_iconst (v := 1) dX8_begin_29 rfl ?_
  refine aw_stI dX8_begin_30 hf (fun h4 hf => ?_)
  refine aw_iconst (v := 0) dX8_begin_31 rfl ?_
  refine aw_istore_n [(3, .int 0), (0, .ref a0), (1, .int a1), (2, .int a2)] dX8_begin_32 (Nat.le_of_ble_eq_true rfl) rfl ?_
  refine aw_pick [1, 0] rfl ?_
  refine reg1 (fun (h5 : Hea) => AW g RX8 cX8_begin (4, none, "begin", 0, 0, 0) (none, o) 52 [] [] h5 0 0) hf (fun h5 hf => ?_) (fun h5 hf hJ => l_X8_begin_33 g  lots h4 a0 0 h5 hf hJ)
  obtain rfl := so1 hf
  exact aw_vret dX8_begin_52 rfl rfl
set_option maxRecDepth 100000 in
set_option maxHeartbeats 4000000 in
theorem c_X8_init (g : Gx) (h : Hea) (a0 : Nat) (o : Hea) (hf : f_X8_init h a0 = some o) : MC g yX8_init cX8_init 1 none 1 18 1848 [.ref a0] h (none, o) := by
  refine MC_of (own := RX8) (nm := "<init>") [(0, .ref a0)] rfl rfl pn_RX8 (Nat.le_of_ble_eq_true rfl) rfl ?_
  rw [f_X8_init] at hf
  refine aw_aload_n 0 dX8_init_0 rfl ?_
  refine aw_obj ko_RX8_1 dX8_init_1 (Nat.le_of_ble_eq_true rfl) (Nat.le_of_ble_eq_true rfl) ?_
  refine aw_aload_n 0 dX8_init_4 rfl ?_
  refine aw_sipush (v := 399) dX8_init_5 rfl ?_
  refine aw_newaB (atype := .int) (kd := 0) (N := 399) wa_0 (fun _ => rfl) (fun _ _ q => q) (fun _ => rfl) (by decide) (by decide) (Nat.le_of_ble_eq_true rfl) dX8_init_8 (Nat.le_of_ble_eq_true rfl) (Nat.le_of_ble_eq_true rfl) hf (fun q1 h2 hf => ?_)
  refine aw_pR fp_RX8_7 dX8_init_10 rfl rfl (fun _ => rfl) hf (fun h3 hf => ?_)
  refine aw_aload_n 0 dX8_init_13 rfl ?_
  refine aw_sipush (v := 798) dX8_init_14 rfl ?_
  refine aw_newaB (atype := .int) (kd := 0) (N := 798) wa_0 (fun _ => rfl) (fun _ _ q => q) (fun _ => rfl) (by decide) (by decide) (Nat.le_of_ble_eq_true rfl) dX8_init_17 (Nat.le_of_ble_eq_true rfl) (Nat.le_of_ble_eq_true rfl) hf (fun q4 h5 hf => ?_)
  refine aw_pR fp_RX8_13 dX8_init_19 rfl rfl (fun _ => rfl) hf (fun h6 hf => ?_)
  refine aw_aload_n 0 dX8_init_22 rfl ?_
  refine aw_iconst (v := 2) dX8_init_23 rfl ?_
  refine aw_newaB (atype := .boolean) (kd := 2) (N := 2) wa_2 (fun _ => rfl) (fun _ _ q => q) (fun _ => rfl) (by decide) (by decide) (Nat.le_of_ble_eq_true rfl) dX8_init_24 (Nat.le_of_ble_eq_true rfl) (Nat.le_of_ble_eq_true rfl) hf (fun q7 h8 hf => ?_)
  refine aw_pR fp_RX8_16 dX8_init_26 rfl rfl (fun _ => rfl) hf (fun h9 hf => ?_)
  refine aw_aload_n 0 dX8_init_29 rfl ?_
  refine aw_iconst (v := 3) dX8_init_30 rfl ?_
  refine aw_newaB (atype := .int) (kd := 0) (N := 3) wa_0 (fun _ => rfl) (fun _ _ q => q) (fun _ => rfl) (by decide) (by decide) (Nat.le_of_ble_eq_true rfl) dX8_init_31 (Nat.le_of_ble_eq_true rfl) (Nat.le_of_ble_eq_true rfl) hf (fun q10 h11 hf => ?_)
  refine aw_pR fp_RX8_20 dX8_init_33 rfl rfl (fun _ => rfl) hf (fun h12 hf => ?_)
  refine aw_aload_n 0 dX8_init_36 rfl ?_
  refine aw_lconst (v := 1) dX8_init_37 rfl ?_
  refine aw_pJ fp_RX8_23 dX8_init_38 hf (fun h13 hf => ?_)
  refine aw_aload_n 0 dX8_init_41 rfl ?_
  refine aw_bipush (v := 6) dX8_init_42 rfl ?_
  refine aw_newaB (atype := .int) (kd := 0) (N := 6) wa_0 (fun _ => rfl) (fun _ _ q => q) (fun _ => rfl) (by decide) (by decide) (Nat.le_of_ble_eq_true rfl) dX8_init_44 (Nat.le_of_ble_eq_true rfl) (Nat.le_of_ble_eq_true rfl) hf (fun q14 h15 hf => ?_)
  refine aw_pR fp_RX8_27 dX8_init_46 rfl rfl (fun _ => rfl) hf (fun h16 hf => ?_)
  refine aw_aload_n 0 dX8_init_49 rfl ?_
  refine aw_bipush (v := 6) dX8_init_50 rfl ?_
  refine aw_newaB (atype := .int) (kd := 0) (N := 6) wa_0 (fun _ => rfl) (fun _ _ q => q) (fun _ => rfl) (by decide) (by decide) (Nat.le_of_ble_eq_true rfl) dX8_init_52 (Nat.le_of_ble_eq_true rfl) (Nat.le_of_ble_eq_true rfl) hf (fun q17 h18 hf => ?_)
  refine aw_pR fp_RX8_30 dX8_init_54 rfl rfl (fun _ => rfl) hf (fun h19 hf => ?_)
  refine aw_aload_n 0 dX8_init_57 rfl ?_
  refine aw_bipush (v := 6) dX8_init_58 rfl ?_
  refine aw_newaB (atype := .int) (kd := 0) (N := 6) wa_0 (fun _ => rfl) (fun _ _ q => q) (fun _ => rfl) (by decide) (by decide) (Nat.le_of_ble_eq_true rfl) dX8_init_60 (Nat.le_of_ble_eq_true rfl) (Nat.le_of_ble_eq_true rfl) hf (fun q20 h21 hf => ?_)
  refine aw_pR fp_RX8_33 dX8_init_62 rfl rfl (fun _ => rfl) hf (fun h22 hf => ?_)
  refine aw_aload_n 0 dX8_init_65 rfl ?_
  refine aw_bipush (v := 6) dX8_init_66 rfl ?_
  refine aw_newaB (atype := .int) (kd := 0) (N := 6) wa_0 (fun _ => rfl) (fun _ _ q => q) (fun _ => rfl) (by decide) (by decide) (Nat.le_of_ble_eq_true rfl) dX8_init_68 (Nat.le_of_ble_eq_true rfl) (Nat.le_of_ble_eq_true rfl) hf (fun q23 h24 hf => ?_)
  refine aw_pR fp_RX8_36 dX8_init_70 rfl rfl (fun _ => rfl) hf (fun h25 hf => ?_)
  refine aw_aload_n 0 dX8_init_73 rfl ?_
  refine aw_bipush (v := 6) dX8_init_74 rfl ?_
  refine aw_newaB (atype := .int) (kd := 0) (N := 6) wa_0 (fun _ => rfl) (fun _ _ q => q) (fun _ => rfl) (by decide) (by decide) (Nat.le_of_ble_eq_true rfl) dX8_init_76 (Nat.le_of_ble_eq_true rfl) (Nat.le_of_ble_eq_true rfl) hf (fun q26 h27 hf => ?_)
  refine aw_pR fp_RX8_39 dX8_init_78 rfl rfl (fun _ => rfl) hf (fun h28 hf => ?_)
  refine aw_aload_n 0 dX8_init_81 rfl ?_
  refine aw_bipush (v := 48) dX8_init_82 rfl ?_
  refine aw_newaB (atype := .int) (kd := 0) (N := 48) wa_0 (fun _ => rfl) (fun _ _ q => q) (fun _ => rfl) (by decide) (by decide) (Nat.le_of_ble_eq_true rfl) dX8_init_84 (Nat.le_of_ble_eq_true rfl) (Nat.le_of_ble_eq_true rfl) hf (fun q29 h30 hf => ?_)
  refine aw_pR fp_RX8_42 dX8_init_86 rfl rfl (fun _ => rfl) hf (fun h31 hf => ?_)
  refine aw_aload_n 0 dX8_init_89 rfl ?_
  refine aw_bipush (v := 48) dX8_init_90 rfl ?_
  refine aw_newaB (atype := .int) (kd := 0) (N := 48) wa_0 (fun _ => rfl) (fun _ _ q => q) (fun _ => rfl) (by decide) (by decide) (Nat.le_of_ble_eq_true rfl) dX8_init_92 (Nat.le_of_ble_eq_true rfl) (Nat.le_of_ble_eq_true rfl) hf (fun q32 h33 hf => ?_)
  refine aw_pR fp_RX8_45 dX8_init_94 rfl rfl (fun _ => rfl) hf (fun h34 hf => ?_)
  refine aw_aload_n 0 dX8_init_97 rfl ?_
  refine aw_iconst (v := 4) dX8_init_98 rfl ?_
  refine aw_newaB (atype := .int) (kd := 0) (N := 4) wa_0 (fun _ => rfl) (fun _ _ q => q) (fun _ => rfl) (by decide) (by decide) (Nat.le_of_ble_eq_true rfl) dX8_init_99 (Nat.le_of_ble_eq_true rfl) (Nat.le_of_ble_eq_true rfl) hf (fun q35 h36 hf => ?_)
  refine aw_pR fp_RX8_48 dX8_init_101 rfl rfl (fun _ => rfl) hf (fun h37 hf => ?_)
  refine aw_aload_n 0 dX8_init_104 rfl ?_
  refine aw_iconst (v := 4) dX8_init_105 rfl ?_
  refine aw_newaB (atype := .int) (kd := 0) (N := 4) wa_0 (fun _ => rfl) (fun _ _ q => q) (fun _ => rfl) (by decide) (by decide) (Nat.le_of_ble_eq_true rfl) dX8_init_106 (Nat.le_of_ble_eq_true rfl) (Nat.le_of_ble_eq_true rfl) hf (fun q38 h39 hf => ?_)
  refine aw_pR fp_RX8_51 dX8_init_108 rfl rfl (fun _ => rfl) hf (fun h40 hf => ?_)
  refine aw_aload_n 0 dX8_init_111 rfl ?_
  refine aw_bipush (v := 104) dX8_init_112 rfl ?_
  refine aw_newaB (atype := .long) (kd := 3) (N := 104) wa_3 (fun _ => rfl) (fun _ _ q => q) (fun _ => rfl) (by decide) (by decide) (Nat.le_of_ble_eq_true rfl) dX8_init_114 (Nat.le_of_ble_eq_true rfl) (Nat.le_of_ble_eq_true rfl) hf (fun q41 h42 hf => ?_)
  refine aw_pR fp_RX8_54 dX8_init_116 rfl rfl (fun _ => rfl) hf (fun h43 hf => ?_)
  refine aw_aload_n 0 dX8_init_119 rfl ?_
  refine aw_bipush (v := 104) dX8_init_120 rfl ?_
  refine aw_newaB (atype := .long) (kd := 3) (N := 104) wa_3 (fun _ => rfl) (fun _ _ q => q) (fun _ => rfl) (by decide) (by decide) (Nat.le_of_ble_eq_true rfl) dX8_init_122 (Nat.le_of_ble_eq_true rfl) (Nat.le_of_ble_eq_true rfl) hf (fun q44 h45 hf => ?_)
  refine aw_pR fp_RX8_58 dX8_init_124 rfl rfl (fun _ => rfl) hf (fun h46 hf => ?_)
  refine aw_aload_n 0 dX8_init_127 rfl ?_
  refine aw_sipush (v := 150) dX8_init_128 rfl ?_
  refine aw_newaB (atype := .int) (kd := 0) (N := 150) wa_0 (fun _ => rfl) (fun _ _ q => q) (fun _ => rfl) (by decide) (by decide) (Nat.le_of_ble_eq_true rfl) dX8_init_131 (Nat.le_of_ble_eq_true rfl) (Nat.le_of_ble_eq_true rfl) hf (fun q47 h48 hf => ?_)
  refine aw_pR fp_RX8_61 dX8_init_133 rfl rfl (fun _ => rfl) hf (fun h49 hf => ?_)
  refine aw_aload_n 0 dX8_init_136 rfl ?_
  refine aw_sipush (v := 151) dX8_init_137 rfl ?_
  refine aw_newaB (atype := .int) (kd := 0) (N := 151) wa_0 (fun _ => rfl) (fun _ _ q => q) (fun _ => rfl) (by decide) (by decide) (Nat.le_of_ble_eq_true rfl) dX8_init_140 (Nat.le_of_ble_eq_true rfl) (Nat.le_of_ble_eq_true rfl) hf (fun q50 h51 hf => ?_)
  refine aw_pR fp_RX8_64 dX8_init_142 rfl rfl (fun _ => rfl) hf (fun h52 hf => ?_)
  refine aw_aload_n 0 dX8_init_145 rfl ?_
  refine aw_iconst (v := 3) dX8_init_146 rfl ?_
  refine aw_newaB (atype := .int) (kd := 0) (N := 3) wa_0 (fun _ => rfl) (fun _ _ q => q) (fun _ => rfl) (by decide) (by decide) (Nat.le_of_ble_eq_true rfl) dX8_init_147 (Nat.le_of_ble_eq_true rfl) (Nat.le_of_ble_eq_true rfl) hf (fun q53 h54 hf => ?_)
  refine aw_pR fp_RX8_67 dX8_init_149 rfl rfl (fun _ => rfl) hf (fun h55 hf => ?_)
  refine aw_aload_n 0 dX8_init_152 rfl ?_
  refine aw_gR fl_RX8_7 dX8_init_153 hf (fun x56 hf => ?_)
  refine aw_bipush (v := 10) dX8_init_156 rfl ?_
  refine aw_iconst (v := 3) dX8_init_158 rfl ?_
  refine aw_cS_v (st := []) [.ref x56, .int 10, .int 3] wS_RX8_70 (fun hr er => c_X8_begin g h55 x56 10 3 hr er) dX8_init_159 rfl rfl (Nat.le_of_ble_eq_true rfl) (Nat.le_of_ble_eq_true rfl) (Nat.le_of_ble_eq_true rfl) (Nat.le_of_ble_eq_true rfl) hf (fun h57 hf => ?_)
  obtain rfl := so1 hf
  exact aw_vret dX8_init_162 rfl rfl
set_option maxRecDepth 100000 in
set_option maxHeartbeats 4000000 in
theorem c_X8_in (g : Gx) (h : Hea) (a0 : Int64) (a2 : Int64) (a4 : Int64) (o : Int32) (hf : f_X8_in a0 a2 a4 = some o) : MC g yX8_in cX8_in 6 (some .boolean) 0 0 0 [.long a0, .long a2, .long a4] h (some (.int o), h) := by
  refine MC_of (own := RX8) (nm := "in") [(0, .long a0), (2, .long a2), (4, .long a4)] rfl rfl pn_RX8 (Nat.le_of_ble_eq_true rfl) rfl ?_
  rw [f_X8_in] at hf
  refine aw_lload_n 0 dX8_in_0 rfl ?_
  refine aw_lload_n 1 dX8_in_1 rfl ?_
  refine aw_lcmp dX8_in_2 ?_
  refine reg1 (fun (v1 : Int32) => AW g RX8 cX8_in (6, some .boolean, "in", 0, 0, 0) (some (.int o), h) 18 [] [.int v1] h 0 0) hf (fun v1 hf => ?_) (fun v1 hf hJ18 => ?_)
  · exact aw_zretb dX8_in_18 rfl hf rfl
  · refine aw_if_lt (tgt := 17) dX8_in_3 rfl (fun hc => ?_) (fun hc => ?_)
    · have hf := itp0 hc hf
      refine aw_iconst (v := 0) dX8_in_17 rfl ?_
      obtain rfl := so1 hf
      exact aw_pick [] rfl hJ18
    · have hf := itn0 hc hf
      refine aw_lload_n 0 dX8_in_6 rfl ?_
      refine aw_lload 2 dX8_in_7 rfl ?_
      refine aw_lcmp dX8_in_9 ?_
      refine aw_if_gt (tgt := 17) dX8_in_10 rfl (fun hc => ?_) (fun hc => ?_)
      · have hf := itp0 hc hf
        refine aw_iconst (v := 0) dX8_in_17 rfl ?_
        obtain rfl := so1 hf
        exact aw_pick [] rfl hJ18
      · have hf := itn0 hc hf
        refine aw_iconst (v := 1) dX8_in_13 rfl ?_
        refine aw_goto (tgt := 18) dX8_in_14 rfl ?_
        obtain rfl := so1 hf
        exact aw_pick [] rfl hJ18
set_option maxRecDepth 100000 in
set_option maxHeartbeats 4000000 in
theorem c_X8_bad (g : Gx) (h : Hea) (a0 : Nat) (a1 : Int32) (o : Int32) (hz : Hea) (hf : f_X8_bad h a0 a1 = some (o, hz)) : MC g yX8_bad cX8_bad 2 (some .int) 0 0 0 [.ref a0, .int a1] h (some (.int o), hz) := by
  refine MC_of (own := RX8) (nm := "bad") [(0, .ref a0), (1, .int a1)] rfl rfl pn_RX8 (Nat.le_of_ble_eq_true rfl) rfl ?_
  rw [f_X8_bad] at hf
  refine aw_aload_n 0 dX8_bad_0 rfl ?_
  refine aw_gR fl_RX8_20 dX8_bad_1 hf (fun x1 hf => ?_)
  refine aw_iconst (v := 0) dX8_bad_4 rfl ?_
  refine aw_dup2 dX8_bad_5 rfl rfl ?_
  refine aw_ldI dX8_bad_6 hf (fun x2 hf => ?_)
  refine aw_iconst (v := 1) dX8_bad_7 rfl ?_
  refine aw_iadd dX8_bad_8 ?_
  refine aw_stI dX8_bad_9 hf (fun h3 hf => ?_)
  refine aw_iload_n 1 dX8_bad_10 rfl ?_
  obtain ⟨rfl, rfl⟩ := so2 hf
  exact aw_iret dX8_bad_11 rfl rfl
set_option maxRecDepth 100000 in
set_option maxHeartbeats 4000000 in
theorem c_X8_no (g : Gx) (h : Hea) (a0 : Nat) (o : Int32) (hz : Hea) (hf : f_X8_no h a0 = some (o, hz)) : MC g yX8_no cX8_no 1 (some .int) 0 0 0 [.ref a0] h (some (.int o), hz) := by
  refine MC_of (own := RX8) (nm := "no") [(0, .ref a0)] rfl rfl pn_RX8 (Nat.le_of_ble_eq_true rfl) rfl ?_
  rw [f_X8_no] at hf
  refine aw_aload_n 0 dX8_no_0 rfl ?_
  refine aw_gR fl_RX8_20 dX8_no_1 hf (fun x1 hf => ?_)
  refine aw_iconst (v := 1) dX8_no_4 rfl ?_
  refine aw_dup2 dX8_no_5 rfl rfl ?_
  refine aw_ldI dX8_no_6 hf (fun x2 hf => ?_)
  refine aw_iconst (v := 1) dX8_no_7 rfl ?_
  refine aw_iadd dX8_no_8 ?_
  refine aw_stI dX8_no_9 hf (fun h3 hf => ?_)
  refine aw_bipush (v := (-3)) dX8_no_10 rfl ?_
  obtain ⟨rfl, rfl⟩ := so2 hf
  exact aw_iret dX8_no_12 rfl rfl
set_option maxRecDepth 100000 in
set_option maxHeartbeats 4000000 in
theorem c_X8_full (g : Gx) (h : Hea) (a0 : Nat) (o : Int32) (hz : Hea) (hf : f_X8_full h a0 = some (o, hz)) : MC g yX8_full cX8_full 1 (some .int) 0 0 0 [.ref a0] h (some (.int o), hz) := by
  refine MC_of (own := RX8) (nm := "full") [(0, .ref a0)] rfl rfl pn_RX8 (Nat.le_of_ble_eq_true rfl) rfl ?_
  rw [f_X8_full] at hf
  refine aw_aload_n 0 dX8_full_0 rfl ?_
  refine aw_gR fl_RX8_20 dX8_full_1 hf (fun x1 hf => ?_)
  refine aw_iconst (v := 2) dX8_full_4 rfl ?_
  refine aw_dup2 dX8_full_5 rfl rfl ?_
  refine aw_ldI dX8_full_6 hf (fun x2 hf => ?_)
  refine aw_iconst (v := 1) dX8_full_7 rfl ?_
  refine aw_iadd dX8_full_8 ?_
  refine aw_stI dX8_full_9 hf (fun h3 hf => ?_)
  refine aw_bipush (v := (-4)) dX8_full_10 rfl ?_
  obtain ⟨rfl, rfl⟩ := so2 hf
  exact aw_iret dX8_full_12 rfl rfl
set_option maxRecDepth 100000 in
set_option maxHeartbeats 4000000 in
theorem c_X8_heirs (g : Gx) (h : Hea) (a0 : Nat) (o : Int32) (hf : f_X8_heirs h a0 = some o) : MC g yX8_heirs cX8_heirs 1 (some .int) 0 0 0 [.ref a0] h (some (.int o), h) := by
  refine MC_of (own := RX8) (nm := "heirs") [(0, .ref a0)] rfl rfl pn_RX8 (Nat.le_of_ble_eq_true rfl) rfl ?_
  rw [f_X8_heirs] at hf
  refine aw_aload_n 0 dX8_heirs_0 rfl ?_
  refine aw_gR fl_RX8_7 dX8_heirs_1 hf (fun x1 hf => ?_)
  refine aw_iconst (v := 0) dX8_heirs_4 rfl ?_
  refine aw_ldI dX8_heirs_5 hf (fun x2 hf => ?_)
  obtain rfl := so1 hf
  exact aw_iret dX8_heirs_6 rfl rfl
set_option maxRecDepth 100000 in
set_option maxHeartbeats 4000000 in
theorem c_X8_isHeir (g : Gx) (h : Hea) (a0 : Nat) (a1 : Int32) (o : Int32) (hf : f_X8_isHeir h a0 a1 = some o) : MC g yX8_isHeir cX8_isHeir 2 (some .boolean) 1 0 0 [.ref a0, .int a1] h (some (.int o), h) := by
  refine MC_of (own := RX8) (nm := "isHeir") [(0, .ref a0), (1, .int a1)] rfl rfl pn_RX8 (Nat.le_of_ble_eq_true rfl) rfl ?_
  rw [f_X8_isHeir] at hf
  refine aw_iload_n 1 dX8_isHeir_0 rfl ?_
  refine aw_i2l dX8_isHeir_1 ?_
  refine aw_lconst (v := 0) dX8_isHeir_2 rfl ?_
  refine aw_aload_n 0 dX8_isHeir_3 rfl ?_
  refine aw_cV_i (st := [.long 0, .long a1.toInt64]) [] wV_RX8_74 (ci := 8) rfl (fun xr er => c_X8_heirs g h a0 xr er) dX8_isHeir_4 rfl rfl (Nat.le_of_ble_eq_true rfl) (Nat.le_of_ble_eq_true rfl) (Nat.le_of_ble_eq_true rfl) (Nat.le_of_ble_eq_true rfl) hf (fun x1 hf => ?_)
  refine aw_iconst (v := 1) dX8_isHeir_7 rfl ?_
  refine aw_isub dX8_isHeir_8 ?_
  refine aw_i2l dX8_isHeir_9 ?_
  refine aw_cS_i (st := []) [.long a1.toInt64, .long 0, .long ((x1 - 1).toInt64)] wS_RX8_78 (fun xr er => c_X8_in g h a1.toInt64 0 ((x1 - 1).toInt64) xr er) dX8_isHeir_10 rfl rfl (Nat.le_of_ble_eq_true rfl) (Nat.le_of_ble_eq_true rfl) (Nat.le_of_ble_eq_true rfl) (Nat.le_of_ble_eq_true rfl) hf (fun x2 hf => ?_)
  exact aw_zretb dX8_isHeir_13 rfl hf rfl
set_option maxRecDepth 100000 in
set_option maxHeartbeats 4000000 in
theorem c_X8_isRoom (g : Gx) (h : Hea) (a0 : Int32) (o : Int32) (hf : f_X8_isRoom a0 = some o) : MC g yX8_isRoom cX8_isRoom 1 (some .boolean) 1 0 0 [.int a0] h (some (.int o), h) := by
  refine MC_of (own := RX8) (nm := "isRoom") [(0, .int a0)] rfl rfl pn_RX8 (Nat.le_of_ble_eq_true rfl) rfl ?_
  rw [f_X8_isRoom] at hf
  refine aw_iload_n 0 dX8_isRoom_0 rfl ?_
  refine aw_i2l dX8_isRoom_1 ?_
  refine aw_lconst (v := 0) dX8_isRoom_2 rfl ?_
  refine aw_ldc2 (v := 7) kc_RX8_82 dX8_isRoom_3 ?_
  refine aw_cS_i (st := []) [.long a0.toInt64, .long 0, .long 7] wS_RX8_78 (fun xr er => c_X8_in g h a0.toInt64 0 7 xr er) dX8_isRoom_6 rfl rfl (Nat.le_of_ble_eq_true rfl) (Nat.le_of_ble_eq_true rfl) (Nat.le_of_ble_eq_true rfl) (Nat.le_of_ble_eq_true rfl) hf (fun x1 hf => ?_)
  exact aw_zretb dX8_isRoom_9 rfl hf rfl
set_option maxRecDepth 100000 in
set_option maxHeartbeats 4000000 in
theorem c_X8_get (g : Gx) (h : Hea) (a0 : Nat) (a1 : Int32) (a2 : Int32) (o : Int32) (hf : f_X8_get h a0 a1 a2 = some o) : MC g yX8_get cX8_get 3 (some .int) 0 0 0 [.ref a0, .int a1, .int a2] h (some (.int o), h) := by
  refine MC_of (own := RX8) (nm := "get") [(0, .ref a0), (1, .int a1), (2, .int a2)] rfl rfl pn_RX8 (Nat.le_of_ble_eq_true rfl) rfl ?_
  rw [f_X8_get] at hf
  refine aw_aload_n 0 dX8_get_0 rfl ?_
  refine aw_gR fl_RX8_7 dX8_get_1 hf (fun x1 hf => ?_)
  refine aw_bipush (v := 91) dX8_get_4 rfl ?_
  refine aw_bipush (v := 7) dX8_get_6 rfl ?_
  refine aw_iload_n 1 dX8_get_8 rfl ?_
  refine aw_imul dX8_get_9 ?_
  refine aw_iadd dX8_get_10 ?_
  refine aw_iload_n 2 dX8_get_11 rfl ?_
  refine aw_iadd dX8_get_12 ?_
  refine aw_ldI dX8_get_13 hf (fun x2 hf => ?_)
  obtain rfl := so1 hf
  exact aw_iret dX8_get_14 rfl rfl
set_option maxRecDepth 100000 in
set_option maxHeartbeats 4000000 in
theorem c_X8_set (g : Gx) (h : Hea) (a0 : Nat) (a1 : Int32) (a2 : Int32) (a3 : Int32) (o : Hea) (hf : f_X8_set h a0 a1 a2 a3 = some o) : MC g yX8_set cX8_set 4 none 0 0 0 [.ref a0, .int a1, .int a2, .int a3] h (none, o) := by
  refine MC_of (own := RX8) (nm := "set") [(0, .ref a0), (1, .int a1), (2, .int a2), (3, .int a3)] rfl rfl pn_RX8 (Nat.le_of_ble_eq_true rfl) rfl ?_
  rw [f_X8_set] at hf
  refine aw_aload_n 0 dX8_set_0 rfl ?_
  refine aw_gR fl_RX8_7 dX8_set_1 hf (fun x1 hf => ?_)
  refine aw_bipush (v := 91) dX8_set_4 rfl ?_
  refine aw_bipush (v := 7) dX8_set_6 rfl ?_
  refine aw_iload_n 1 dX8_set_8 rfl ?_
  refine aw_imul dX8_set_9 ?_
  refine aw_iadd dX8_set_10 ?_
  refine aw_iload_n 2 dX8_set_11 rfl ?_
  refine aw_iadd dX8_set_12 ?_
  refine aw_iload_n 3 dX8_set_13 rfl ?_
  refine aw_stI dX8_set_14 hf (fun h2 hf => ?_)
  obtain rfl := so1 hf
  exact aw_vret dX8_set_15 rfl rfl
set_option maxRecDepth 100000 in
set_option maxHeartbeats 4000000 in
theorem c_X8_creaks (g : Gx) (h : Hea) (a0 : Nat) (a1 : Int32) (a2 : Int32) (o : Int32) (hf : f_X8_creaks h a0 a1 a2 = some o) : MC g yX8_creaks cX8_creaks 3 (some .int) 0 0 0 [.ref a0, .int a1, .int a2] h (some (.int o), h) := by
  refine MC_of (own := RX8) (nm := "creaks") [(0, .ref a0), (1, .int a1), (2, .int a2)] rfl rfl pn_RX8 (Nat.le_of_ble_eq_true rfl) rfl ?_
  rw [f_X8_creaks] at hf
  refine aw_aload_n 0 dX8_creaks_0 rfl ?_
  refine aw_gR fl_RX8_7 dX8_creaks_1 hf (fun x1 hf => ?_)
  refine aw_bipush (v := 15) dX8_creaks_4 rfl ?_
  refine aw_bipush (v := 8) dX8_creaks_6 rfl ?_
  refine aw_iload_n 1 dX8_creaks_8 rfl ?_
  refine aw_imul dX8_creaks_9 ?_
  refine aw_iadd dX8_creaks_10 ?_
  refine aw_iload_n 2 dX8_creaks_11 rfl ?_
  refine aw_iadd dX8_creaks_12 ?_
  refine aw_ldI dX8_creaks_13 hf (fun x2 hf => ?_)
  obtain rfl := so1 hf
  exact aw_iret dX8_creaks_14 rfl rfl
set_option maxRecDepth 100000 in
set_option maxHeartbeats 4000000 in
theorem c_X8_house (g : Gx) (h : Hea) (a0 : Nat) (a1 : Int32) (a2 : Int32) (o : Int32) (hz : Hea) (hf : f_X8_house h a0 a1 a2 = some (o, hz)) : MC g yX8_house cX8_house 4 (some .int) 1 0 0 [.ref a0, .int a1, .int a2] h (some (.int o), hz) := by
  refine MC_of (own := RX8) (nm := "house") [(0, .ref a0), (1, .int a1), (2, .int a2)] rfl rfl pn_RX8 (Nat.le_of_ble_eq_true rfl) rfl ?_
  rw [f_X8_house] at hf
  refine aw_iload_n 1 dX8_house_0 rfl ?_
  refine aw_i2l dX8_house_1 ?_
  refine aw_lconst (v := 0) dX8_house_2 rfl ?_
  refine aw_ldc2 (v := 25) kc_RX8_84 dX8_house_3 ?_
  refine aw_cS_i (st := []) [.long a1.toInt64, .long 0, .long 25] wS_RX8_78 (fun xr er => c_X8_in g h a1.toInt64 0 25 xr er) dX8_house_6 rfl rfl (Nat.le_of_ble_eq_true rfl) (Nat.le_of_ble_eq_true rfl) (Nat.le_of_ble_eq_true rfl) (Nat.le_of_ble_eq_true rfl) hf (fun x1 hf => ?_)
  refine aw_if_eq (tgt := 24) dX8_house_9 rfl (fun hc => ?_) (fun hc => ?_)
  · have hf := itp0 hc hf
    refine aw_aload_n 0 dX8_house_24 rfl ?_
    refine aw_bipush (v := (-2)) dX8_house_25 rfl ?_
    refine aw_cV_wi (st := []) [.int (-2)] wV_RX8_86 (ci := 8) rfl (fun xr hr er => c_X8_bad g h a0 (-2) xr hr er) dX8_house_27 rfl rfl (Nat.le_of_ble_eq_true rfl) (Nat.le_of_ble_eq_true rfl) (Nat.le_of_ble_eq_true rfl) (Nat.le_of_ble_eq_true rfl) hf (fun x2 h3 hf => ?_)
    obtain ⟨rfl, rfl⟩ := so2 hf
    exact aw_iret dX8_house_30 rfl rfl
  · have hf := itn0 hc hf
    refine aw_iload_n 2 dX8_house_12 rfl ?_
    refine aw_i2l dX8_house_13 ?_
    refine aw_lconst (v := 0) dX8_house_14 rfl ?_
    refine aw_ldc2 (v := 25) kc_RX8_84 dX8_house_15 ?_
    refine aw_cS_i (st := []) [.long a2.toInt64, .long 0, .long 25] wS_RX8_78 (fun xr er => c_X8_in g h a2.toInt64 0 25 xr er) dX8_house_18 rfl rfl (Nat.le_of_ble_eq_true rfl) (Nat.le_of_ble_eq_true rfl) (Nat.le_of_ble_eq_true rfl) (Nat.le_of_ble_eq_true rfl) hf (fun x4 hf => ?_)
    refine aw_if_ne (tgt := 31) dX8_house_21 rfl (fun hc => ?_) (fun hc => ?_)
    · have hf := itn0 hc hf
      refine aw_aload_n 0 dX8_house_31 rfl ?_
      refine aw_cV_i (st := []) [] wV_RX8_74 (ci := 8) rfl (fun xr er => c_X8_heirs g h a0 xr er) dX8_house_32 rfl rfl (Nat.le_of_ble_eq_true rfl) (Nat.le_of_ble_eq_true rfl) (Nat.le_of_ble_eq_true rfl) (Nat.le_of_ble_eq_true rfl) hf (fun x5 hf => ?_)
      refine aw_istore_n [(3, .int x5), (0, .ref a0), (1, .int a1), (2, .int a2)] dX8_house_35 (Nat.le_of_ble_eq_true rfl) rfl ?_
      refine aw_aload_n 1 dX8_house_36 rfl ?_
      refine aw_gR fl_RX8_7 dX8_house_37 hf (fun x6 hf => ?_)
      refine aw_iload_n 2 dX8_house_40 rfl ?_
      refine aw_iload_n 3 dX8_house_41 rfl ?_
      refine aw_cS_v (st := []) [.ref x6, .int a1, .int a2] wS_RX8_70 (fun hr er => c_X8_begin g h x6 a1 a2 hr er) dX8_house_42 rfl rfl (Nat.le_of_ble_eq_true rfl) (Nat.le_of_ble_eq_true rfl) (Nat.le_of_ble_eq_true rfl) (Nat.le_of_ble_eq_true rfl) hf (fun h7 hf => ?_)
      refine aw_iload_n 0 dX8_house_45 rfl ?_
      obtain ⟨rfl, rfl⟩ := so2 hf
      exact aw_iret dX8_house_46 rfl rfl
    · have hf := itp0 hc hf
      refine aw_aload_n 0 dX8_house_24 rfl ?_
      refine aw_bipush (v := (-2)) dX8_house_25 rfl ?_
      refine aw_cV_wi (st := []) [.int (-2)] wV_RX8_86 (ci := 8) rfl (fun xr hr er => c_X8_bad g h a0 (-2) xr hr er) dX8_house_27 rfl rfl (Nat.le_of_ble_eq_true rfl) (Nat.le_of_ble_eq_true rfl) (Nat.le_of_ble_eq_true rfl) (Nat.le_of_ble_eq_true rfl) hf (fun x8 h9 hf => ?_)
      obtain ⟨rfl, rfl⟩ := so2 hf
      exact aw_iret dX8_house_30 rfl rfl
set_option maxRecDepth 100000 in
set_option maxHeartbeats 4000000 in
theorem c_X8_room (g : Gx) (h : Hea) (a0 : Nat) (a1 : Int32) (a2 : Int32) (o : Int32) (hz : Hea) (hf : f_X8_room h a0 a1 a2 = some (o, hz)) : MC g yX8_room cX8_room 4 (some .int) 2 0 0 [.ref a0, .int a1, .int a2] h (some (.int o), hz) := by
  refine MC_of (own := RX8) (nm := "room") [(0, .ref a0), (1, .int a1), (2, .int a2)] rfl rfl pn_RX8 (Nat.le_of_ble_eq_true rfl) rfl ?_
  rw [f_X8_room] at hf
  refine aw_iload_n 1 dX8_room_0 rfl ?_
  refine aw_cS_i (st := []) [.int a1] wS_RX8_90 (fun xr er => c_X8_isRoom g h a1 xr er) dX8_room_1 rfl rfl (Nat.le_of_ble_eq_true rfl) (Nat.le_of_ble_eq_true rfl) (Nat.le_of_ble_eq_true rfl) (Nat.le_of_ble_eq_true rfl) hf (fun x1 hf => ?_)
  refine aw_if_eq (tgt := 19) dX8_room_4 rfl (fun hc => ?_) (fun hc => ?_)
  · have hf := itp0 hc hf
    refine aw_aload_n 0 dX8_room_19 rfl ?_
    refine aw_bipush (v := (-2)) dX8_room_20 rfl ?_
    refine aw_cV_wi (st := []) [.int (-2)] wV_RX8_86 (ci := 8) rfl (fun xr hr er => c_X8_bad g h a0 (-2) xr hr er) dX8_room_22 rfl rfl (Nat.le_of_ble_eq_true rfl) (Nat.le_of_ble_eq_true rfl) (Nat.le_of_ble_eq_true rfl) (Nat.le_of_ble_eq_true rfl) hf (fun x2 h3 hf => ?_)
    obtain ⟨rfl, rfl⟩ := so2 hf
    exact aw_iret dX8_room_25 rfl rfl
  · have hf := itn0 hc hf
    refine aw_iload_n 2 dX8_room_7 rfl ?_
    refine aw_i2l dX8_room_8 ?_
    refine aw_lconst (v := 0) dX8_room_9 rfl ?_
    refine aw_ldc2 (v := 9) kc_RX8_94 dX8_room_10 ?_
    refine aw_cS_i (st := []) [.long a2.toInt64, .long 0, .long 9] wS_RX8_78 (fun xr er => c_X8_in g h a2.toInt64 0 9 xr er) dX8_room_13 rfl rfl (Nat.le_of_ble_eq_true rfl) (Nat.le_of_ble_eq_true rfl) (Nat.le_of_ble_eq_true rfl) (Nat.le_of_ble_eq_true rfl) hf (fun x4 hf => ?_)
    refine aw_if_ne (tgt := 26) dX8_room_16 rfl (fun hc => ?_) (fun hc => ?_)
    · have hf := itn0 hc hf
      refine aw_aload_n 0 dX8_room_26 rfl ?_
      refine aw_gR fl_RX8_7 dX8_room_27 hf (fun x5 hf => ?_)
      refine aw_bipush (v := 7) dX8_room_30 rfl ?_
      refine aw_iload_n 1 dX8_room_32 rfl ?_
      refine aw_iadd dX8_room_33 ?_
      refine aw_ldI dX8_room_34 hf (fun x6 hf => ?_)
      refine aw_istore_n [(3, .int x6), (0, .ref a0), (1, .int a1), (2, .int a2)] dX8_room_35 (Nat.le_of_ble_eq_true rfl) rfl ?_
      refine aw_aload_n 1 dX8_room_36 rfl ?_
      refine aw_gR fl_RX8_7 dX8_room_37 hf (fun x7 hf => ?_)
      refine aw_bipush (v := 7) dX8_room_40 rfl ?_
      refine aw_iload_n 2 dX8_room_42 rfl ?_
      refine aw_iadd dX8_room_43 ?_
      refine aw_iload_n 3 dX8_room_44 rfl ?_
      refine aw_stI dX8_room_45 hf (fun h8 hf => ?_)
      refine aw_iload_n 0 dX8_room_46 rfl ?_
      obtain ⟨rfl, rfl⟩ := so2 hf
      exact aw_iret dX8_room_47 rfl rfl
    · have hf := itp0 hc hf
      refine aw_aload_n 0 dX8_room_19 rfl ?_
      refine aw_bipush (v := (-2)) dX8_room_20 rfl ?_
      refine aw_cV_wi (st := []) [.int (-2)] wV_RX8_86 (ci := 8) rfl (fun xr hr er => c_X8_bad g h a0 (-2) xr hr er) dX8_room_22 rfl rfl (Nat.le_of_ble_eq_true rfl) (Nat.le_of_ble_eq_true rfl) (Nat.le_of_ble_eq_true rfl) (Nat.le_of_ble_eq_true rfl) hf (fun x9 h10 hf => ?_)
      obtain ⟨rfl, rfl⟩ := so2 hf
      exact aw_iret dX8_room_25 rfl rfl
set_option maxRecDepth 100000 in
set_option maxHeartbeats 4000000 in
theorem c_X8_layDoor (g : Gx) (h : Hea) (a0 : Nat) (a1 : Int32) (a2 : Int32) (a3 : Int32) (o : Hea) (hf : f_X8_layDoor h a0 a1 a2 a3 = some o) : MC g yX8_layDoor cX8_layDoor 4 none 0 0 0 [.ref a0, .int a1, .int a2, .int a3] h (none, o) := by
  refine MC_of (own := RX8) (nm := "layDoor") [(0, .ref a0), (1, .int a1), (2, .int a2), (3, .int a3)] rfl rfl pn_RX8 (Nat.le_of_ble_eq_true rfl) rfl ?_
  rw [f_X8_layDoor] at hf
  refine aw_aload_n 0 dX8_layDoor_0 rfl ?_
  refine aw_bipush (v := 15) dX8_layDoor_1 rfl ?_
  refine aw_bipush (v := 8) dX8_layDoor_3 rfl ?_
  refine aw_iload_n 1 dX8_layDoor_5 rfl ?_
  refine aw_imul dX8_layDoor_6 ?_
  refine aw_iadd dX8_layDoor_7 ?_
  refine aw_iload_n 2 dX8_layDoor_8 rfl ?_
  refine aw_iadd dX8_layDoor_9 ?_
  refine aw_iload_n 3 dX8_layDoor_10 rfl ?_
  refine aw_stI dX8_layDoor_11 hf (fun h1 hf => ?_)
  refine aw_aload_n 0 dX8_layDoor_12 rfl ?_
  refine aw_bipush (v := 15) dX8_layDoor_13 rfl ?_
  refine aw_bipush (v := 8) dX8_layDoor_15 rfl ?_
  refine aw_iload_n 2 dX8_layDoor_17 rfl ?_
  refine aw_imul dX8_layDoor_18 ?_
  refine aw_iadd dX8_layDoor_19 ?_
  refine aw_iload_n 1 dX8_layDoor_20 rfl ?_
  refine aw_iadd dX8_layDoor_21 ?_
  refine aw_iload_n 3 dX8_layDoor_22 rfl ?_
  refine aw_stI dX8_layDoor_23 hf (fun h2 hf => ?_)
  obtain rfl := so1 hf
  exact aw_vret dX8_layDoor_24 rfl rfl
set_option maxRecDepth 100000 in
set_option maxHeartbeats 4000000 in
theorem c_X8_door (g : Gx) (h : Hea) (a0 : Nat) (a1 : Int32) (a2 : Int32) (a3 : Int32) (o : Int32) (hz : Hea) (hf : f_X8_door h a0 a1 a2 a3 = some (o, hz)) : MC g yX8_door cX8_door 5 (some .int) 2 0 0 [.ref a0, .int a1, .int a2, .int a3] h (some (.int o), hz) := by
  refine MC_of (own := RX8) (nm := "door") [(0, .ref a0), (1, .int a1), (2, .int a2), (3, .int a3)] rfl rfl pn_RX8 (Nat.le_of_ble_eq_true rfl) rfl ?_
  rw [f_X8_door] at hf
  refine aw_iload_n 1 dX8_door_0 rfl ?_
  refine aw_cS_i (st := []) [.int a1] wS_RX8_90 (fun xr er => c_X8_isRoom g h a1 xr er) dX8_door_1 rfl rfl (Nat.le_of_ble_eq_true rfl) (Nat.le_of_ble_eq_true rfl) (Nat.le_of_ble_eq_true rfl) (Nat.le_of_ble_eq_true rfl) hf (fun x1 hf => ?_)
  refine aw_if_eq (tgt := 31) dX8_door_4 rfl (fun hc => ?_) (fun hc => ?_)
  · have hf := itp0 hc hf
    refine aw_aload_n 0 dX8_door_31 rfl ?_
    refine aw_bipush (v := (-2)) dX8_door_32 rfl ?_
    refine aw_cV_wi (st := []) [.int (-2)] wV_RX8_86 (ci := 8) rfl (fun xr hr er => c_X8_bad g h a0 (-2) xr hr er) dX8_door_34 rfl rfl (Nat.le_of_ble_eq_true rfl) (Nat.le_of_ble_eq_true rfl) (Nat.le_of_ble_eq_true rfl) (Nat.le_of_ble_eq_true rfl) hf (fun x2 h3 hf => ?_)
    obtain ⟨rfl, rfl⟩ := so2 hf
    exact aw_iret dX8_door_37 rfl rfl
  · have hf := itn0 hc hf
    refine aw_iload_n 2 dX8_door_7 rfl ?_
    refine aw_cS_i (st := []) [.int a2] wS_RX8_90 (fun xr er => c_X8_isRoom g h a2 xr er) dX8_door_8 rfl rfl (Nat.le_of_ble_eq_true rfl) (Nat.le_of_ble_eq_true rfl) (Nat.le_of_ble_eq_true rfl) (Nat.le_of_ble_eq_true rfl) hf (fun x4 hf => ?_)
    refine aw_if_eq (tgt := 31) dX8_door_11 rfl (fun hc => ?_) (fun hc => ?_)
    · have hf := itp0 hc hf
      refine aw_aload_n 0 dX8_door_31 rfl ?_
      refine aw_bipush (v := (-2)) dX8_door_32 rfl ?_
      refine aw_cV_wi (st := []) [.int (-2)] wV_RX8_86 (ci := 8) rfl (fun xr hr er => c_X8_bad g h a0 (-2) xr hr er) dX8_door_34 rfl rfl (Nat.le_of_ble_eq_true rfl) (Nat.le_of_ble_eq_true rfl) (Nat.le_of_ble_eq_true rfl) (Nat.le_of_ble_eq_true rfl) hf (fun x5 h6 hf => ?_)
      obtain ⟨rfl, rfl⟩ := so2 hf
      exact aw_iret dX8_door_37 rfl rfl
    · have hf := itn0 hc hf
      refine aw_iload_n 1 dX8_door_14 rfl ?_
      refine aw_iload_n 2 dX8_door_15 rfl ?_
      refine aw_icmp_eq (tgt := 31) dX8_door_16 rfl (fun hc => ?_) (fun hc => ?_)
      · have hf := itp0 hc hf
        refine aw_aload_n 0 dX8_door_31 rfl ?_
        refine aw_bipush (v := (-2)) dX8_door_32 rfl ?_
        refine aw_cV_wi (st := []) [.int (-2)] wV_RX8_86 (ci := 8) rfl (fun xr hr er => c_X8_bad g h a0 (-2) xr hr er) dX8_door_34 rfl rfl (Nat.le_of_ble_eq_true rfl) (Nat.le_of_ble_eq_true rfl) (Nat.le_of_ble_eq_true rfl) (Nat.le_of_ble_eq_true rfl) hf (fun x7 h8 hf => ?_)
        obtain ⟨rfl, rfl⟩ := so2 hf
        exact aw_iret dX8_door_37 rfl rfl
      · have hf := itn0 hc hf
        refine aw_iload_n 3 dX8_door_19 rfl ?_
        refine aw_i2l dX8_door_20 ?_
        refine aw_lconst (v := 1) dX8_door_21 rfl ?_
        refine aw_ldc2 (v := 9) kc_RX8_94 dX8_door_22 ?_
        refine aw_cS_i (st := []) [.long a3.toInt64, .long 1, .long 9] wS_RX8_78 (fun xr er => c_X8_in g h a3.toInt64 1 9 xr er) dX8_door_25 rfl rfl (Nat.le_of_ble_eq_true rfl) (Nat.le_of_ble_eq_true rfl) (Nat.le_of_ble_eq_true rfl) (Nat.le_of_ble_eq_true rfl) hf (fun x9 hf => ?_)
        refine aw_if_ne (tgt := 38) dX8_door_28 rfl (fun hc => ?_) (fun hc => ?_)
        · have hf := itn0 hc hf
          refine aw_aload_n 0 dX8_door_38 rfl ?_
          refine aw_iload_n 1 dX8_door_39 rfl ?_
          refine aw_iload_n 2 dX8_door_40 rfl ?_
          refine aw_cV_i (st := []) [.int a1, .int a2] wV_RX8_96 (ci := 8) rfl (fun xr er => c_X8_creaks g h a0 a1 a2 xr er) dX8_door_41 rfl rfl (Nat.le_of_ble_eq_true rfl) (Nat.le_of_ble_eq_true rfl) (Nat.le_of_ble_eq_true rfl) (Nat.le_of_ble_eq_true rfl) hf (fun x10 hf => ?_)
          refine aw_istore [(4, .int x10), (0, .ref a0), (1, .int a1), (2, .int a2), (3, .int a3)] dX8_door_44 (Nat.le_of_ble_eq_true rfl) rfl ?_
          refine aw_aload_n 1 dX8_door_46 rfl ?_
          refine aw_gR fl_RX8_7 dX8_door_47 hf (fun x11 hf => ?_)
          refine aw_iload_n 2 dX8_door_50 rfl ?_
          refine aw_iload_n 3 dX8_door_51 rfl ?_
          refine aw_iload_n 4 dX8_door_52 rfl ?_
          refine aw_cS_v (st := []) [.ref x11, .int a1, .int a2, .int a3] wS_RX8_100 (fun hr er => c_X8_layDoor g h x11 a1 a2 a3 hr er) dX8_door_53 rfl rfl (Nat.le_of_ble_eq_true rfl) (Nat.le_of_ble_eq_true rfl) (Nat.le_of_ble_eq_true rfl) (Nat.le_of_ble_eq_true rfl) hf (fun h12 hf => ?_)
          refine aw_iload 0 dX8_door_56 rfl ?_
          obtain ⟨rfl, rfl⟩ := so2 hf
          exact aw_iret dX8_door_58 rfl rfl
        · have hf := itp0 hc hf
          refine aw_aload_n 0 dX8_door_31 rfl ?_
          refine aw_bipush (v := (-2)) dX8_door_32 rfl ?_
          refine aw_cV_wi (st := []) [.int (-2)] wV_RX8_86 (ci := 8) rfl (fun xr hr er => c_X8_bad g h a0 (-2) xr hr er) dX8_door_34 rfl rfl (Nat.le_of_ble_eq_true rfl) (Nat.le_of_ble_eq_true rfl) (Nat.le_of_ble_eq_true rfl) (Nat.le_of_ble_eq_true rfl) hf (fun x13 h14 hf => ?_)
          obtain ⟨rfl, rfl⟩ := so2 hf
          exact aw_iret dX8_door_37 rfl rfl
set_option maxRecDepth 100000 in
set_option maxHeartbeats 4000000 in
theorem c_X8_list (g : Gx) (h : Hea) (a0 : Nat) (a1 : Int32) (o : Int32) (hz : Hea) (hf : f_X8_list h a0 a1 = some (o, hz)) : MC g yX8_list cX8_list 2 (some .int) 2 0 0 [.ref a0, .int a1] h (some (.int o), hz) := by
  refine MC_of (own := RX8) (nm := "list") [(0, .ref a0), (1, .int a1)] rfl rfl pn_RX8 (Nat.le_of_ble_eq_true rfl) rfl ?_
  rw [f_X8_list] at hf
  refine aw_iload_n 1 dX8_list_0 rfl ?_
  refine aw_cS_i (st := []) [.int a1] wS_RX8_90 (fun xr er => c_X8_isRoom g h a1 xr er) dX8_list_1 rfl rfl (Nat.le_of_ble_eq_true rfl) (Nat.le_of_ble_eq_true rfl) (Nat.le_of_ble_eq_true rfl) (Nat.le_of_ble_eq_true rfl) hf (fun x1 hf => ?_)
  refine aw_if_ne (tgt := 14) dX8_list_4 rfl (fun hc => ?_) (fun hc => ?_)
  · have hf := itn0 hc hf
    refine aw_aload_n 0 dX8_list_14 rfl ?_
    refine aw_gR fl_RX8_7 dX8_list_15 hf (fun x2 hf => ?_)
    refine aw_iconst (v := 4) dX8_list_18 rfl ?_
    refine aw_ldI dX8_list_19 hf (fun x3 hf => ?_)
    refine aw_bipush (v := 12) dX8_list_20 rfl ?_
    refine aw_icmp_ne (tgt := 30) dX8_list_22 rfl (fun hc => ?_) (fun hc => ?_)
    · have hf := itn0 hc hf
      refine aw_aload_n 0 dX8_list_30 rfl ?_
      refine aw_gR fl_RX8_7 dX8_list_31 hf (fun x4 hf => ?_)
      refine aw_bipush (v := 79) dX8_list_34 rfl ?_
      refine aw_aload_n 0 dX8_list_36 rfl ?_
      refine aw_gR fl_RX8_7 dX8_list_37 hf (fun x5 hf => ?_)
      refine aw_iconst (v := 4) dX8_list_40 rfl ?_
      refine aw_ldI dX8_list_41 hf (fun x6 hf => ?_)
      refine aw_iadd dX8_list_42 ?_
      refine aw_iload_n 1 dX8_list_43 rfl ?_
      refine aw_stI dX8_list_44 hf (fun h7 hf => ?_)
      refine aw_aload_n 0 dX8_list_45 rfl ?_
      refine aw_gR fl_RX8_7 dX8_list_46 hf (fun x8 hf => ?_)
      refine aw_iconst (v := 4) dX8_list_49 rfl ?_
      refine aw_dup2 dX8_list_50 rfl rfl ?_
      refine aw_ldI dX8_list_51 hf (fun x9 hf => ?_)
      refine aw_iconst (v := 1) dX8_list_52 rfl ?_
      refine aw_iadd dX8_list_53 ?_
      refine aw_stI dX8_list_54 hf (fun h10 hf => ?_)
      refine aw_aload_n 0 dX8_list_55 rfl ?_
      refine aw_gR fl_RX8_7 dX8_list_56 hf (fun x11 hf => ?_)
      refine aw_iconst (v := 4) dX8_list_59 rfl ?_
      refine aw_ldI dX8_list_60 hf (fun x12 hf => ?_)
      obtain ⟨rfl, rfl⟩ := so2 hf
      exact aw_iret dX8_list_61 rfl rfl
    · have hf := itp0 hc hf
      refine aw_aload_n 0 dX8_list_25 rfl ?_
      refine aw_cV_wi (st := []) [] wV_RX8_104 (ci := 8) rfl (fun xr hr er => c_X8_full g h a0 xr hr er) dX8_list_26 rfl rfl (Nat.le_of_ble_eq_true rfl) (Nat.le_of_ble_eq_true rfl) (Nat.le_of_ble_eq_true rfl) (Nat.le_of_ble_eq_true rfl) hf (fun x13 h14 hf => ?_)
      obtain ⟨rfl, rfl⟩ := so2 hf
      exact aw_iret dX8_list_29 rfl rfl
  · have hf := itp0 hc hf
    refine aw_aload_n 0 dX8_list_7 rfl ?_
    refine aw_bipush (v := (-2)) dX8_list_8 rfl ?_
    refine aw_cV_wi (st := []) [.int (-2)] wV_RX8_86 (ci := 8) rfl (fun xr hr er => c_X8_bad g h a0 (-2) xr hr er) dX8_list_10 rfl rfl (Nat.le_of_ble_eq_true rfl) (Nat.le_of_ble_eq_true rfl) (Nat.le_of_ble_eq_true rfl) (Nat.le_of_ble_eq_true rfl) hf (fun x15 h16 hf => ?_)
    obtain ⟨rfl, rfl⟩ := so2 hf
    exact aw_iret dX8_list_13 rfl rfl
set_option maxRecDepth 100000 in
set_option maxHeartbeats 4000000 in
theorem c_X8_only (g : Gx) (h : Hea) (a0 : Nat) (a1 : Int32) (o : Int32) (hz : Hea) (hf : f_X8_only h a0 a1 = some (o, hz)) : MC g yX8_only cX8_only 3 (some .int) 2 0 0 [.ref a0, .int a1] h (some (.int o), hz) := by
  refine MC_of (own := RX8) (nm := "only") [(0, .ref a0), (1, .int a1)] rfl rfl pn_RX8 (Nat.le_of_ble_eq_true rfl) rfl ?_
  rw [f_X8_only] at hf
  refine aw_iload_n 1 dX8_only_0 rfl ?_
  refine aw_cS_i (st := []) [.int a1] wS_RX8_90 (fun xr er => c_X8_isRoom g h a1 xr er) dX8_only_1 rfl rfl (Nat.le_of_ble_eq_true rfl) (Nat.le_of_ble_eq_true rfl) (Nat.le_of_ble_eq_true rfl) (Nat.le_of_ble_eq_true rfl) hf (fun x1 hf => ?_)
  refine aw_if_ne (tgt := 14) dX8_only_4 rfl (fun hc => ?_) (fun hc => ?_)
  · have hf := itn0 hc hf
    refine aw_aload_n 0 dX8_only_14 rfl ?_
    refine aw_gR fl_RX8_7 dX8_only_15 hf (fun x2 hf => ?_)
    refine aw_iconst (v := 4) dX8_only_18 rfl ?_
    refine aw_ldI dX8_only_19 hf (fun x3 hf => ?_)
    refine aw_istore_n [(2, .int x3), (0, .ref a0), (1, .int a1)] dX8_only_20 (Nat.le_of_ble_eq_true rfl) rfl ?_
    refine aw_aload_n 1 dX8_only_21 rfl ?_
    refine aw_gR fl_RX8_7 dX8_only_22 hf (fun x4 hf => ?_)
    refine aw_bipush (v := 79) dX8_only_25 rfl ?_
    refine aw_iload_n 2 dX8_only_27 rfl ?_
    refine aw_stI dX8_only_28 hf (fun h5 hf => ?_)
    refine aw_aload_n 1 dX8_only_29 rfl ?_
    refine aw_gR fl_RX8_7 dX8_only_30 hf (fun x6 hf => ?_)
    refine aw_iconst (v := 4) dX8_only_33 rfl ?_
    refine aw_iconst (v := 1) dX8_only_34 rfl ?_
    refine aw_stI dX8_only_35 hf (fun h7 hf => ?_)
    refine aw_iload_n 0 dX8_only_36 rfl ?_
    obtain ⟨rfl, rfl⟩ := so2 hf
    exact aw_iret dX8_only_37 rfl rfl
  · have hf := itp0 hc hf
    refine aw_aload_n 0 dX8_only_7 rfl ?_
    refine aw_bipush (v := (-2)) dX8_only_8 rfl ?_
    refine aw_cV_wi (st := []) [.int (-2)] wV_RX8_86 (ci := 8) rfl (fun xr hr er => c_X8_bad g h a0 (-2) xr hr er) dX8_only_10 rfl rfl (Nat.le_of_ble_eq_true rfl) (Nat.le_of_ble_eq_true rfl) (Nat.le_of_ble_eq_true rfl) (Nat.le_of_ble_eq_true rfl) hf (fun x8 h9 hf => ?_)
    obtain ⟨rfl, rfl⟩ := so2 hf
    exact aw_iret dX8_only_13 rfl rfl
set_option maxRecDepth 100000 in
set_option maxHeartbeats 4000000 in
theorem c_X8_eyes (g : Gx) (h : Hea) (a0 : Nat) (a1 : Int32) (o : Int32) (hz : Hea) (hf : f_X8_eyes h a0 a1 = some (o, hz)) : MC g yX8_eyes cX8_eyes 3 (some .int) 1 0 0 [.ref a0, .int a1] h (some (.int o), hz) := by
  refine MC_of (own := RX8) (nm := "eyes") [(0, .ref a0), (1, .int a1)] rfl rfl pn_RX8 (Nat.le_of_ble_eq_true rfl) rfl ?_
  rw [f_X8_eyes] at hf
  refine aw_iload_n 1 dX8_eyes_0 rfl ?_
  refine aw_i2l dX8_eyes_1 ?_
  refine aw_lconst (v := 0) dX8_eyes_2 rfl ?_
  refine aw_ldc2 (v := 25) kc_RX8_84 dX8_eyes_3 ?_
  refine aw_cS_i (st := []) [.long a1.toInt64, .long 0, .long 25] wS_RX8_78 (fun xr er => c_X8_in g h a1.toInt64 0 25 xr er) dX8_eyes_6 rfl rfl (Nat.le_of_ble_eq_true rfl) (Nat.le_of_ble_eq_true rfl) (Nat.le_of_ble_eq_true rfl) (Nat.le_of_ble_eq_true rfl) hf (fun x1 hf => ?_)
  refine aw_if_ne (tgt := 19) dX8_eyes_9 rfl (fun hc => ?_) (fun hc => ?_)
  · have hf := itn0 hc hf
    refine aw_aload_n 0 dX8_eyes_19 rfl ?_
    refine aw_gR fl_RX8_7 dX8_eyes_20 hf (fun x2 hf => ?_)
    refine aw_iconst (v := 1) dX8_eyes_23 rfl ?_
    refine aw_ldI dX8_eyes_24 hf (fun x3 hf => ?_)
    refine aw_istore_n [(2, .int x3), (0, .ref a0), (1, .int a1)] dX8_eyes_25 (Nat.le_of_ble_eq_true rfl) rfl ?_
    refine aw_aload_n 1 dX8_eyes_26 rfl ?_
    refine aw_gR fl_RX8_7 dX8_eyes_27 hf (fun x4 hf => ?_)
    refine aw_iconst (v := 1) dX8_eyes_30 rfl ?_
    refine aw_iload_n 2 dX8_eyes_31 rfl ?_
    refine aw_stI dX8_eyes_32 hf (fun h5 hf => ?_)
    refine aw_iload_n 0 dX8_eyes_33 rfl ?_
    obtain ⟨rfl, rfl⟩ := so2 hf
    exact aw_iret dX8_eyes_34 rfl rfl
  · have hf := itp0 hc hf
    refine aw_aload_n 0 dX8_eyes_12 rfl ?_
    refine aw_bipush (v := (-2)) dX8_eyes_13 rfl ?_
    refine aw_cV_wi (st := []) [.int (-2)] wV_RX8_86 (ci := 8) rfl (fun xr hr er => c_X8_bad g h a0 (-2) xr hr er) dX8_eyes_15 rfl rfl (Nat.le_of_ble_eq_true rfl) (Nat.le_of_ble_eq_true rfl) (Nat.le_of_ble_eq_true rfl) (Nat.le_of_ble_eq_true rfl) hf (fun x6 h7 hf => ?_)
    obtain ⟨rfl, rfl⟩ := so2 hf
    exact aw_iret dX8_eyes_18 rfl rfl
set_option maxRecDepth 100000 in
set_option maxHeartbeats 4000000 in
theorem l_X8_layHeir_14 (g : Gx) {res : Option Value × Hea} : ∀ (n : Nat) (h : Hea) (y0 : Nat) (y1 : Int32) (y2 : Int32) (y3 : Int32) (y4 : Int32) (y5 : Int32) (ho : Hea) (hf : f_X8_layHeir_14 n h y0 y4 y5 = some ho) (kk : AW g RX8 cX8_layHeir (6, none, "layHeir", 0, 0, 0) res 35 [(0, .ref y0), (1, .int y1), (2, .int y2), (3, .int y3), (4, .int y4)] [] ho 0 0), AW g RX8 cX8_layHeir (6, none, "layHeir", 0, 0, 0) res 14 [(0, .ref y0), (1, .int y1), (2, .int y2), (3, .int y3), (4, .int y4), (5, .int y5)] [] h 0 0 := by
  intro n
  induction n with
  | zero =>
    intro h y0 y1 y2 y3 y4 y5 ho hf kk
    rw [f_X8_layHeir_14] at hf
    cases hf
  | succ n ih =>
    intro h y0 y1 y2 y3 y4 y5 ho hf kk
    rw [f_X8_layHeir_14] at hf
    refine aw_iload 5 dX8_layHeir_14 rfl ?_
    refine aw_bipush (v := 7) dX8_layHeir_16 rfl ?_
    refine aw_icmp_ge (tgt := 35) dX8_layHeir_18 rfl (fun hc => ?_) (fun hc => ?_)
    · have hf := itp0 hc hf
      obtain rfl := so1 hf
      exact aw_pick [0, 1, 2, 3, 4] rfl kk
    · have hf := itn0 hc hf
      refine aw_aload_n 0 dX8_layHeir_21 rfl ?_
      refine aw_iload 4 dX8_layHeir_22 rfl ?_
      refine aw_iload 5 dX8_layHeir_24 rfl ?_
      refine aw_iadd dX8_layHeir_26 ?_
      refine aw_iconst (v := 0) dX8_layHeir_27 rfl ?_
      refine aw_stI dX8_layHeir_28 hf (fun h1 hf => ?_)
      refine aw_iinc (y5 + 1) [(5, .int (y5 + 1)), (0, .ref y0), (1, .int y1), (2, .int y2), (3, .int y3), (4, .int y4)] 5 dX8_layHeir_29 rfl rfl (Nat.le_of_ble_eq_true rfl) rfl ?_
      refine aw_goto (tgt := 14) dX8_layHeir_32 rfl ?_
      refine aw_pick [1, 2, 3, 4, 5, 0] rfl ?_
      exact ih h1 y0 y1 y2 y3 y4 (y5 + 1) ho hf kk
set_option maxRecDepth 100000 in
set_option maxHeartbeats 4000000 in
theorem c_X8_layHeir (g : Gx) (h : Hea) (a0 : Nat) (a1 : Int32) (a2 : Int32) (a3 : Int32) (o : Hea) (hf : f_X8_layHeir h a0 a1 a2 a3 = some o) : MC g yX8_layHeir cX8_layHeir 6 none 0 0 0 [.ref a0, .int a1, .int a2, .int a3] h (none, o) := by
  refine MC_of (own := RX8) (nm := "layHeir") [(0, .ref a0), (1, .int a1), (2, .int a2), (3, .int a3)] rfl rfl pn_RX8 (Nat.le_of_ble_eq_true rfl) rfl ?_
  rw [f_X8_layHeir] at hf
  refine aw_bipush (v := 91) dX8_layHeir_0 rfl ?_
  refine aw_bipush (v := 7) dX8_layHeir_2 rfl ?_
  refine aw_aload_n 0 dX8_layHeir_4 rfl ?_
  refine aw_iconst (v := 0) dX8_layHeir_5 rfl ?_
  refine aw_ldI dX8_layHeir_6 hf (fun x1 hf => ?_)
  refine aw_imul dX8_layHeir_7 ?_
  refine aw_iadd dX8_layHeir_8 ?_
  refine aw_istore [(4, .int (91 + (7 * x1))), (0, .ref a0), (1, .int a1), (2, .int a2), (3, .int a3)] dX8_layHeir_9 (Nat.le_of_ble_eq_true rfl) rfl ?_
  refine aw_iconst (v := 0) dX8_layHeir_11 rfl ?_
  refine aw_istore [(5, .int 0), (4, .int (91 + (7 * x1))), (0, .ref a0), (1, .int a1), (2, .int a2), (3, .int a3)] dX8_layHeir_12 (Nat.le_of_ble_eq_true rfl) rfl ?_
  refine aw_pick [2, 3, 4, 5, 1, 0] rfl ?_
  refine reg1 (fun (h2 : Hea) => AW g RX8 cX8_layHeir (6, none, "layHeir", 0, 0, 0) (none, o) 35 [(0, .ref a0), (1, .int a1), (2, .int a2), (3, .int a3), (4, .int (91 + (7 * x1)))] [] h2 0 0) hf (fun h2 hf => ?_) (fun h2 hf hJ => l_X8_layHeir_14 g  lots h a0 a1 a2 a3 (91 + (7 * x1)) 0 h2 hf hJ)
  refine aw_aload_n 0 dX8_layHeir_35 rfl ?_
  refine aw_iload 4 dX8_layHeir_36 rfl ?_
  refine aw_iconst (v := 0) dX8_layHeir_38 rfl ?_
  refine aw_iadd dX8_layHeir_39 ?_
  refine aw_iload_n 1 dX8_layHeir_40 rfl ?_
  refine aw_stI dX8_layHeir_41 hf (fun h3 hf => ?_)
  refine aw_aload_n 0 dX8_layHeir_42 rfl ?_
  refine aw_iload 4 dX8_layHeir_43 rfl ?_
  refine aw_iconst (v := 1) dX8_layHeir_45 rfl ?_
  refine aw_iadd dX8_layHeir_46 ?_
  refine aw_iload_n 2 dX8_layHeir_47 rfl ?_
  refine aw_stI dX8_layHeir_48 hf (fun h4 hf => ?_)
  refine aw_aload_n 0 dX8_layHeir_49 rfl ?_
  refine aw_iload 4 dX8_layHeir_50 rfl ?_
  refine aw_iconst (v := 2) dX8_layHeir_52 rfl ?_
  refine aw_iadd dX8_layHeir_53 ?_
  refine aw_iload_n 3 dX8_layHeir_54 rfl ?_
  refine aw_stI dX8_layHeir_55 hf (fun h5 hf => ?_)
  refine aw_aload_n 0 dX8_layHeir_56 rfl ?_
  refine aw_iload 4 dX8_layHeir_57 rfl ?_
  refine aw_iconst (v := 5) dX8_layHeir_59 rfl ?_
  refine aw_iadd dX8_layHeir_60 ?_
  refine aw_iconst (v := (-1)) dX8_layHeir_61 rfl ?_
  refine aw_stI dX8_layHeir_62 hf (fun h6 hf => ?_)
  refine aw_aload_n 0 dX8_layHeir_63 rfl ?_
  refine aw_iconst (v := 0) dX8_layHeir_64 rfl ?_
  refine aw_dup2 dX8_layHeir_65 rfl rfl ?_
  refine aw_ldI dX8_layHeir_66 hf (fun x7 hf => ?_)
  refine aw_iconst (v := 1) dX8_layHeir_67 rfl ?_
  refine aw_iadd dX8_layHeir_68 ?_
  refine aw_stI dX8_layHeir_69 hf (fun h8 hf => ?_)
  obtain rfl := so1 hf
  exact aw_vret dX8_layHeir_70 rfl rfl
set_option maxRecDepth 100000 in
set_option maxHeartbeats 4000000 in
theorem c_X8_heir (g : Gx) (h : Hea) (a0 : Nat) (a1 : Int32) (a2 : Int32) (a3 : Int32) (o : Int32) (hz : Hea) (hf : f_X8_heir h a0 a1 a2 a3 = some (o, hz)) : MC g yX8_heir cX8_heir 4 (some .int) 2 0 0 [.ref a0, .int a1, .int a2, .int a3] h (some (.int o), hz) := by
  refine MC_of (own := RX8) (nm := "heir") [(0, .ref a0), (1, .int a1), (2, .int a2), (3, .int a3)] rfl rfl pn_RX8 (Nat.le_of_ble_eq_true rfl) rfl ?_
  rw [f_X8_heir] at hf
  refine aw_iload_n 1 dX8_heir_0 rfl ?_
  refine aw_i2l dX8_heir_1 ?_
  refine aw_lconst (v := 0) dX8_heir_2 rfl ?_
  refine aw_ldc2 (v := 5) kc_RX8_107 dX8_heir_3 ?_
  refine aw_cS_i (st := []) [.long a1.toInt64, .long 0, .long 5] wS_RX8_78 (fun xr er => c_X8_in g h a1.toInt64 0 5 xr er) dX8_heir_6 rfl rfl (Nat.le_of_ble_eq_true rfl) (Nat.le_of_ble_eq_true rfl) (Nat.le_of_ble_eq_true rfl) (Nat.le_of_ble_eq_true rfl) hf (fun x1 hf => ?_)
  refine aw_if_eq (tgt := 31) dX8_heir_9 rfl (fun hc => ?_) (fun hc => ?_)
  · have hf := itp0 hc hf
    refine aw_aload_n 0 dX8_heir_31 rfl ?_
    refine aw_bipush (v := (-2)) dX8_heir_32 rfl ?_
    refine aw_cV_wi (st := []) [.int (-2)] wV_RX8_86 (ci := 8) rfl (fun xr hr er => c_X8_bad g h a0 (-2) xr hr er) dX8_heir_34 rfl rfl (Nat.le_of_ble_eq_true rfl) (Nat.le_of_ble_eq_true rfl) (Nat.le_of_ble_eq_true rfl) (Nat.le_of_ble_eq_true rfl) hf (fun x2 h3 hf => ?_)
    obtain ⟨rfl, rfl⟩ := so2 hf
    exact aw_iret dX8_heir_37 rfl rfl
  · have hf := itn0 hc hf
    refine aw_iload_n 2 dX8_heir_12 rfl ?_
    refine aw_cS_i (st := []) [.int a2] wS_RX8_90 (fun xr er => c_X8_isRoom g h a2 xr er) dX8_heir_13 rfl rfl (Nat.le_of_ble_eq_true rfl) (Nat.le_of_ble_eq_true rfl) (Nat.le_of_ble_eq_true rfl) (Nat.le_of_ble_eq_true rfl) hf (fun x4 hf => ?_)
    refine aw_if_eq (tgt := 31) dX8_heir_16 rfl (fun hc => ?_) (fun hc => ?_)
    · have hf := itp0 hc hf
      refine aw_aload_n 0 dX8_heir_31 rfl ?_
      refine aw_bipush (v := (-2)) dX8_heir_32 rfl ?_
      refine aw_cV_wi (st := []) [.int (-2)] wV_RX8_86 (ci := 8) rfl (fun xr hr er => c_X8_bad g h a0 (-2) xr hr er) dX8_heir_34 rfl rfl (Nat.le_of_ble_eq_true rfl) (Nat.le_of_ble_eq_true rfl) (Nat.le_of_ble_eq_true rfl) (Nat.le_of_ble_eq_true rfl) hf (fun x5 h6 hf => ?_)
      obtain ⟨rfl, rfl⟩ := so2 hf
      exact aw_iret dX8_heir_37 rfl rfl
    · have hf := itn0 hc hf
      refine aw_iload_n 3 dX8_heir_19 rfl ?_
      refine aw_i2l dX8_heir_20 ?_
      refine aw_lconst (v := 0) dX8_heir_21 rfl ?_
      refine aw_ldc2 (v := 9) kc_RX8_94 dX8_heir_22 ?_
      refine aw_cS_i (st := []) [.long a3.toInt64, .long 0, .long 9] wS_RX8_78 (fun xr er => c_X8_in g h a3.toInt64 0 9 xr er) dX8_heir_25 rfl rfl (Nat.le_of_ble_eq_true rfl) (Nat.le_of_ble_eq_true rfl) (Nat.le_of_ble_eq_true rfl) (Nat.le_of_ble_eq_true rfl) hf (fun x7 hf => ?_)
      refine aw_if_ne (tgt := 38) dX8_heir_28 rfl (fun hc => ?_) (fun hc => ?_)
      · have hf := itn0 hc hf
        refine aw_aload_n 0 dX8_heir_38 rfl ?_
        refine aw_cV_i (st := []) [] wV_RX8_74 (ci := 8) rfl (fun xr er => c_X8_heirs g h a0 xr er) dX8_heir_39 rfl rfl (Nat.le_of_ble_eq_true rfl) (Nat.le_of_ble_eq_true rfl) (Nat.le_of_ble_eq_true rfl) (Nat.le_of_ble_eq_true rfl) hf (fun x8 hf => ?_)
        refine aw_bipush (v := 6) dX8_heir_42 rfl ?_
        refine aw_icmp_ne (tgt := 52) dX8_heir_44 rfl (fun hc => ?_) (fun hc => ?_)
        · have hf := itn0 hc hf
          refine aw_aload_n 0 dX8_heir_52 rfl ?_
          refine aw_gR fl_RX8_7 dX8_heir_53 hf (fun x9 hf => ?_)
          refine aw_iload_n 1 dX8_heir_56 rfl ?_
          refine aw_iload_n 2 dX8_heir_57 rfl ?_
          refine aw_iload_n 3 dX8_heir_58 rfl ?_
          refine aw_cS_v (st := []) [.ref x9, .int a1, .int a2, .int a3] wS_RX8_109 (fun hr er => c_X8_layHeir g h x9 a1 a2 a3 hr er) dX8_heir_59 rfl rfl (Nat.le_of_ble_eq_true rfl) (Nat.le_of_ble_eq_true rfl) (Nat.le_of_ble_eq_true rfl) (Nat.le_of_ble_eq_true rfl) hf (fun h10 hf => ?_)
          refine aw_aload_n 0 dX8_heir_62 rfl ?_
          refine aw_gR fl_RX8_7 dX8_heir_63 hf (fun x11 hf => ?_)
          refine aw_bipush (v := 6) dX8_heir_66 rfl ?_
          refine aw_iconst (v := 0) dX8_heir_68 rfl ?_
          refine aw_stI dX8_heir_69 hf (fun h12 hf => ?_)
          refine aw_aload_n 0 dX8_heir_70 rfl ?_
          refine aw_cV_i (st := []) [] wV_RX8_74 (ci := 8) rfl (fun xr er => c_X8_heirs g h12 a0 xr er) dX8_heir_71 rfl rfl (Nat.le_of_ble_eq_true rfl) (Nat.le_of_ble_eq_true rfl) (Nat.le_of_ble_eq_true rfl) (Nat.le_of_ble_eq_true rfl) hf (fun x13 hf => ?_)
          refine aw_iconst (v := 1) dX8_heir_74 rfl ?_
          refine aw_isub dX8_heir_75 ?_
          obtain ⟨rfl, rfl⟩ := so2 hf
          exact aw_iret dX8_heir_76 rfl rfl
        · have hf := itp0 hc hf
          refine aw_aload_n 0 dX8_heir_47 rfl ?_
          refine aw_cV_wi (st := []) [] wV_RX8_104 (ci := 8) rfl (fun xr hr er => c_X8_full g h a0 xr hr er) dX8_heir_48 rfl rfl (Nat.le_of_ble_eq_true rfl) (Nat.le_of_ble_eq_true rfl) (Nat.le_of_ble_eq_true rfl) (Nat.le_of_ble_eq_true rfl) hf (fun x14 h15 hf => ?_)
          obtain ⟨rfl, rfl⟩ := so2 hf
          exact aw_iret dX8_heir_51 rfl rfl
      · have hf := itp0 hc hf
        refine aw_aload_n 0 dX8_heir_31 rfl ?_
        refine aw_bipush (v := (-2)) dX8_heir_32 rfl ?_
        refine aw_cV_wi (st := []) [.int (-2)] wV_RX8_86 (ci := 8) rfl (fun xr hr er => c_X8_bad g h a0 (-2) xr hr er) dX8_heir_34 rfl rfl (Nat.le_of_ble_eq_true rfl) (Nat.le_of_ble_eq_true rfl) (Nat.le_of_ble_eq_true rfl) (Nat.le_of_ble_eq_true rfl) hf (fun x16 h17 hf => ?_)
        obtain ⟨rfl, rfl⟩ := so2 hf
        exact aw_iret dX8_heir_37 rfl rfl
set_option maxRecDepth 100000 in
set_option maxHeartbeats 4000000 in
theorem l_X8_layHand_22 (g : Gx) {res : Option Value × Hea} : ∀ (n : Nat) (h : Hea) (y0 : Nat) (y1 : Int32) (ho : Hea) (hf : f_X8_layHand_22 n h y0 y1 = some ho) (kk : AW g RX8 cX8_layHand (2, none, "layHand", 1, 0, 0) res 84 [] [] ho 0 0), AW g RX8 cX8_layHand (2, none, "layHand", 1, 0, 0) res 22 [(0, .ref y0), (1, .int y1)] [] h 0 0 := by
  intro n
  induction n with
  | zero =>
    intro h y0 y1 ho hf kk
    rw [f_X8_layHand_22] at hf
    cases hf
  | succ n ih =>
    intro h y0 y1 ho hf kk
    rw [f_X8_layHand_22] at hf
    refine aw_iload_n 1 dX8_layHand_22 rfl ?_
    refine aw_aload_n 0 dX8_layHand_23 rfl ?_
    refine aw_cV_i (st := [.int y1]) [] wV_RX8_74 (ci := 8) rfl (fun xr er => c_X8_heirs g h y0 xr er) dX8_layHand_24 rfl rfl (Nat.le_of_ble_eq_true rfl) (Nat.le_of_ble_eq_true rfl) (Nat.le_of_ble_eq_true rfl) (Nat.le_of_ble_eq_true rfl) hf (fun x1 hf => ?_)
    refine aw_icmp_ge (tgt := 84) dX8_layHand_27 rfl (fun hc => ?_) (fun hc => ?_)
    · have hf := itp0 hc hf
      obtain rfl := so1 hf
      exact aw_pick [] rfl kk
    · have hf := itn0 hc hf
      refine aw_aload_n 0 dX8_layHand_30 rfl ?_
      refine aw_gR fl_RX8_27 dX8_layHand_31 hf (fun x2 hf => ?_)
      refine aw_iload_n 1 dX8_layHand_34 rfl ?_
      refine aw_aload_n 0 dX8_layHand_35 rfl ?_
      refine aw_iload_n 1 dX8_layHand_36 rfl ?_
      refine aw_iconst (v := 1) dX8_layHand_37 rfl ?_
      refine aw_cV_i (st := [.int y1, .ref x2]) [.int y1, .int 1] wV_RX8_119 (ci := 8) rfl (fun xr er => c_X8_get g h y0 y1 1 xr er) dX8_layHand_38 rfl rfl (Nat.le_of_ble_eq_true rfl) (Nat.le_of_ble_eq_true rfl) (Nat.le_of_ble_eq_true rfl) (Nat.le_of_ble_eq_true rfl) hf (fun x3 hf => ?_)
      refine aw_stI dX8_layHand_41 hf (fun h4 hf => ?_)
      refine aw_aload_n 0 dX8_layHand_42 rfl ?_
      refine aw_gR fl_RX8_30 dX8_layHand_43 hf (fun x5 hf => ?_)
      refine aw_iload_n 1 dX8_layHand_46 rfl ?_
      refine aw_aload_n 0 dX8_layHand_47 rfl ?_
      refine aw_iload_n 1 dX8_layHand_48 rfl ?_
      refine aw_iconst (v := 3) dX8_layHand_49 rfl ?_
      refine aw_cV_i (st := [.int y1, .ref x5]) [.int y1, .int 3] wV_RX8_119 (ci := 8) rfl (fun xr er => c_X8_get g h4 y0 y1 3 xr er) dX8_layHand_50 rfl rfl (Nat.le_of_ble_eq_true rfl) (Nat.le_of_ble_eq_true rfl) (Nat.le_of_ble_eq_true rfl) (Nat.le_of_ble_eq_true rfl) hf (fun x6 hf => ?_)
      refine aw_stI dX8_layHand_53 hf (fun h7 hf => ?_)
      refine aw_aload_n 0 dX8_layHand_54 rfl ?_
      refine aw_gR fl_RX8_33 dX8_layHand_55 hf (fun x8 hf => ?_)
      refine aw_iload_n 1 dX8_layHand_58 rfl ?_
      refine aw_aload_n 0 dX8_layHand_59 rfl ?_
      refine aw_iload_n 1 dX8_layHand_60 rfl ?_
      refine aw_iconst (v := 4) dX8_layHand_61 rfl ?_
      refine aw_cV_i (st := [.int y1, .ref x8]) [.int y1, .int 4] wV_RX8_119 (ci := 8) rfl (fun xr er => c_X8_get g h7 y0 y1 4 xr er) dX8_layHand_62 rfl rfl (Nat.le_of_ble_eq_true rfl) (Nat.le_of_ble_eq_true rfl) (Nat.le_of_ble_eq_true rfl) (Nat.le_of_ble_eq_true rfl) hf (fun x9 hf => ?_)
      refine aw_stI dX8_layHand_65 hf (fun h10 hf => ?_)
      refine aw_aload_n 0 dX8_layHand_66 rfl ?_
      refine aw_gR fl_RX8_36 dX8_layHand_67 hf (fun x11 hf => ?_)
      refine aw_iload_n 1 dX8_layHand_70 rfl ?_
      refine aw_aload_n 0 dX8_layHand_71 rfl ?_
      refine aw_iload_n 1 dX8_layHand_72 rfl ?_
      refine aw_iconst (v := 5) dX8_layHand_73 rfl ?_
      refine aw_cV_i (st := [.int y1, .ref x11]) [.int y1, .int 5] wV_RX8_119 (ci := 8) rfl (fun xr er => c_X8_get g h10 y0 y1 5 xr er) dX8_layHand_74 rfl rfl (Nat.le_of_ble_eq_true rfl) (Nat.le_of_ble_eq_true rfl) (Nat.le_of_ble_eq_true rfl) (Nat.le_of_ble_eq_true rfl) hf (fun x12 hf => ?_)
      refine aw_stI dX8_layHand_77 hf (fun h13 hf => ?_)
      refine aw_iinc (y1 + 1) [(1, .int (y1 + 1)), (0, .ref y0)] 1 dX8_layHand_78 rfl rfl (Nat.le_of_ble_eq_true rfl) rfl ?_
      refine aw_goto (tgt := 22) dX8_layHand_81 rfl ?_
      refine aw_pick [1, 0] rfl ?_
      exact ih h13 y0 (y1 + 1) ho hf kk
set_option maxRecDepth 100000 in
set_option maxHeartbeats 4000000 in
theorem c_X8_layHand (g : Gx) (h : Hea) (a0 : Nat) (o : Hea) (hf : f_X8_layHand h a0 = some o) : MC g yX8_layHand cX8_layHand 2 none 1 0 0 [.ref a0] h (none, o) := by
  refine MC_of (own := RX8) (nm := "layHand") [(0, .ref a0)] rfl rfl pn_RX8 (Nat.le_of_ble_eq_true rfl) rfl ?_
  rw [f_X8_layHand] at hf
  refine aw_aload_n 0 dX8_layHand_0 rfl ?_
  refine aw_aload_n 0 dX8_layHand_1 rfl ?_
  refine aw_gR fl_RX8_7 dX8_layHand_2 hf (fun x1 hf => ?_)
  refine aw_iconst (v := 3) dX8_layHand_5 rfl ?_
  refine aw_ldI dX8_layHand_6 hf (fun x2 hf => ?_)
  refine aw_pI fp_RX8_112 dX8_layHand_7 hf (fun h3 hf => ?_)
  refine aw_aload_n 0 dX8_layHand_10 rfl ?_
  refine aw_aload_n 0 dX8_layHand_11 rfl ?_
  refine aw_gR fl_RX8_7 dX8_layHand_12 hf (fun x4 hf => ?_)
  refine aw_iconst (v := 1) dX8_layHand_15 rfl ?_
  refine aw_ldI dX8_layHand_16 hf (fun x5 hf => ?_)
  refine aw_pI fp_RX8_116 dX8_layHand_17 hf (fun h6 hf => ?_)
  refine aw_iconst (v := 0) dX8_layHand_20 rfl ?_
  refine aw_istore_n [(1, .int 0), (0, .ref a0)] dX8_layHand_21 (Nat.le_of_ble_eq_true rfl) rfl ?_
  refine aw_pick [1, 0] rfl ?_
  refine reg1 (fun (h7 : Hea) => AW g RX8 cX8_layHand (2, none, "layHand", 1, 0, 0) (none, o) 84 [] [] h7 0 0) hf (fun h7 hf => ?_) (fun h7 hf hJ => l_X8_layHand_22 g  lots h6 a0 0 h7 hf hJ)
  obtain rfl := so1 hf
  exact aw_vret dX8_layHand_84 rfl rfl
set_option maxRecDepth 100000 in
set_option maxHeartbeats 4000000 in
theorem l_X8_isOther_4 (g : Gx) {res : Option Value × Hea} : ∀ (n : Nat) (h : Hea) (y0 : Nat) (y1 : Int32) (y2 : Int32) (y3 : Int32) (o2 : Int32) (hf : f_X8_isOther_4 n h y0 y1 y2 y3 = some o2) (kk : AW g RX8 cX8_isOther (4, some .boolean, "isOther", 1, 0, 0) res 57 [(2, .int o2)] [] h 0 0), AW g RX8 cX8_isOther (4, some .boolean, "isOther", 1, 0, 0) res 4 [(0, .ref y0), (1, .int y1), (2, .int y2), (3, .int y3)] [] h 0 0 := by
  intro n
  induction n with
  | zero =>
    intro h y0 y1 y2 y3 o2 hf kk
    rw [f_X8_isOther_4] at hf
    cases hf
  | succ n ih =>
    intro h y0 y1 y2 y3 o2 hf kk
    rw [f_X8_isOther_4] at hf
    refine aw_iload_n 3 dX8_isOther_4 rfl ?_
    refine aw_aload_n 0 dX8_isOther_5 rfl ?_
    refine aw_cV_i (st := [.int y3]) [] wV_RX8_74 (ci := 8) rfl (fun xr er => c_X8_heirs g h y0 xr er) dX8_isOther_6 rfl rfl (Nat.le_of_ble_eq_true rfl) (Nat.le_of_ble_eq_true rfl) (Nat.le_of_ble_eq_true rfl) (Nat.le_of_ble_eq_true rfl) hf (fun x1 hf => ?_)
    refine aw_icmp_ge (tgt := 57) dX8_isOther_9 rfl (fun hc => ?_) (fun hc => ?_)
    · have hf := itp0 hc hf
      obtain rfl := so1 hf
      exact aw_pick [2] rfl kk
    · have hf := itn0 hc hf
      refine aw_iload_n 2 dX8_isOther_12 rfl ?_
      refine reg1 (fun (v2 : Int32) => AW g RX8 cX8_isOther (4, some .boolean, "isOther", 1, 0, 0) res 50 [(0, .ref y0), (1, .int y1), (3, .int y3)] [.int v2] h 0 0) hf (fun v2 hf => ?_) (fun v2 hf hJ50 => ?_)
      · refine aw_istore_n [(2, .int v2), (0, .ref y0), (1, .int y1), (3, .int y3)] dX8_isOther_50 (Nat.le_of_ble_eq_true rfl) rfl ?_
        refine aw_iinc (y3 + 1) [(3, .int (y3 + 1)), (2, .int v2), (0, .ref y0), (1, .int y1)] 3 dX8_isOther_51 rfl rfl (Nat.le_of_ble_eq_true rfl) rfl ?_
        refine aw_goto (tgt := 4) dX8_isOther_54 rfl ?_
        refine aw_pick [2, 3, 1, 0] rfl ?_
        exact ih h y0 y1 v2 (y3 + 1) o2 hf kk
      · refine aw_if_ne (tgt := 45) dX8_isOther_13 rfl (fun hc => ?_) (fun hc => ?_)
        · have hf := itn0 hc hf
          refine aw_iconst (v := 1) dX8_isOther_45 rfl ?_
          refine aw_goto (tgt := 50) dX8_isOther_46 rfl ?_
          obtain rfl := so1 hf
          exact aw_pick [0, 1, 3] rfl hJ50
        · have hf := itp0 hc hf
          refine aw_iload_n 3 dX8_isOther_16 rfl ?_
          refine aw_iload_n 1 dX8_isOther_17 rfl ?_
          refine aw_icmp_eq (tgt := 49) dX8_isOther_18 rfl (fun hc => ?_) (fun hc => ?_)
          · have hf := itp0 hc hf
            refine aw_iconst (v := 0) dX8_isOther_49 rfl ?_
            obtain rfl := so1 hf
            exact aw_pick [0, 1, 3] rfl hJ50
          · have hf := itn0 hc hf
            refine aw_aload_n 0 dX8_isOther_21 rfl ?_
            refine aw_gR fl_RX8_33 dX8_isOther_22 hf (fun x3 hf => ?_)
            refine aw_iload_n 3 dX8_isOther_25 rfl ?_
            refine aw_ldI dX8_isOther_26 hf (fun x4 hf => ?_)
            refine aw_if_ne (tgt := 49) dX8_isOther_27 rfl (fun hc => ?_) (fun hc => ?_)
            · have hf := itn0 hc hf
              refine aw_iconst (v := 0) dX8_isOther_49 rfl ?_
              obtain rfl := so1 hf
              exact aw_pick [0, 1, 3] rfl hJ50
            · have hf := itp0 hc hf
              refine aw_aload_n 0 dX8_isOther_30 rfl ?_
              refine aw_gR fl_RX8_27 dX8_isOther_31 hf (fun x5 hf => ?_)
              refine aw_iload_n 3 dX8_isOther_34 rfl ?_
              refine aw_ldI dX8_isOther_35 hf (fun x6 hf => ?_)
              refine aw_aload_n 0 dX8_isOther_36 rfl ?_
              refine aw_gR fl_RX8_27 dX8_isOther_37 hf (fun x7 hf => ?_)
              refine aw_iload_n 1 dX8_isOther_40 rfl ?_
              refine aw_ldI dX8_isOther_41 hf (fun x8 hf => ?_)
              refine aw_icmp_ne (tgt := 49) dX8_isOther_42 rfl (fun hc => ?_) (fun hc => ?_)
              · have hf := itn0 hc hf
                refine aw_iconst (v := 0) dX8_isOther_49 rfl ?_
                obtain rfl := so1 hf
                exact aw_pick [0, 1, 3] rfl hJ50
              · have hf := itp0 hc hf
                refine aw_iconst (v := 1) dX8_isOther_45 rfl ?_
                refine aw_goto (tgt := 50) dX8_isOther_46 rfl ?_
                obtain rfl := so1 hf
                exact aw_pick [0, 1, 3] rfl hJ50
set_option maxRecDepth 100000 in
set_option maxHeartbeats 4000000 in
theorem c_X8_isOther (g : Gx) (h : Hea) (a0 : Nat) (a1 : Int32) (o : Int32) (hf : f_X8_isOther h a0 a1 = some o) : MC g yX8_isOther cX8_isOther 4 (some .boolean) 1 0 0 [.ref a0, .int a1] h (some (.int o), h) := by
  refine MC_of (own := RX8) (nm := "isOther") [(0, .ref a0), (1, .int a1)] rfl rfl pn_RX8 (Nat.le_of_ble_eq_true rfl) rfl ?_
  rw [f_X8_isOther] at hf
  refine aw_iconst (v := 0) dX8_isOther_0 rfl ?_
  refine aw_istore_n [(2, .int 0), (0, .ref a0), (1, .int a1)] dX8_isOther_1 (Nat.le_of_ble_eq_true rfl) rfl ?_
  refine aw_iconst (v := 0) dX8_isOther_2 rfl ?_
  refine aw_istore_n [(3, .int 0), (2, .int 0), (0, .ref a0), (1, .int a1)] dX8_isOther_3 (Nat.le_of_ble_eq_true rfl) rfl ?_
  refine aw_pick [2, 3, 1, 0] rfl ?_
  refine reg1 (fun (v1 : Int32) => AW g RX8 cX8_isOther (4, some .boolean, "isOther", 1, 0, 0) (some (.int o), h) 57 [(2, .int v1)] [] h 0 0) hf (fun v1 hf => ?_) (fun v1 hf hJ => l_X8_isOther_4 g  lots h a0 a1 0 0 v1 hf hJ)
  refine aw_iload_n 0 dX8_isOther_57 rfl ?_
  exact aw_zretb dX8_isOther_58 rfl hf rfl
set_option maxRecDepth 100000 in
set_option maxHeartbeats 4000000 in
theorem c_X8_least (g : Gx) (h : Hea) (a0 : Int32) (a1 : Int32) (o : Int32) (hf : f_X8_least a0 a1 = some o) : MC g yX8_least cX8_least 2 (some .int) 0 0 0 [.int a0, .int a1] h (some (.int o), h) := by
  refine MC_of (own := RX8) (nm := "least") [(0, .int a0), (1, .int a1)] rfl rfl pn_RX8 (Nat.le_of_ble_eq_true rfl) rfl ?_
  rw [f_X8_least] at hf
  refine aw_iload_n 0 dX8_least_0 rfl ?_
  refine aw_iload_n 1 dX8_least_1 rfl ?_
  refine reg1 (fun (v1 : Int32) => AW g RX8 cX8_least (2, some .int, "least", 0, 0, 0) (some (.int o), h) 10 [] [.int v1] h 0 0) hf (fun v1 hf => ?_) (fun v1 hf hJ10 => ?_)
  · obtain rfl := so1 hf
    exact aw_iret dX8_least_10 rfl rfl
  · refine aw_icmp_ge (tgt := 9) dX8_least_2 rfl (fun hc => ?_) (fun hc => ?_)
    · have hf := itp0 hc hf
      refine aw_iload_n 1 dX8_least_9 rfl ?_
      obtain rfl := so1 hf
      exact aw_pick [] rfl hJ10
    · have hf := itn0 hc hf
      refine aw_iload_n 0 dX8_least_5 rfl ?_
      refine aw_goto (tgt := 10) dX8_least_6 rfl ?_
      obtain rfl := so1 hf
      exact aw_pick [] rfl hJ10
set_option maxRecDepth 100000 in
set_option maxHeartbeats 4000000 in
theorem c_X8_most (g : Gx) (h : Hea) (a0 : Int32) (a1 : Int32) (o : Int32) (hf : f_X8_most a0 a1 = some o) : MC g yX8_most cX8_most 2 (some .int) 0 0 0 [.int a0, .int a1] h (some (.int o), h) := by
  refine MC_of (own := RX8) (nm := "most") [(0, .int a0), (1, .int a1)] rfl rfl pn_RX8 (Nat.le_of_ble_eq_true rfl) rfl ?_
  rw [f_X8_most] at hf
  refine aw_iload_n 0 dX8_most_0 rfl ?_
  refine aw_iload_n 1 dX8_most_1 rfl ?_
  refine reg1 (fun (v1 : Int32) => AW g RX8 cX8_most (2, some .int, "most", 0, 0, 0) (some (.int o), h) 10 [] [.int v1] h 0 0) hf (fun v1 hf => ?_) (fun v1 hf hJ10 => ?_)
  · obtain rfl := so1 hf
    exact aw_iret dX8_most_10 rfl rfl
  · refine aw_icmp_le (tgt := 9) dX8_most_2 rfl (fun hc => ?_) (fun hc => ?_)
    · have hf := itp0 hc hf
      refine aw_iload_n 1 dX8_most_9 rfl ?_
      obtain rfl := so1 hf
      exact aw_pick [] rfl hJ10
    · have hf := itn0 hc hf
      refine aw_iload_n 0 dX8_most_5 rfl ?_
      refine aw_goto (tgt := 10) dX8_most_6 rfl ?_
      obtain rfl := so1 hf
      exact aw_pick [] rfl hJ10
set_option maxRecDepth 100000 in
set_option maxHeartbeats 4000000 in
theorem c_X8_hiddenOf (g : Gx) (h : Hea) (a0 : Nat) (a1 : Int32) (o : Int32) (hf : f_X8_hiddenOf h a0 a1 = some o) : MC g yX8_hiddenOf cX8_hiddenOf 5 (some .int) 2 0 0 [.ref a0, .int a1] h (some (.int o), h) := by
  refine MC_of (own := RX8) (nm := "hiddenOf") [(0, .ref a0), (1, .int a1)] rfl rfl pn_RX8 (Nat.le_of_ble_eq_true rfl) rfl ?_
  rw [f_X8_hiddenOf] at hf
  refine aw_aload_n 0 dX8_hiddenOf_0 rfl ?_
  refine aw_gR fl_RX8_7 dX8_hiddenOf_1 hf (fun x1 hf => ?_)
  refine aw_bipush (v := 7) dX8_hiddenOf_4 rfl ?_
  refine aw_aload_n 0 dX8_hiddenOf_6 rfl ?_
  refine aw_gR fl_RX8_27 dX8_hiddenOf_7 hf (fun x2 hf => ?_)
  refine aw_iload_n 1 dX8_hiddenOf_10 rfl ?_
  refine aw_ldI dX8_hiddenOf_11 hf (fun x3 hf => ?_)
  refine aw_iadd dX8_hiddenOf_12 ?_
  refine aw_ldI dX8_hiddenOf_13 hf (fun x4 hf => ?_)
  refine aw_aload_n 0 dX8_hiddenOf_14 rfl ?_
  refine aw_iload_n 1 dX8_hiddenOf_15 rfl ?_
  refine aw_iconst (v := 2) dX8_hiddenOf_16 rfl ?_
  refine aw_cV_i (st := [.int x4]) [.int a1, .int 2] wV_RX8_119 (ci := 8) rfl (fun xr er => c_X8_get g h a0 a1 2 xr er) dX8_hiddenOf_17 rfl rfl (Nat.le_of_ble_eq_true rfl) (Nat.le_of_ble_eq_true rfl) (Nat.le_of_ble_eq_true rfl) (Nat.le_of_ble_eq_true rfl) hf (fun x5 hf => ?_)
  refine aw_iadd dX8_hiddenOf_20 ?_
  refine aw_istore_n [(2, .int (x4 + x5)), (0, .ref a0), (1, .int a1)] dX8_hiddenOf_21 (Nat.le_of_ble_eq_true rfl) rfl ?_
  refine aw_iload_n 0 dX8_hiddenOf_22 rfl ?_
  refine aw_iconst (v := 5) dX8_hiddenOf_23 rfl ?_
  refine aw_aload_n 1 dX8_hiddenOf_24 rfl ?_
  refine aw_gR fl_RX8_30 dX8_hiddenOf_25 hf (fun x6 hf => ?_)
  refine aw_iload_n 2 dX8_hiddenOf_28 rfl ?_
  refine aw_ldI dX8_hiddenOf_29 hf (fun x7 hf => ?_)
  refine aw_cS_i (st := [.int (x4 + x5)]) [.int 5, .int x7] wS_RX8_122 (fun xr er => c_X8_least g h 5 x7 xr er) dX8_hiddenOf_30 rfl rfl (Nat.le_of_ble_eq_true rfl) (Nat.le_of_ble_eq_true rfl) (Nat.le_of_ble_eq_true rfl) (Nat.le_of_ble_eq_true rfl) hf (fun x8 hf => ?_)
  refine aw_iadd dX8_hiddenOf_33 ?_
  refine aw_istore_n [(3, .int ((x4 + x5) + x8)), (2, .int (x4 + x5)), (0, .ref a0), (1, .int a1)] dX8_hiddenOf_34 (Nat.le_of_ble_eq_true rfl) rfl ?_
  refine aw_iconst (v := 0) dX8_hiddenOf_35 rfl ?_
  refine aw_iload_n 1 dX8_hiddenOf_36 rfl ?_
  refine aw_iconst (v := 3) dX8_hiddenOf_37 rfl ?_
  refine aw_isub dX8_hiddenOf_38 ?_
  refine aw_cS_i (st := []) [.int 0, .int ((x4 + x5) - 3)] wS_RX8_125 (fun xr er => c_X8_most g h 0 ((x4 + x5) - 3) xr er) dX8_hiddenOf_39 rfl rfl (Nat.le_of_ble_eq_true rfl) (Nat.le_of_ble_eq_true rfl) (Nat.le_of_ble_eq_true rfl) (Nat.le_of_ble_eq_true rfl) hf (fun x9 hf => ?_)
  refine aw_istore [(4, .int x9), (3, .int ((x4 + x5) + x8)), (2, .int (x4 + x5)), (0, .ref a0), (1, .int a1)] dX8_hiddenOf_42 (Nat.le_of_ble_eq_true rfl) rfl ?_
  refine aw_aload_n 3 dX8_hiddenOf_44 rfl ?_
  refine aw_iload_n 4 dX8_hiddenOf_45 rfl ?_
  refine aw_iconst (v := 0) dX8_hiddenOf_46 rfl ?_
  refine aw_cV_i (st := []) [.int a1, .int 0] wV_RX8_119 (ci := 8) rfl (fun xr er => c_X8_get g h a0 a1 0 xr er) dX8_hiddenOf_47 rfl rfl (Nat.le_of_ble_eq_true rfl) (Nat.le_of_ble_eq_true rfl) (Nat.le_of_ble_eq_true rfl) (Nat.le_of_ble_eq_true rfl) hf (fun x10 hf => ?_)
  by_cases hc0 : x10 = 1
  · have hf := itp0 hc0 hf
    refine aw_tsK (tgt := 84) (off := 34) (k := 1) hc0 rfl dX8_hiddenOf_50 (by decide) (by decide) rfl rfl ?_
    refine aw_iload 0 dX8_hiddenOf_84 rfl ?_
    obtain rfl := so1 hf
    exact aw_iret dX8_hiddenOf_86 rfl rfl
  have hf := itn0 hc0 hf
  by_cases hc1 : x10 = 2
  · have hf := itp0 hc1 hf
    refine aw_tsK (tgt := 87) (off := 37) (k := 2) hc1 rfl dX8_hiddenOf_50 (by decide) (by decide) rfl rfl ?_
    refine aw_aload_n 3 dX8_hiddenOf_87 rfl ?_
    refine aw_iload_n 4 dX8_hiddenOf_88 rfl ?_
    refine aw_cV_i (st := []) [.int a1] wV_RX8_128 (ci := 8) rfl (fun xr er => c_X8_isOther g h a0 a1 xr er) dX8_hiddenOf_89 rfl rfl (Nat.le_of_ble_eq_true rfl) (Nat.le_of_ble_eq_true rfl) (Nat.le_of_ble_eq_true rfl) (Nat.le_of_ble_eq_true rfl) hf (fun x11 hf => ?_)
    refine reg1 (fun (v12 : Int32) => AW g RX8 cX8_hiddenOf (5, some .int, "hiddenOf", 2, 0, 0) (some (.int o), h) 102 [] [.int v12] h 0 0) hf (fun v12 hf => ?_) (fun v12 hf hJ102 => ?_)
    · obtain rfl := so1 hf
      exact aw_iret dX8_hiddenOf_102 rfl rfl
    · refine aw_if_eq (tgt := 101) dX8_hiddenOf_92 rfl (fun hc => ?_) (fun hc => ?_)
      · have hf := itp0 hc hf
        refine aw_iload_n 2 dX8_hiddenOf_101 rfl ?_
        obtain rfl := so1 hf
        exact aw_pick [] rfl hJ102
      · have hf := itn0 hc hf
        refine aw_iload_n 2 dX8_hiddenOf_95 rfl ?_
        refine aw_iconst (v := 2) dX8_hiddenOf_96 rfl ?_
        refine aw_idiv0 dX8_hiddenOf_97 (by decide) ?_
        refine aw_goto (tgt := 102) dX8_hiddenOf_98 rfl ?_
        obtain rfl := so1 hf
        exact aw_pick [] rfl hJ102
  have hf := itn0 hc1 hf
  by_cases hc2 : x10 = 3
  · have hf := itp0 hc2 hf
    refine aw_tsK (tgt := 103) (off := 53) (k := 3) hc2 rfl dX8_hiddenOf_50 (by decide) (by decide) rfl rfl ?_
    refine aw_iload_n 1 dX8_hiddenOf_103 rfl ?_
    obtain rfl := so1 hf
    exact aw_iret dX8_hiddenOf_104 rfl rfl
  have hf := itn0 hc2 hf
  by_cases hc3 : x10 = 4
  · have hf := itp0 hc3 hf
    refine aw_tsK (tgt := 105) (off := 55) (k := 4) hc3 rfl dX8_hiddenOf_50 (by decide) (by decide) rfl rfl ?_
    refine aw_aload_n 3 dX8_hiddenOf_105 rfl ?_
    refine aw_gR fl_RX8_30 dX8_hiddenOf_106 hf (fun x13 hf => ?_)
    refine aw_iload_n 4 dX8_hiddenOf_109 rfl ?_
    refine aw_ldI dX8_hiddenOf_110 hf (fun x14 hf => ?_)
    refine reg1 (fun (v15 : Int32) => AW g RX8 cX8_hiddenOf (5, some .int, "hiddenOf", 2, 0, 0) (some (.int o), h) 127 [] [.int v15] h 0 0) hf (fun v15 hf => ?_) (fun v15 hf hJ127 => ?_)
    · obtain rfl := so1 hf
      exact aw_iret dX8_hiddenOf_127 rfl rfl
    · refine aw_if_ne (tgt := 125) dX8_hiddenOf_111 rfl (fun hc => ?_) (fun hc => ?_)
      · have hf := itn0 hc hf
        refine aw_iload 0 dX8_hiddenOf_125 rfl ?_
        obtain rfl := so1 hf
        exact aw_pick [] rfl hJ127
      · have hf := itp0 hc hf
        refine aw_iconst (v := 0) dX8_hiddenOf_114 rfl ?_
        refine aw_iload 0 dX8_hiddenOf_115 rfl ?_
        refine aw_iconst (v := 2) dX8_hiddenOf_117 rfl ?_
        refine aw_isub dX8_hiddenOf_118 ?_
        refine aw_cS_i (st := []) [.int 0, .int (x9 - 2)] wS_RX8_125 (fun xr er => c_X8_most g h 0 (x9 - 2) xr er) dX8_hiddenOf_119 rfl rfl (Nat.le_of_ble_eq_true rfl) (Nat.le_of_ble_eq_true rfl) (Nat.le_of_ble_eq_true rfl) (Nat.le_of_ble_eq_true rfl) hf (fun x16 hf => ?_)
        refine aw_goto (tgt := 127) dX8_hiddenOf_122 rfl ?_
        obtain rfl := so1 hf
        exact aw_pick [] rfl hJ127
  have hf := itn0 hc3 hf
  by_cases hc4 : x10 = 5
  · have hf := itp0 hc4 hf
    refine aw_tsK (tgt := 128) (off := 78) (k := 5) hc4 rfl dX8_hiddenOf_50 (by decide) (by decide) rfl rfl ?_
    refine aw_iload_n 1 dX8_hiddenOf_128 rfl ?_
    refine aw_aload_n 3 dX8_hiddenOf_129 rfl ?_
    refine aw_gR fl_RX8_7 dX8_hiddenOf_130 hf (fun x17 hf => ?_)
    refine aw_iconst (v := 2) dX8_hiddenOf_133 rfl ?_
    refine aw_ldI dX8_hiddenOf_134 hf (fun x18 hf => ?_)
    refine aw_cS_i (st := []) [.int ((x4 + x5) + x8), .int x18] wS_RX8_122 (fun xr er => c_X8_least g h ((x4 + x5) + x8) x18 xr er) dX8_hiddenOf_135 rfl rfl (Nat.le_of_ble_eq_true rfl) (Nat.le_of_ble_eq_true rfl) (Nat.le_of_ble_eq_true rfl) (Nat.le_of_ble_eq_true rfl) hf (fun x19 hf => ?_)
    obtain rfl := so1 hf
    exact aw_iret dX8_hiddenOf_138 rfl rfl
  have hf := itn0 hc4 hf
  refine aw_tsOut (tgt := 139) dX8_hiddenOf_50 (ts_out 1 5 (by decide) (by decide) (fun i hi => by rcases (show i = 0 ∨ i = 1 ∨ i = 2 ∨ i = 3 ∨ i = 4 by omega) with rfl | rfl | rfl | rfl | rfl <;> assumption)) rfl ?_
  refine aw_iload_n 2 dX8_hiddenOf_139 rfl ?_
  obtain rfl := so1 hf
  exact aw_iret dX8_hiddenOf_140 rfl rfl
set_option maxRecDepth 100000 in
set_option maxHeartbeats 4000000 in
theorem c_X8_looksIn (g : Gx) (h : Hea) (a0 : Nat) (a1 : Int32) (o : Int32) (hf : f_X8_looksIn h a0 a1 = some o) : MC g yX8_looksIn cX8_looksIn 3 (some .int) 0 0 0 [.ref a0, .int a1] h (some (.int o), h) := by
  refine MC_of (own := RX8) (nm := "looksIn") [(0, .ref a0), (1, .int a1)] rfl rfl pn_RX8 (Nat.le_of_ble_eq_true rfl) rfl ?_
  rw [f_X8_looksIn] at hf
  refine aw_iload_n 1 dX8_looksIn_0 rfl ?_
  refine aw_aload_n 0 dX8_looksIn_1 rfl ?_
  refine aw_gR fl_RX8_7 dX8_looksIn_2 hf (fun x1 hf => ?_)
  refine aw_iconst (v := 4) dX8_looksIn_5 rfl ?_
  refine aw_ldI dX8_looksIn_6 hf (fun x2 hf => ?_)
  refine aw_irem dX8_looksIn_7 hf (fun hf => ?_)
  refine aw_istore_n [(2, .int (a1 - a1 / x2 * x2)), (0, .ref a0), (1, .int a1)] dX8_looksIn_8 (Nat.le_of_ble_eq_true rfl) rfl ?_
  refine aw_aload_n 1 dX8_looksIn_9 rfl ?_
  refine aw_gR fl_RX8_7 dX8_looksIn_10 hf (fun x3 hf => ?_)
  refine aw_bipush (v := 79) dX8_looksIn_13 rfl ?_
  refine aw_iload_n 2 dX8_looksIn_15 rfl ?_
  refine aw_bipush (v := 7) dX8_looksIn_16 rfl ?_
  refine aw_irem0 dX8_looksIn_18 (by decide) ?_
  refine aw_bipush (v := 6) dX8_looksIn_19 rfl ?_
  refine reg1 (fun (v4 : Int32) => AW g RX8 cX8_looksIn (3, some .int, "looksIn", 0, 0, 0) (some (.int o), h) 38 [] [.int v4, .int 79, .ref x3] h 0 0) hf (fun v4 hf => ?_) (fun v4 hf hJ38 => ?_)
  · refine aw_iadd dX8_looksIn_38 ?_
    refine aw_ldI dX8_looksIn_39 hf (fun x7 hf => ?_)
    obtain rfl := so1 hf
    exact aw_iret dX8_looksIn_40 rfl rfl
  · refine aw_icmp_ne (tgt := 37) dX8_looksIn_21 rfl (fun hc => ?_) (fun hc => ?_)
    · have hf := itn0 hc hf
      refine aw_iload_n 0 dX8_looksIn_37 rfl ?_
      obtain rfl := so1 hf
      exact aw_pick [] rfl hJ38
    · have hf := itp0 hc hf
      refine aw_aload_n 1 dX8_looksIn_24 rfl ?_
      refine aw_gR fl_RX8_7 dX8_looksIn_25 hf (fun x5 hf => ?_)
      refine aw_iconst (v := 4) dX8_looksIn_28 rfl ?_
      refine aw_ldI dX8_looksIn_29 hf (fun x6 hf => ?_)
      refine aw_iconst (v := 1) dX8_looksIn_30 rfl ?_
      refine aw_isub dX8_looksIn_31 ?_
      refine aw_iload_n 0 dX8_looksIn_32 rfl ?_
      refine aw_isub dX8_looksIn_33 ?_
      refine aw_goto (tgt := 38) dX8_looksIn_34 rfl ?_
      obtain rfl := so1 hf
      exact aw_pick [] rfl hJ38
set_option maxRecDepth 100000 in
set_option maxHeartbeats 4000000 in
theorem l_X8_goNight_13 (g : Gx) {res : Option Value × Hea} : ∀ (n : Nat) (h : Hea) (y0 : Nat) (y1 : Int32) (y2 : Int32) (y3 : Int32) (ho : Hea) (hf : f_X8_goNight_13 n h y0 y3 = some ho) (kk : AW g RX8 cX8_goNight (5, some .int, "goNight", 3, 0, 0) res 38 [(0, .ref y0), (1, .int y1), (2, .int y2)] [] ho 0 0), AW g RX8 cX8_goNight (5, some .int, "goNight", 3, 0, 0) res 13 [(0, .ref y0), (1, .int y1), (2, .int y2), (3, .int y3)] [] h 0 0 := by
  intro n
  induction n with
  | zero =>
    intro h y0 y1 y2 y3 ho hf kk
    rw [f_X8_goNight_13] at hf
    cases hf
  | succ n ih =>
    intro h y0 y1 y2 y3 ho hf kk
    rw [f_X8_goNight_13] at hf
    refine aw_iload_n 3 dX8_goNight_13 rfl ?_
    refine aw_aload_n 0 dX8_goNight_14 rfl ?_
    refine aw_cV_i (st := [.int y3]) [] wV_RX8_74 (ci := 8) rfl (fun xr er => c_X8_heirs g h y0 xr er) dX8_goNight_15 rfl rfl (Nat.le_of_ble_eq_true rfl) (Nat.le_of_ble_eq_true rfl) (Nat.le_of_ble_eq_true rfl) (Nat.le_of_ble_eq_true rfl) hf (fun x1 hf => ?_)
    refine aw_icmp_ge (tgt := 38) dX8_goNight_18 rfl (fun hc => ?_) (fun hc => ?_)
    · have hf := itp0 hc hf
      obtain rfl := so1 hf
      exact aw_pick [0, 1, 2] rfl kk
    · have hf := itn0 hc hf
      refine aw_aload_n 0 dX8_goNight_21 rfl ?_
      refine aw_gR fl_RX8_39 dX8_goNight_22 hf (fun x2 hf => ?_)
      refine aw_iload_n 3 dX8_goNight_25 rfl ?_
      refine aw_aload_n 0 dX8_goNight_26 rfl ?_
      refine aw_iload_n 3 dX8_goNight_27 rfl ?_
      refine aw_cV_i (st := [.int y3, .ref x2]) [.int y3] wV_RX8_134 (ci := 8) rfl (fun xr er => c_X8_hiddenOf g h y0 y3 xr er) dX8_goNight_28 rfl rfl (Nat.le_of_ble_eq_true rfl) (Nat.le_of_ble_eq_true rfl) (Nat.le_of_ble_eq_true rfl) (Nat.le_of_ble_eq_true rfl) hf (fun x3 hf => ?_)
      refine aw_stI dX8_goNight_31 hf (fun h4 hf => ?_)
      refine aw_iinc (y3 + 1) [(3, .int (y3 + 1)), (0, .ref y0), (1, .int y1), (2, .int y2)] 3 dX8_goNight_32 rfl rfl (Nat.le_of_ble_eq_true rfl) rfl ?_
      refine aw_goto (tgt := 13) dX8_goNight_35 rfl ?_
      refine aw_pick [1, 2, 3, 0] rfl ?_
      exact ih h4 y0 y1 y2 (y3 + 1) ho hf kk
set_option maxRecDepth 100000 in
set_option maxHeartbeats 4000000 in
theorem l_X8_goNight_40 (g : Gx) {res : Option Value × Hea} : ∀ (n : Nat) (h : Hea) (y0 : Nat) (y1 : Int32) (y2 : Int32) (y3 : Int32) (o1 : Int32) (ho : Hea) (hf : f_X8_goNight_40 n h y0 y1 y2 y3 = some (o1, ho)) (kk : AW g RX8 cX8_goNight (5, some .int, "goNight", 3, 0, 0) res 174 [(0, .ref y0), (1, .int o1)] [] ho 0 0), AW g RX8 cX8_goNight (5, some .int, "goNight", 3, 0, 0) res 40 [(0, .ref y0), (1, .int y1), (2, .int y2), (3, .int y3)] [] h 0 0 := by
  intro n
  induction n with
  | zero =>
    intro h y0 y1 y2 y3 o1 ho hf kk
    rw [f_X8_goNight_40] at hf
    cases hf
  | succ n ih =>
    intro h y0 y1 y2 y3 o1 ho hf kk
    rw [f_X8_goNight_40] at hf
    refine aw_iload_n 3 dX8_goNight_40 rfl ?_
    refine aw_aload_n 0 dX8_goNight_41 rfl ?_
    refine aw_cV_i (st := [.int y3]) [] wV_RX8_74 (ci := 8) rfl (fun xr er => c_X8_heirs g h y0 xr er) dX8_goNight_42 rfl rfl (Nat.le_of_ble_eq_true rfl) (Nat.le_of_ble_eq_true rfl) (Nat.le_of_ble_eq_true rfl) (Nat.le_of_ble_eq_true rfl) hf (fun x1 hf => ?_)
    refine aw_icmp_ge (tgt := 174) dX8_goNight_45 rfl (fun hc => ?_) (fun hc => ?_)
    · have hf := itp0 hc hf
      obtain ⟨rfl, rfl⟩ := so2 hf
      exact aw_pick [0, 1] rfl kk
    · have hf := itn0 hc hf
      refine aw_aload_n 0 dX8_goNight_48 rfl ?_
      refine aw_gR fl_RX8_33 dX8_goNight_49 hf (fun x2 hf => ?_)
      refine aw_iload_n 3 dX8_goNight_52 rfl ?_
      refine aw_ldI dX8_goNight_53 hf (fun x3 hf => ?_)
      refine reg2 (fun (v4 : Int32) (h5 : Hea) => AW g RX8 cX8_goNight (5, some .int, "goNight", 3, 0, 0) res 168 [(0, .ref y0), (1, .int v4), (2, .int y2), (3, .int y3)] [] h5 0 0) hf (fun v4 h5 hf => ?_) (fun v4 h5 hf hJ168 => ?_)
      · refine aw_iinc (y3 + 1) [(3, .int (y3 + 1)), (0, .ref y0), (1, .int v4), (2, .int y2)] 3 dX8_goNight_168 rfl rfl (Nat.le_of_ble_eq_true rfl) rfl ?_
        refine aw_goto (tgt := 40) dX8_goNight_171 rfl ?_
        refine aw_pick [1, 2, 3, 0] rfl ?_
        exact ih h5 y0 v4 y2 (y3 + 1) o1 ho hf kk
      · refine aw_if_ne (tgt := 168) dX8_goNight_54 rfl (fun hc => ?_) (fun hc => ?_)
        · have hf := itn0 hc hf
          obtain ⟨rfl, rfl⟩ := so2 hf
          exact aw_pick [0, 1, 2, 3] rfl hJ168
        · have hf := itp0 hc hf
          refine aw_aload_n 0 dX8_goNight_57 rfl ?_
          refine aw_gR fl_RX8_39 dX8_goNight_58 hf (fun x6 hf => ?_)
          refine aw_iload_n 3 dX8_goNight_61 rfl ?_
          refine aw_ldI dX8_goNight_62 hf (fun x7 hf => ?_)
          refine aw_aload_n 0 dX8_goNight_63 rfl ?_
          refine aw_gR fl_RX8_7 dX8_goNight_64 hf (fun x8 hf => ?_)
          refine aw_iconst (v := 2) dX8_goNight_67 rfl ?_
          refine aw_ldI dX8_goNight_68 hf (fun x9 hf => ?_)
          refine reg1 (fun (v10 : Int32) => AW g RX8 cX8_goNight (5, some .int, "goNight", 3, 0, 0) res 104 [(0, .ref y0), (1, .int y1), (2, .int y2), (3, .int y3)] [.int v10] h 0 0) hf (fun v10 hf => ?_) (fun v10 hf hJ104 => ?_)
          · refine aw_istore [(4, .int v10), (0, .ref y0), (1, .int y1), (2, .int y2), (3, .int y3)] dX8_goNight_104 (Nat.le_of_ble_eq_true rfl) rfl ?_
            refine aw_aload_n 1 dX8_goNight_106 rfl ?_
            refine aw_gR fl_RX8_33 dX8_goNight_107 hf (fun x16 hf => ?_)
            refine aw_iload_n 4 dX8_goNight_110 rfl ?_
            refine aw_iload 0 dX8_goNight_111 rfl ?_
            refine aw_stI dX8_goNight_113 hf (fun h17 hf => ?_)
            refine aw_aload_n 1 dX8_goNight_114 rfl ?_
            refine aw_gR fl_RX8_36 dX8_goNight_115 hf (fun x18 hf => ?_)
            refine aw_iload_n 4 dX8_goNight_118 rfl ?_
            refine aw_iload 0 dX8_goNight_119 rfl ?_
            refine reg1 (fun (v19 : Int32) => AW g RX8 cX8_goNight (5, some .int, "goNight", 3, 0, 0) res 132 [(0, .ref y0), (1, .int y1), (2, .int y2), (3, .int y3), (4, .int v10)] [.int v19, .int y3, .ref x18] h17 0 0) hf (fun v19 hf => ?_) (fun v19 hf hJ132 => ?_)
            · refine aw_stI dX8_goNight_132 hf (fun h21 hf => ?_)
              refine aw_aload_n 0 dX8_goNight_133 rfl ?_
              refine aw_gR fl_RX8_30 dX8_goNight_134 hf (fun x22 hf => ?_)
              refine aw_iload_n 3 dX8_goNight_137 rfl ?_
              refine aw_dup2 dX8_goNight_138 rfl rfl ?_
              refine aw_ldI dX8_goNight_139 hf (fun x23 hf => ?_)
              refine aw_iload 4 dX8_goNight_140 rfl ?_
              refine reg1 (fun (v24 : Int32) => AW g RX8 cX8_goNight (5, some .int, "goNight", 3, 0, 0) res 150 [(0, .ref y0), (1, .int y1), (2, .int y2), (3, .int y3), (4, .int v10)] [.int v24, .int x23, .int y3, .ref x22] h21 0 0) hf (fun v24 hf => ?_) (fun v24 hf hJ150 => ?_)
              · refine aw_iadd dX8_goNight_150 ?_
                refine aw_stI dX8_goNight_151 hf (fun h25 hf => ?_)
                refine aw_iload_n 1 dX8_goNight_152 rfl ?_
                refine aw_iload 4 dX8_goNight_153 rfl ?_
                refine aw_iconst (v := 2) dX8_goNight_155 rfl ?_
                refine reg1 (fun (v26 : Int32) => AW g RX8 cX8_goNight (5, some .int, "goNight", 3, 0, 0) res 166 [(0, .ref y0), (2, .int y2), (3, .int y3)] [.int v26, .int y1] h25 0 0) hf (fun v26 hf => ?_) (fun v26 hf hJ166 => ?_)
                · refine aw_ior dX8_goNight_166 ?_
                  refine aw_istore_n [(1, .int (y1 ||| v26)), (0, .ref y0), (2, .int y2), (3, .int y3)] dX8_goNight_167 (Nat.le_of_ble_eq_true rfl) rfl ?_
                  obtain ⟨rfl, rfl⟩ := so2 hf
                  exact aw_pick [1, 0, 2, 3] rfl hJ168
                · refine aw_icmp_ne (tgt := 165) dX8_goNight_156 rfl (fun hc => ?_) (fun hc => ?_)
                  · have hf := itn0 hc hf
                    refine aw_iconst (v := 0) dX8_goNight_165 rfl ?_
                    obtain rfl := so1 hf
                    exact aw_pick [0, 2, 3] rfl hJ166
                  · have hf := itp0 hc hf
                    refine aw_iconst (v := 1) dX8_goNight_159 rfl ?_
                    refine aw_iload_n 3 dX8_goNight_160 rfl ?_
                    refine aw_ishl dX8_goNight_161 ?_
                    refine aw_goto (tgt := 166) dX8_goNight_162 rfl ?_
                    obtain rfl := so1 hf
                    exact aw_pick [0, 2, 3] rfl hJ166
              · refine aw_if_ne (tgt := 149) dX8_goNight_142 rfl (fun hc => ?_) (fun hc => ?_)
                · have hf := itn0 hc hf
                  refine aw_iconst (v := 0) dX8_goNight_149 rfl ?_
                  obtain rfl := so1 hf
                  exact aw_pick [0, 1, 2, 3, 4] rfl hJ150
                · have hf := itp0 hc hf
                  refine aw_iconst (v := 1) dX8_goNight_145 rfl ?_
                  refine aw_goto (tgt := 150) dX8_goNight_146 rfl ?_
                  obtain rfl := so1 hf
                  exact aw_pick [0, 1, 2, 3, 4] rfl hJ150
            · refine aw_if_ne (tgt := 128) dX8_goNight_121 rfl (fun hc => ?_) (fun hc => ?_)
              · have hf := itn0 hc hf
                refine aw_aload_n 1 dX8_goNight_128 rfl ?_
                refine aw_gI fl_RX8_112 dX8_goNight_129 hf (fun x20 hf => ?_)
                obtain rfl := so1 hf
                exact aw_pick [1, 2, 3, 4, 0] rfl hJ132
              · have hf := itp0 hc hf
                refine aw_iconst (v := (-1)) dX8_goNight_124 rfl ?_
                refine aw_goto (tgt := 132) dX8_goNight_125 rfl ?_
                obtain rfl := so1 hf
                exact aw_pick [1, 2, 3, 4, 0] rfl hJ132
          · refine aw_icmp_ge (tgt := 76) dX8_goNight_69 rfl (fun hc => ?_) (fun hc => ?_)
            · have hf := itp0 hc hf
              refine aw_aload_n 0 dX8_goNight_76 rfl ?_
              refine aw_gR fl_RX8_27 dX8_goNight_77 hf (fun x11 hf => ?_)
              refine aw_iload_n 3 dX8_goNight_80 rfl ?_
              refine aw_ldI dX8_goNight_81 hf (fun x12 hf => ?_)
              refine aw_iload_n 2 dX8_goNight_82 rfl ?_
              refine aw_icmp_ne (tgt := 103) dX8_goNight_83 rfl (fun hc => ?_) (fun hc => ?_)
              · have hf := itn0 hc hf
                refine aw_iconst (v := 0) dX8_goNight_103 rfl ?_
                obtain rfl := so1 hf
                exact aw_pick [0, 1, 2, 3] rfl hJ104
              · have hf := itp0 hc hf
                refine aw_aload_n 0 dX8_goNight_86 rfl ?_
                refine aw_gR fl_RX8_39 dX8_goNight_87 hf (fun x13 hf => ?_)
                refine aw_iload_n 3 dX8_goNight_90 rfl ?_
                refine aw_ldI dX8_goNight_91 hf (fun x14 hf => ?_)
                refine aw_aload_n 0 dX8_goNight_92 rfl ?_
                refine aw_gI fl_RX8_116 dX8_goNight_93 hf (fun x15 hf => ?_)
                refine aw_icmp_ge (tgt := 103) dX8_goNight_96 rfl (fun hc => ?_) (fun hc => ?_)
                · have hf := itp0 hc hf
                  refine aw_iconst (v := 0) dX8_goNight_103 rfl ?_
                  obtain rfl := so1 hf
                  exact aw_pick [0, 1, 2, 3] rfl hJ104
                · have hf := itn0 hc hf
                  refine aw_iconst (v := 2) dX8_goNight_99 rfl ?_
                  refine aw_goto (tgt := 104) dX8_goNight_100 rfl ?_
                  obtain rfl := so1 hf
                  exact aw_pick [0, 1, 2, 3] rfl hJ104
            · have hf := itn0 hc hf
              refine aw_iconst (v := 1) dX8_goNight_72 rfl ?_
              refine aw_goto (tgt := 104) dX8_goNight_73 rfl ?_
              obtain rfl := so1 hf
              exact aw_pick [0, 1, 2, 3] rfl hJ104
set_option maxRecDepth 100000 in
set_option maxHeartbeats 4000000 in
theorem c_X8_goNight (g : Gx) (h : Hea) (a0 : Nat) (o : Int32) (hz : Hea) (hf : f_X8_goNight h a0 = some (o, hz)) : MC g yX8_goNight cX8_goNight 5 (some .int) 3 0 0 [.ref a0] h (some (.int o), hz) := by
  refine MC_of (own := RX8) (nm := "goNight") [(0, .ref a0)] rfl rfl pn_RX8 (Nat.le_of_ble_eq_true rfl) rfl ?_
  rw [f_X8_goNight] at hf
  refine aw_iconst (v := 0) dX8_goNight_0 rfl ?_
  refine aw_istore_n [(1, .int 0), (0, .ref a0)] dX8_goNight_1 (Nat.le_of_ble_eq_true rfl) rfl ?_
  refine aw_aload_n 1 dX8_goNight_2 rfl ?_
  refine aw_aload_n 1 dX8_goNight_3 rfl ?_
  refine aw_gI fl_RX8_112 dX8_goNight_4 hf (fun x1 hf => ?_)
  refine aw_cV_i (st := []) [.int x1] wV_RX8_131 (ci := 8) rfl (fun xr er => c_X8_looksIn g h a0 x1 xr er) dX8_goNight_7 rfl rfl (Nat.le_of_ble_eq_true rfl) (Nat.le_of_ble_eq_true rfl) (Nat.le_of_ble_eq_true rfl) (Nat.le_of_ble_eq_true rfl) hf (fun x2 hf => ?_)
  refine aw_istore_n [(2, .int x2), (1, .int 0), (0, .ref a0)] dX8_goNight_10 (Nat.le_of_ble_eq_true rfl) rfl ?_
  refine aw_iconst (v := 0) dX8_goNight_11 rfl ?_
  refine aw_istore_n [(3, .int 0), (2, .int x2), (1, .int 0), (0, .ref a0)] dX8_goNight_12 (Nat.le_of_ble_eq_true rfl) rfl ?_
  refine aw_pick [3, 2, 1, 0] rfl ?_
  refine reg1 (fun (h3 : Hea) => AW g RX8 cX8_goNight (5, some .int, "goNight", 3, 0, 0) (some (.int o), hz) 38 [(0, .ref a0), (1, .int 0), (2, .int x2)] [] h3 0 0) hf (fun h3 hf => ?_) (fun h3 hf hJ => l_X8_goNight_13 g  lots h a0 0 x2 0 h3 hf hJ)
  refine aw_iconst (v := 0) dX8_goNight_38 rfl ?_
  refine aw_istore_n [(3, .int 0), (0, .ref a0), (1, .int 0), (2, .int x2)] dX8_goNight_39 (Nat.le_of_ble_eq_true rfl) rfl ?_
  refine aw_pick [1, 2, 3, 0] rfl ?_
  refine reg2 (fun (v4 : Int32) (h5 : Hea) => AW g RX8 cX8_goNight (5, some .int, "goNight", 3, 0, 0) (some (.int o), hz) 174 [(0, .ref a0), (1, .int v4)] [] h5 0 0) hf (fun v4 h5 hf => ?_) (fun v4 h5 hf hJ => l_X8_goNight_40 g  lots h3 a0 0 x2 0 v4 h5 hf hJ)
  refine aw_aload_n 0 dX8_goNight_174 rfl ?_
  refine aw_dup dX8_goNight_175 rfl ?_
  refine aw_gI fl_RX8_112 dX8_goNight_176 hf (fun x6 hf => ?_)
  refine aw_iconst (v := 1) dX8_goNight_179 rfl ?_
  refine aw_iadd dX8_goNight_180 ?_
  refine aw_pI fp_RX8_112 dX8_goNight_181 hf (fun h7 hf => ?_)
  refine aw_iload_n 1 dX8_goNight_184 rfl ?_
  obtain ⟨rfl, rfl⟩ := so2 hf
  exact aw_iret dX8_goNight_185 rfl rfl
set_option maxRecDepth 100000 in
set_option maxHeartbeats 4000000 in
theorem l_X8_keep_14 (g : Gx) {res : Option Value × Hea} : ∀ (n : Nat) (h : Hea) (y0 : Nat) (y1 : Int32) (ho : Hea) (hf : f_X8_keep_14 n h y0 y1 = some ho) (kk : AW g RX8 cX8_keep (4, none, "keep", 1, 0, 0) res 47 [(0, .ref y0)] [] ho 0 0), AW g RX8 cX8_keep (4, none, "keep", 1, 0, 0) res 14 [(0, .ref y0), (1, .int y1)] [] h 0 0 := by
  intro n
  induction n with
  | zero =>
    intro h y0 y1 ho hf kk
    rw [f_X8_keep_14] at hf
    cases hf
  | succ n ih =>
    intro h y0 y1 ho hf kk
    rw [f_X8_keep_14] at hf
    refine aw_iload_n 1 dX8_keep_14 rfl ?_
    refine aw_sipush (v := 217) dX8_keep_15 rfl ?_
    refine aw_icmp_ge (tgt := 47) dX8_keep_18 rfl (fun hc => ?_) (fun hc => ?_)
    · have hf := itp0 hc hf
      obtain rfl := so1 hf
      exact aw_pick [0] rfl kk
    · have hf := itn0 hc hf
      refine aw_aload_n 0 dX8_keep_21 rfl ?_
      refine aw_gR fl_RX8_7 dX8_keep_22 hf (fun x1 hf => ?_)
      refine aw_sipush (v := 151) dX8_keep_25 rfl ?_
      refine aw_iload_n 1 dX8_keep_28 rfl ?_
      refine aw_iadd dX8_keep_29 ?_
      refine aw_aload_n 0 dX8_keep_30 rfl ?_
      refine aw_gR fl_RX8_7 dX8_keep_31 hf (fun x2 hf => ?_)
      refine aw_sipush (v := 182) dX8_keep_34 rfl ?_
      refine aw_iload_n 1 dX8_keep_37 rfl ?_
      refine aw_iadd dX8_keep_38 ?_
      refine aw_ldI dX8_keep_39 hf (fun x3 hf => ?_)
      refine aw_stI dX8_keep_40 hf (fun h4 hf => ?_)
      refine aw_iinc (y1 + 1) [(1, .int (y1 + 1)), (0, .ref y0)] 1 dX8_keep_41 rfl rfl (Nat.le_of_ble_eq_true rfl) rfl ?_
      refine aw_goto (tgt := 14) dX8_keep_44 rfl ?_
      refine aw_pick [1, 0] rfl ?_
      exact ih h4 y0 (y1 + 1) ho hf kk
set_option maxRecDepth 100000 in
set_option maxHeartbeats 4000000 in
theorem l_X8_keep_111 (g : Gx) {res : Option Value × Hea} : ∀ (n : Nat) (h : Hea) (y0 : Nat) (y1 : Int32) (y2 : Int32) (y3 : Int32) (ho : Hea) (hf : f_X8_keep_111 n h y0 y1 y2 y3 = some ho) (kk : AW g RX8 cX8_keep (4, none, "keep", 1, 0, 0) res 144 [(0, .ref y0), (1, .int y1), (2, .int y2)] [] ho 0 0), AW g RX8 cX8_keep (4, none, "keep", 1, 0, 0) res 111 [(0, .ref y0), (1, .int y1), (2, .int y2), (3, .int y3)] [] h 0 0 := by
  intro n
  induction n with
  | zero =>
    intro h y0 y1 y2 y3 ho hf kk
    rw [f_X8_keep_111] at hf
    cases hf
  | succ n ih =>
    intro h y0 y1 y2 y3 ho hf kk
    rw [f_X8_keep_111] at hf
    refine aw_iload_n 3 dX8_keep_111 rfl ?_
    refine aw_iconst (v := 4) dX8_keep_112 rfl ?_
    refine aw_icmp_ge (tgt := 144) dX8_keep_113 rfl (fun hc => ?_) (fun hc => ?_)
    · have hf := itp0 hc hf
      obtain rfl := so1 hf
      exact aw_pick [0, 1, 2] rfl kk
    · have hf := itn0 hc hf
      refine aw_aload_n 0 dX8_keep_116 rfl ?_
      refine aw_gR fl_RX8_7 dX8_keep_117 hf (fun x1 hf => ?_)
      refine aw_iload_n 1 dX8_keep_120 rfl ?_
      refine aw_iconst (v := 2) dX8_keep_121 rfl ?_
      refine aw_iadd dX8_keep_122 ?_
      refine aw_iconst (v := 5) dX8_keep_123 rfl ?_
      refine aw_iload_n 2 dX8_keep_124 rfl ?_
      refine aw_imul dX8_keep_125 ?_
      refine aw_iadd dX8_keep_126 ?_
      refine aw_iload_n 3 dX8_keep_127 rfl ?_
      refine aw_iadd dX8_keep_128 ?_
      refine aw_aload_n 0 dX8_keep_129 rfl ?_
      refine aw_iload_n 2 dX8_keep_130 rfl ?_
      refine aw_iconst (v := 3) dX8_keep_131 rfl ?_
      refine aw_iload_n 3 dX8_keep_132 rfl ?_
      refine aw_iadd dX8_keep_133 ?_
      refine aw_cV_i (st := [.int (((y1 + 2) + (5 * y2)) + y3), .ref x1]) [.int y2, .int (3 + y3)] wV_RX8_119 (ci := 8) rfl (fun xr er => c_X8_get g h y0 y2 (3 + y3) xr er) dX8_keep_134 rfl rfl (Nat.le_of_ble_eq_true rfl) (Nat.le_of_ble_eq_true rfl) (Nat.le_of_ble_eq_true rfl) (Nat.le_of_ble_eq_true rfl) hf (fun x2 hf => ?_)
      refine aw_stI dX8_keep_137 hf (fun h3 hf => ?_)
      refine aw_iinc (y3 + 1) [(3, .int (y3 + 1)), (0, .ref y0), (1, .int y1), (2, .int y2)] 3 dX8_keep_138 rfl rfl (Nat.le_of_ble_eq_true rfl) rfl ?_
      refine aw_goto (tgt := 111) dX8_keep_141 rfl ?_
      refine aw_pick [1, 2, 3, 0] rfl ?_
      exact ih h3 y0 y1 y2 (y3 + 1) ho hf kk
set_option maxRecDepth 100000 in
set_option maxHeartbeats 4000000 in
theorem l_X8_keep_85 (g : Gx) {res : Option Value × Hea} : ∀ (n : Nat) (h : Hea) (y0 : Nat) (y1 : Int32) (y2 : Int32) (ho : Hea) (hf : f_X8_keep_85 n h y0 y1 y2 = some ho) (kk : AW g RX8 cX8_keep (4, none, "keep", 1, 0, 0) res 150 [(0, .ref y0)] [] ho 0 0), AW g RX8 cX8_keep (4, none, "keep", 1, 0, 0) res 85 [(0, .ref y0), (1, .int y1), (2, .int y2)] [] h 0 0 := by
  intro n
  induction n with
  | zero =>
    intro h y0 y1 y2 ho hf kk
    rw [f_X8_keep_85] at hf
    cases hf
  | succ n ih =>
    intro h y0 y1 y2 ho hf kk
    rw [f_X8_keep_85] at hf
    refine aw_iload_n 2 dX8_keep_85 rfl ?_
    refine aw_bipush (v := 6) dX8_keep_86 rfl ?_
    refine aw_icmp_ge (tgt := 150) dX8_keep_88 rfl (fun hc => ?_) (fun hc => ?_)
    · have hf := itp0 hc hf
      obtain rfl := so1 hf
      exact aw_pick [0] rfl kk
    · have hf := itn0 hc hf
      refine aw_aload_n 0 dX8_keep_91 rfl ?_
      refine aw_gR fl_RX8_7 dX8_keep_92 hf (fun x1 hf => ?_)
      refine aw_iload_n 1 dX8_keep_95 rfl ?_
      refine aw_iconst (v := 1) dX8_keep_96 rfl ?_
      refine aw_iadd dX8_keep_97 ?_
      refine aw_iconst (v := 5) dX8_keep_98 rfl ?_
      refine aw_iload_n 2 dX8_keep_99 rfl ?_
      refine aw_imul dX8_keep_100 ?_
      refine aw_iadd dX8_keep_101 ?_
      refine aw_aload_n 0 dX8_keep_102 rfl ?_
      refine aw_iload_n 2 dX8_keep_103 rfl ?_
      refine aw_iconst (v := 1) dX8_keep_104 rfl ?_
      refine aw_cV_i (st := [.int ((y1 + 1) + (5 * y2)), .ref x1]) [.int y2, .int 1] wV_RX8_119 (ci := 8) rfl (fun xr er => c_X8_get g h y0 y2 1 xr er) dX8_keep_105 rfl rfl (Nat.le_of_ble_eq_true rfl) (Nat.le_of_ble_eq_true rfl) (Nat.le_of_ble_eq_true rfl) (Nat.le_of_ble_eq_true rfl) hf (fun x2 hf => ?_)
      refine aw_stI dX8_keep_108 hf (fun h3 hf => ?_)
      refine aw_iconst (v := 0) dX8_keep_109 rfl ?_
      refine aw_istore_n [(3, .int 0), (0, .ref y0), (1, .int y1), (2, .int y2)] dX8_keep_110 (Nat.le_of_ble_eq_true rfl) rfl ?_
      refine aw_pick [1, 2, 3, 0] rfl ?_
      refine reg1 (fun (h4 : Hea) => AW g RX8 cX8_keep (4, none, "keep", 1, 0, 0) res 144 [(0, .ref y0), (1, .int y1), (2, .int y2)] [] h4 0 0) hf (fun h4 hf => ?_) (fun h4 hf hJ => l_X8_keep_111 g  lots h3 y0 y1 y2 0 h4 hf hJ)
      refine aw_iinc (y2 + 1) [(2, .int (y2 + 1)), (0, .ref y0), (1, .int y1)] 2 dX8_keep_144 rfl rfl (Nat.le_of_ble_eq_true rfl) rfl ?_
      refine aw_goto (tgt := 85) dX8_keep_147 rfl ?_
      refine aw_pick [1, 2, 0] rfl ?_
      exact ih h4 y0 y1 (y2 + 1) ho hf kk
set_option maxRecDepth 100000 in
set_option maxHeartbeats 4000000 in
theorem c_X8_keep (g : Gx) (h : Hea) (a0 : Nat) (o : Hea) (hf : f_X8_keep h a0 = some o) : MC g yX8_keep cX8_keep 4 none 1 0 0 [.ref a0] h (none, o) := by
  refine MC_of (own := RX8) (nm := "keep") [(0, .ref a0)] rfl rfl pn_RX8 (Nat.le_of_ble_eq_true rfl) rfl ?_
  rw [f_X8_keep] at hf
  refine aw_aload_n 0 dX8_keep_0 rfl ?_
  refine aw_gR fl_RX8_7 dX8_keep_1 hf (fun x1 hf => ?_)
  refine aw_bipush (v := 6) dX8_keep_4 rfl ?_
  refine aw_ldI dX8_keep_6 hf (fun x2 hf => ?_)
  refine aw_bipush (v := 8) dX8_keep_7 rfl ?_
  refine reg1 (fun (h3 : Hea) => AW g RX8 cX8_keep (4, none, "keep", 1, 0, 0) (none, o) 56 [(0, .ref a0)] [] h3 0 0) hf (fun h3 hf => ?_) (fun h3 hf hJ56 => ?_)
  · refine aw_sipush (v := 151) dX8_keep_56 rfl ?_
    refine aw_bipush (v := 31) dX8_keep_59 rfl ?_
    refine aw_aload_n 0 dX8_keep_61 rfl ?_
    refine aw_gR fl_RX8_7 dX8_keep_62 hf (fun x7 hf => ?_)
    refine aw_bipush (v := 6) dX8_keep_65 rfl ?_
    refine aw_ldI dX8_keep_67 hf (fun x8 hf => ?_)
    refine aw_imul dX8_keep_68 ?_
    refine aw_iadd dX8_keep_69 ?_
    refine aw_istore_n [(1, .int (151 + (31 * x8))), (0, .ref a0)] dX8_keep_70 (Nat.le_of_ble_eq_true rfl) rfl ?_
    refine aw_aload_n 1 dX8_keep_71 rfl ?_
    refine aw_gR fl_RX8_7 dX8_keep_72 hf (fun x9 hf => ?_)
    refine aw_iload_n 0 dX8_keep_75 rfl ?_
    refine aw_aload_n 1 dX8_keep_76 rfl ?_
    refine aw_gR fl_RX8_7 dX8_keep_77 hf (fun x10 hf => ?_)
    refine aw_iconst (v := 3) dX8_keep_80 rfl ?_
    refine aw_ldI dX8_keep_81 hf (fun x11 hf => ?_)
    refine aw_stI dX8_keep_82 hf (fun h12 hf => ?_)
    refine aw_iconst (v := 0) dX8_keep_83 rfl ?_
    refine aw_istore_n [(2, .int 0), (1, .int (151 + (31 * x8))), (0, .ref a0)] dX8_keep_84 (Nat.le_of_ble_eq_true rfl) rfl ?_
    refine aw_pick [2, 1, 0] rfl ?_
    refine reg1 (fun (h13 : Hea) => AW g RX8 cX8_keep (4, none, "keep", 1, 0, 0) (none, o) 150 [(0, .ref a0)] [] h13 0 0) hf (fun h13 hf => ?_) (fun h13 hf hJ => l_X8_keep_85 g  lots h12 a0 (151 + (31 * x8)) 0 h13 hf hJ)
    refine aw_aload_n 0 dX8_keep_150 rfl ?_
    refine aw_gR fl_RX8_7 dX8_keep_151 hf (fun x14 hf => ?_)
    refine aw_bipush (v := 6) dX8_keep_154 rfl ?_
    refine aw_dup2 dX8_keep_156 rfl rfl ?_
    refine aw_ldI dX8_keep_157 hf (fun x15 hf => ?_)
    refine aw_iconst (v := 1) dX8_keep_158 rfl ?_
    refine aw_iadd dX8_keep_159 ?_
    refine aw_stI dX8_keep_160 hf (fun h16 hf => ?_)
    obtain rfl := so1 hf
    exact aw_vret dX8_keep_161 rfl rfl
  · refine aw_icmp_ne (tgt := 56) dX8_keep_9 rfl (fun hc => ?_) (fun hc => ?_)
    · have hf := itn0 hc hf
      obtain rfl := so1 hf
      exact aw_pick [0] rfl hJ56
    · have hf := itp0 hc hf
      refine aw_iconst (v := 0) dX8_keep_12 rfl ?_
      refine aw_istore_n [(1, .int 0), (0, .ref a0)] dX8_keep_13 (Nat.le_of_ble_eq_true rfl) rfl ?_
      refine aw_pick [1, 0] rfl ?_
      refine reg1 (fun (h4 : Hea) => AW g RX8 cX8_keep (4, none, "keep", 1, 0, 0) (none, o) 47 [(0, .ref a0)] [] h4 0 0) hf (fun h4 hf => ?_) (fun h4 hf hJ => l_X8_keep_14 g  lots h a0 0 h4 hf hJ)
      refine aw_aload_n 0 dX8_keep_47 rfl ?_
      refine aw_gR fl_RX8_7 dX8_keep_48 hf (fun x5 hf => ?_)
      refine aw_bipush (v := 6) dX8_keep_51 rfl ?_
      refine aw_bipush (v := 7) dX8_keep_53 rfl ?_
      refine aw_stI dX8_keep_55 hf (fun h6 hf => ?_)
      obtain rfl := so1 hf
      exact aw_pick [0] rfl hJ56
