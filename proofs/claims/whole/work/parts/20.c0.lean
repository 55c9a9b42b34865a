/-! ===== contracts, by program: X3_init .. X4_takeHouse ===== -/
set_option maxRecDepth 100000 in
set_option maxHeartbeats 4000000 in
theorem c_X3_init (g : Gx) (h : Hea) (a0 : Nat) (o : Hea) (hf : f_X3_init h a0 = some o) : MC g yX3_init cX3_init 1 none 1 5 30 [.ref a0] h (none, o) := by
  refine MC_of (own := RX3) (nm := "<init>") [(0, .ref a0)] rfl rfl pn_RX3 (Nat.le_of_ble_eq_true rfl) rfl ?_
  rw [f_X3_init] at hf
  refine aw_aload_n 0 dX3_init_0 rfl ?_
  refine aw_obj ko_RX3_3 dX3_init_1 (Nat.le_of_ble_eq_true rfl) (Nat.le_of_ble_eq_true rfl) ?_
  refine aw_aload_n 0 dX3_init_4 rfl ?_
  refine aw_iconst (v := 0) dX3_init_5 rfl ?_
  refine aw_pI fp_RX3_9 dX3_init_6 hf (fun h1 hf => ?_)
  refine aw_aload_n 0 dX3_init_9 rfl ?_
  refine aw_bipush (v := 6) dX3_init_10 rfl ?_
  refine aw_newaB (atype := .int) (kd := 0) (N := 6) wa_0 (fun _ => rfl) (fun _ _ q => q) (fun _ => rfl) (by decide) (by decide) (Nat.le_of_ble_eq_true rfl) dX3_init_12 (Nat.le_of_ble_eq_true rfl) (Nat.le_of_ble_eq_true rfl) hf (fun q2 h3 hf => ?_)
  refine aw_pR fp_RX3_15 dX3_init_14 rfl rfl (fun _ => rfl) hf (fun h4 hf => ?_)
  refine aw_aload_n 0 dX3_init_17 rfl ?_
  refine aw_bipush (v := 6) dX3_init_18 rfl ?_
  refine aw_newaB (atype := .int) (kd := 0) (N := 6) wa_0 (fun _ => rfl) (fun _ _ q => q) (fun _ => rfl) (by decide) (by decide) (Nat.le_of_ble_eq_true rfl) dX3_init_20 (Nat.le_of_ble_eq_true rfl) (Nat.le_of_ble_eq_true rfl) hf (fun q5 h6 hf => ?_)
  refine aw_pR fp_RX3_19 dX3_init_22 rfl rfl (fun _ => rfl) hf (fun h7 hf => ?_)
  refine aw_aload_n 0 dX3_init_25 rfl ?_
  refine aw_bipush (v := 6) dX3_init_26 rfl ?_
  refine aw_newaB (atype := .int) (kd := 0) (N := 6) wa_0 (fun _ => rfl) (fun _ _ q => q) (fun _ => rfl) (by decide) (by decide) (Nat.le_of_ble_eq_true rfl) dX3_init_28 (Nat.le_of_ble_eq_true rfl) (Nat.le_of_ble_eq_true rfl) hf (fun q8 h9 hf => ?_)
  refine aw_pR fp_RX3_22 dX3_init_30 rfl rfl (fun _ => rfl) hf (fun h10 hf => ?_)
  refine aw_aload_n 0 dX3_init_33 rfl ?_
  refine aw_bipush (v := 6) dX3_init_34 rfl ?_
  refine aw_newaB (atype := .int) (kd := 0) (N := 6) wa_0 (fun _ => rfl) (fun _ _ q => q) (fun _ => rfl) (by decide) (by decide) (Nat.le_of_ble_eq_true rfl) dX3_init_36 (Nat.le_of_ble_eq_true rfl) (Nat.le_of_ble_eq_true rfl) hf (fun q11 h12 hf => ?_)
  refine aw_pR fp_RX3_25 dX3_init_38 rfl rfl (fun _ => rfl) hf (fun h13 hf => ?_)
  refine aw_aload_n 0 dX3_init_41 rfl ?_
  refine aw_bipush (v := 6) dX3_init_42 rfl ?_
  refine aw_newaB (atype := .int) (kd := 0) (N := 6) wa_0 (fun _ => rfl) (fun _ _ q => q) (fun _ => rfl) (by decide) (by decide) (Nat.le_of_ble_eq_true rfl) dX3_init_44 (Nat.le_of_ble_eq_true rfl) (Nat.le_of_ble_eq_true rfl) hf (fun q14 h15 hf => ?_)
  refine aw_pR fp_RX3_28 dX3_init_46 rfl rfl (fun _ => rfl) hf (fun h16 hf => ?_)
  obtain rfl := so1 hf
  exact aw_vret dX3_init_49 rfl rfl
set_option maxRecDepth 100000 in
set_option maxHeartbeats 4000000 in
theorem l_X1_restart_12 (g : Gx) {res : Option Value × Hea} : ∀ (n : Nat) (h : Hea) (y0 : Nat) (y3 : Int32) (ho : Hea) (hf : f_X1_restart_12 n h y0 y3 = some ho) (kk : AW g RX1 cX1_restart (4, none, "restart", 0, 0, 0) res 31 [(0, .ref y0)] [] ho 0 0), AW g RX1 cX1_restart (4, none, "restart", 0, 0, 0) res 12 [(0, .ref y0), (3, .int y3)] [] h 0 0 := by
  intro n
  induction n with
  | zero =>
    intro h y0 y3 ho hf kk
    rw [f_X1_restart_12] at hf
    cases hf
  | succ n ih =>
    intro h y0 y3 ho hf kk
    rw [f_X1_restart_12] at hf
    refine aw_iload_n 1 dX1_restart_12 rfl ?_
    refine aw_bipush (v := 8) dX1_restart_13 rfl ?_
    refine aw_icmp_ge (tgt := 31) dX1_restart_15 rfl (fun hc => ?_) (fun hc => ?_)
    · have hf := itp0 hc hf
      obtain rfl := so1 hf
      exact aw_pick [0] rfl kk
    · have hf := itn0 hc hf
      refine aw_aload_n 0 dX1_restart_18 rfl ?_
      refine aw_gR fl_RX1_9 dX1_restart_19 hf (fun x1 hf => ?_)
      refine aw_iload_n 1 dX1_restart_22 rfl ?_
      refine aw_iconst (v := 5) dX1_restart_23 rfl ?_
      refine aw_stI dX1_restart_24 hf (fun h2 hf => ?_)
      refine aw_iinc (y3 + 1) [(3, .int (y3 + 1)), (0, .ref y0)] 1 dX1_restart_25 rfl rfl (Nat.le_of_ble_eq_true rfl) rfl ?_
      refine aw_goto (tgt := 12) dX1_restart_28 rfl ?_
      refine aw_pick [1, 0] rfl ?_
      exact ih h2 y0 (y3 + 1) ho hf kk
set_option maxRecDepth 100000 in
set_option maxHeartbeats 4000000 in
theorem l_X1_restart_33 (g : Gx) {res : Option Value × Hea} : ∀ (n : Nat) (h : Hea) (y0 : Nat) (y3 : Int32) (ho : Hea) (hf : f_X1_restart_33 n h y0 y3 = some ho) (kk : AW g RX1 cX1_restart (4, none, "restart", 0, 0, 0) res 52 [(0, .ref y0)] [] ho 0 0), AW g RX1 cX1_restart (4, none, "restart", 0, 0, 0) res 33 [(0, .ref y0), (3, .int y3)] [] h 0 0 := by
  intro n
  induction n with
  | zero =>
    intro h y0 y3 ho hf kk
    rw [f_X1_restart_33] at hf
    cases hf
  | succ n ih =>
    intro h y0 y3 ho hf kk
    rw [f_X1_restart_33] at hf
    refine aw_iload_n 1 dX1_restart_33 rfl ?_
    refine aw_bipush (v := 64) dX1_restart_34 rfl ?_
    refine aw_icmp_ge (tgt := 52) dX1_restart_36 rfl (fun hc => ?_) (fun hc => ?_)
    · have hf := itp0 hc hf
      obtain rfl := so1 hf
      exact aw_pick [0] rfl kk
    · have hf := itn0 hc hf
      refine aw_aload_n 0 dX1_restart_39 rfl ?_
      refine aw_gR fl_RX1_15 dX1_restart_40 hf (fun x1 hf => ?_)
      refine aw_iload_n 1 dX1_restart_43 rfl ?_
      refine aw_iconst (v := 0) dX1_restart_44 rfl ?_
      refine aw_stI dX1_restart_45 hf (fun h2 hf => ?_)
      refine aw_iinc (y3 + 1) [(3, .int (y3 + 1)), (0, .ref y0)] 1 dX1_restart_46 rfl rfl (Nat.le_of_ble_eq_true rfl) rfl ?_
      refine aw_goto (tgt := 33) dX1_restart_49 rfl ?_
      refine aw_pick [1, 0] rfl ?_
      exact ih h2 y0 (y3 + 1) ho hf kk
set_option maxRecDepth 100000 in
set_option maxHeartbeats 4000000 in
theorem c_X1_restart (g : Gx) (h : Hea) (a0 : Nat) (a1 : Int32) (a2 : Int32) (o : Hea) (hf : f_X1_restart h a0 a1 a2 = some o) : MC g yX1_restart cX1_restart 4 none 0 0 0 [.ref a0, .int a1, .int a2] h (none, o) := by
  refine MC_of (own := RX1) (nm := "restart") [(0, .ref a0), (1, .int a1), (2, .int a2)] rfl rfl pn_RX1 (Nat.le_of_ble_eq_true rfl) rfl ?_
  rw [f_X1_restart] at hf
  refine aw_aload_n 0 dX1_restart_0 rfl ?_
  refine aw_iload_n 1 dX1_restart_1 rfl ?_
  refine aw_pI fp_RX1_47 dX1_restart_2 hf (fun h1 hf => ?_)
  refine aw_aload_n 0 dX1_restart_5 rfl ?_
  refine aw_iload_n 2 dX1_restart_6 rfl ?_
  refine aw_pI fp_RX1_51 dX1_restart_7 hf (fun h2 hf => ?_)
  refine aw_iconst (v := 0) dX1_restart_10 rfl ?_
  refine aw_istore_n [(3, .int 0), (0, .ref a0), (1, .int a1), (2, .int a2)] dX1_restart_11 (Nat.le_of_ble_eq_true rfl) rfl ?_
  refine aw_pick [1, 0] rfl ?_
  refine reg1 (fun (h3 : Hea) => AW g RX1 cX1_restart (4, none, "restart", 0, 0, 0) (none, o) 31 [(0, .ref a0)] [] h3 0 0) hf (fun h3 hf => ?_) (fun h3 hf hJ => l_X1_restart_12 g  lots h2 a0 0 h3 hf hJ)
  refine aw_iconst (v := 0) dX1_restart_31 rfl ?_
  refine aw_istore_n [(3, .int 0), (0, .ref a0)] dX1_restart_32 (Nat.le_of_ble_eq_true rfl) rfl ?_
  refine aw_pick [1, 0] rfl ?_
  refine reg1 (fun (h4 : Hea) => AW g RX1 cX1_restart (4, none, "restart", 0, 0, 0) (none, o) 52 [(0, .ref a0)] [] h4 0 0) hf (fun h4 hf => ?_) (fun h4 hf hJ => l_X1_restart_33 g  lots h3 a0 0 h4 hf hJ)
  refine aw_aload_n 0 dX1_restart_52 rfl ?_
  refine aw_gR fl_RX1_18 dX1_restart_53 hf (fun x5 hf => ?_)
  refine aw_iconst (v := 0) dX1_restart_56 rfl ?_
  refine aw_iconst (v := 0) dX1_restart_57 rfl ?_
  refine aw_stI dX1_restart_58 hf (fun h6 hf => ?_)
  refine aw_aload_n 0 dX1_restart_59 rfl ?_
  refine aw_iconst (v := 1) dX1_restart_60 rfl ?_
  refine aw_pI fp_RX1_54 dX1_restart_61 hf (fun h7 hf => ?_)
  refine aw_aload_n 0 dX1_restart_64 rfl ?_
  refine aw_iconst (v := 0) dX1_restart_65 rfl ?_
  refine aw_pI fp_RX1_57 dX1_restart_66 hf (fun h8 hf => ?_)
  refine aw_aload_n 0 dX1_restart_69 rfl ?_
  refine aw_gR fl_RX1_30 dX1_restart_70 hf (fun x9 hf => ?_)
  refine aw_iconst (v := 0) dX1_restart_73 rfl ?_
  refine aw_pI fp_RX1_60 dX1_restart_74 hf (fun h10 hf => ?_)
  refine aw_aload_n 0 dX1_restart_77 rfl ?_
  refine aw_iconst (v := 0) dX1_restart_78 rfl ?_
  refine aw_pI fp_RX1_63 dX1_restart_79 hf (fun h11 hf => ?_)
  obtain rfl := so1 hf
  exact aw_vret dX1_restart_82 rfl rfl
set_option maxRecDepth 100000 in
set_option maxHeartbeats 4000000 in
theorem c_X1_init (g : Gx) (h : Hea) (a0 : Nat) (o : Hea) (hf : f_X1_init h a0 = some o) : MC g yX1_init cX1_init 1 none 2 14 150 [.ref a0] h (none, o) := by
  refine MC_of (own := RX1) (nm := "<init>") [(0, .ref a0)] rfl rfl pn_RX1 (Nat.le_of_ble_eq_true rfl) rfl ?_
  rw [f_X1_init] at hf
  refine aw_aload_n 0 dX1_init_0 rfl ?_
  refine aw_obj ko_RX1_3 dX1_init_1 (Nat.le_of_ble_eq_true rfl) (Nat.le_of_ble_eq_true rfl) ?_
  refine aw_aload_n 0 dX1_init_4 rfl ?_
  refine aw_bipush (v := 8) dX1_init_5 rfl ?_
  refine aw_newaB (atype := .int) (kd := 0) (N := 8) wa_0 (fun _ => rfl) (fun _ _ q => q) (fun _ => rfl) (by decide) (by decide) (Nat.le_of_ble_eq_true rfl) dX1_init_7 (Nat.le_of_ble_eq_true rfl) (Nat.le_of_ble_eq_true rfl) hf (fun q1 h2 hf => ?_)
  refine aw_pR fp_RX1_9 dX1_init_9 rfl rfl (fun _ => rfl) hf (fun h3 hf => ?_)
  refine aw_aload_n 0 dX1_init_12 rfl ?_
  refine aw_bipush (v := 64) dX1_init_13 rfl ?_
  refine aw_newaB (atype := .int) (kd := 0) (N := 64) wa_0 (fun _ => rfl) (fun _ _ q => q) (fun _ => rfl) (by decide) (by decide) (Nat.le_of_ble_eq_true rfl) dX1_init_15 (Nat.le_of_ble_eq_true rfl) (Nat.le_of_ble_eq_true rfl) hf (fun q4 h5 hf => ?_)
  refine aw_pR fp_RX1_15 dX1_init_17 rfl rfl (fun _ => rfl) hf (fun h6 hf => ?_)
  refine aw_aload_n 0 dX1_init_20 rfl ?_
  refine aw_bipush (v := 12) dX1_init_21 rfl ?_
  refine aw_newaB (atype := .int) (kd := 0) (N := 12) wa_0 (fun _ => rfl) (fun _ _ q => q) (fun _ => rfl) (by decide) (by decide) (Nat.le_of_ble_eq_true rfl) dX1_init_23 (Nat.le_of_ble_eq_true rfl) (Nat.le_of_ble_eq_true rfl) hf (fun q7 h8 hf => ?_)
  refine aw_pR fp_RX1_18 dX1_init_25 rfl rfl (fun _ => rfl) hf (fun h9 hf => ?_)
  refine aw_aload_n 0 dX1_init_28 rfl ?_
  refine aw_bipush (v := 6) dX1_init_29 rfl ?_
  refine aw_newaB (atype := .int) (kd := 0) (N := 6) wa_0 (fun _ => rfl) (fun _ _ q => q) (fun _ => rfl) (by decide) (by decide) (Nat.le_of_ble_eq_true rfl) dX1_init_31 (Nat.le_of_ble_eq_true rfl) (Nat.le_of_ble_eq_true rfl) hf (fun q10 h11 hf => ?_)
  refine aw_pR fp_RX1_21 dX1_init_33 rfl rfl (fun _ => rfl) hf (fun h12 hf => ?_)
  refine aw_aload_n 0 dX1_init_36 rfl ?_
  refine aw_bipush (v := 6) dX1_init_37 rfl ?_
  refine aw_newaB (atype := .int) (kd := 0) (N := 6) wa_0 (fun _ => rfl) (fun _ _ q => q) (fun _ => rfl) (by decide) (by decide) (Nat.le_of_ble_eq_true rfl) dX1_init_39 (Nat.le_of_ble_eq_true rfl) (Nat.le_of_ble_eq_true rfl) hf (fun q13 h14 hf => ?_)
  refine aw_pR fp_RX1_24 dX1_init_41 rfl rfl (fun _ => rfl) hf (fun h15 hf => ?_)
  refine aw_aload_n 0 dX1_init_44 rfl ?_
  refine aw_newB ck_3 kn_RX1_27 dv_3 dX1_init_45 (Nat.le_of_ble_eq_true rfl) (Nat.le_of_ble_eq_true rfl) hf (fun q16 h17 hf => ?_)
  refine aw_dup dX1_init_48 rfl ?_
  refine aw_cIN_v (st := [.ref q16, .ref a0]) [] wIN_RX1_29 wn_X3_init rfl (fun hr er => c_X3_init g h17 q16 hr er) dX1_init_49 rfl rfl (Nat.le_of_ble_eq_true rfl) (Nat.le_of_ble_eq_true rfl) (Nat.le_of_ble_eq_true rfl) (Nat.le_of_ble_eq_true rfl) hf (fun h18 hf => ?_)
  refine aw_pR fp_RX1_30 dX1_init_52 rfl rfl (fun _ => rfl) hf (fun h19 hf => ?_)
  refine aw_aload_n 0 dX1_init_55 rfl ?_
  refine aw_bipush (v := 6) dX1_init_56 rfl ?_
  refine aw_newaB (atype := .int) (kd := 0) (N := 6) wa_0 (fun _ => rfl) (fun _ _ q => q) (fun _ => rfl) (by decide) (by decide) (Nat.le_of_ble_eq_true rfl) dX1_init_58 (Nat.le_of_ble_eq_true rfl) (Nat.le_of_ble_eq_true rfl) hf (fun q20 h21 hf => ?_)
  refine aw_pR fp_RX1_34 dX1_init_60 rfl rfl (fun _ => rfl) hf (fun h22 hf => ?_)
  refine aw_aload_n 0 dX1_init_63 rfl ?_
  refine aw_bipush (v := 6) dX1_init_64 rfl ?_
  refine aw_newaB (atype := .int) (kd := 0) (N := 6) wa_0 (fun _ => rfl) (fun _ _ q => q) (fun _ => rfl) (by decide) (by decide) (Nat.le_of_ble_eq_true rfl) dX1_init_66 (Nat.le_of_ble_eq_true rfl) (Nat.le_of_ble_eq_true rfl) hf (fun q23 h24 hf => ?_)
  refine aw_pR fp_RX1_37 dX1_init_68 rfl rfl (fun _ => rfl) hf (fun h25 hf => ?_)
  refine aw_aload_n 0 dX1_init_71 rfl ?_
  refine aw_bipush (v := 6) dX1_init_72 rfl ?_
  refine aw_newaB (atype := .int) (kd := 0) (N := 6) wa_0 (fun _ => rfl) (fun _ _ q => q) (fun _ => rfl) (by decide) (by decide) (Nat.le_of_ble_eq_true rfl) dX1_init_74 (Nat.le_of_ble_eq_true rfl) (Nat.le_of_ble_eq_true rfl) hf (fun q26 h27 hf => ?_)
  refine aw_pR fp_RX1_40 dX1_init_76 rfl rfl (fun _ => rfl) hf (fun h28 hf => ?_)
  refine aw_aload_n 0 dX1_init_79 rfl ?_
  refine aw_bipush (v := 10) dX1_init_80 rfl ?_
  refine aw_iconst (v := 3) dX1_init_82 rfl ?_
  refine aw_cV_v (st := []) [.int 10, .int 3] wV_RX1_43 (ci := 1) rfl (fun hr er => c_X1_restart g h28 a0 10 3 hr er) dX1_init_83 rfl rfl (Nat.le_of_ble_eq_true rfl) (Nat.le_of_ble_eq_true rfl) (Nat.le_of_ble_eq_true rfl) (Nat.le_of_ble_eq_true rfl) hf (fun h29 hf => ?_)
  obtain rfl := so1 hf
  exact aw_vret dX1_init_86 rfl rfl
set_option maxRecDepth 100000 in
set_option maxHeartbeats 4000000 in
theorem c_X2_init (g : Gx) (h : Hea) (a0 : Nat) (o : Hea) (hf : f_X2_init h a0 = some o) : MC g yX2_init cX2_init 2 none 2 49 296 [.ref a0] h (none, o) := by
  refine MC_of (own := RX2) (nm := "<init>") [(0, .ref a0)] rfl rfl pn_RX2 (Nat.le_of_ble_eq_true rfl) rfl ?_
  rw [f_X2_init] at hf
  refine aw_aload_n 0 dX2_init_0 rfl ?_
  refine aw_obj ko_RX2_3 dX2_init_1 (Nat.le_of_ble_eq_true rfl) (Nat.le_of_ble_eq_true rfl) ?_
  refine aw_aload_n 0 dX2_init_4 rfl ?_
  refine aw_bipush (v := 8) dX2_init_5 rfl ?_
  refine aw_anewB (kd := 6) (N := 8) ka_RX2_9 ao_6 (fun _ => rfl) (by decide) (by decide) (Nat.le_of_ble_eq_true rfl) dX2_init_7 (Nat.le_of_ble_eq_true rfl) (Nat.le_of_ble_eq_true rfl) hf (fun q1 h2 hf => ?_)
  refine aw_pR fp_RX2_11 dX2_init_10 rfl rfl (fun _ => rfl) hf (fun h3 hf => ?_)
  refine aw_aload_n 0 dX2_init_13 rfl ?_
  refine aw_iconst (v := 0) dX2_init_14 rfl ?_
  refine aw_pI fp_RX2_17 dX2_init_15 hf (fun h4 hf => ?_)
  refine aw_iconst (v := 0) dX2_init_18 rfl ?_
  refine aw_istore_n [(1, .int 0), (0, .ref a0)] dX2_init_19 (Nat.le_of_ble_eq_true rfl) rfl ?_
  refine aw_iload_n 0 dX2_init_20 rfl ?_
  refine aw_bipush (v := 8) dX2_init_21 rfl ?_
  refine aw_icmp_ge (tgt := 45) dX2_init_23 rfl (fun hc => absurd hc (by decide)) (fun _ => ?_)
  refine aw_aload_n 1 dX2_init_26 rfl ?_
  refine aw_gR fl_RX2_11 dX2_init_27 hf (fun x5 hf => ?_)
  refine aw_iload_n 0 dX2_init_30 rfl ?_
  refine aw_newB ck_3 kn_RX2_9 dv_3 dX2_init_31 (Nat.le_of_ble_eq_true rfl) (Nat.le_of_ble_eq_true rfl) hf (fun q6 h7 hf => ?_)
  refine aw_dup dX2_init_34 rfl ?_
  refine aw_cIN_v (st := [.ref q6, .int 0, .ref x5]) [] wIN_RX2_21 wn_X3_init rfl (fun hr er => c_X3_init g h7 q6 hr er) dX2_init_35 rfl rfl (Nat.le_of_ble_eq_true rfl) (Nat.le_of_ble_eq_true rfl) (Nat.le_of_ble_eq_true rfl) (Nat.le_of_ble_eq_true rfl) hf (fun h8 hf => ?_)
  refine aw_stR (fun _ => rfl) rfl dX2_init_38 hf (fun h9 hf => ?_)
  refine aw_iinc 1 [(1, .int 1), (0, .ref a0)] 0 dX2_init_39 rfl rfl (Nat.le_of_ble_eq_true rfl) rfl ?_
  refine aw_goto (tgt := 20) dX2_init_42 rfl ?_
  refine aw_iload_n 0 dX2_init_20 rfl ?_
  refine aw_bipush (v := 8) dX2_init_21 rfl ?_
  refine aw_icmp_ge (tgt := 45) dX2_init_23 rfl (fun hc => absurd hc (by decide)) (fun _ => ?_)
  refine aw_aload_n 1 dX2_init_26 rfl ?_
  refine aw_gR fl_RX2_11 dX2_init_27 hf (fun x10 hf => ?_)
  refine aw_iload_n 0 dX2_init_30 rfl ?_
  refine aw_newB ck_3 kn_RX2_9 dv_3 dX2_init_31 (Nat.le_of_ble_eq_true rfl) (Nat.le_of_ble_eq_true rfl) hf (fun q11 h12 hf => ?_)
  refine aw_dup dX2_init_34 rfl ?_
  refine aw_cIN_v (st := [.ref q11, .int 1, .ref x10]) [] wIN_RX2_21 wn_X3_init rfl (fun hr er => c_X3_init g h12 q11 hr er) dX2_init_35 rfl rfl (Nat.le_of_ble_eq_true rfl) (Nat.le_of_ble_eq_true rfl) (Nat.le_of_ble_eq_true rfl) (Nat.le_of_ble_eq_true rfl) hf (fun h13 hf => ?_)
  refine aw_stR (fun _ => rfl) rfl dX2_init_38 hf (fun h14 hf => ?_)
  refine aw_iinc 2 [(1, .int 2), (0, .ref a0)] 0 dX2_init_39 rfl rfl (Nat.le_of_ble_eq_true rfl) rfl ?_
  refine aw_goto (tgt := 20) dX2_init_42 rfl ?_
  refine aw_iload_n 0 dX2_init_20 rfl ?_
  refine aw_bipush (v := 8) dX2_init_21 rfl ?_
  refine aw_icmp_ge (tgt := 45) dX2_init_23 rfl (fun hc => absurd hc (by decide)) (fun _ => ?_)
  refine aw_aload_n 1 dX2_init_26 rfl ?_
  refine aw_gR fl_RX2_11 dX2_init_27 hf (fun x15 hf => ?_)
  refine aw_iload_n 0 dX2_init_30 rfl ?_
  refine aw_newB ck_3 kn_RX2_9 dv_3 dX2_init_31 (Nat.le_of_ble_eq_true rfl) (Nat.le_of_ble_eq_true rfl) hf (fun q16 h17 hf => ?_)
  refine aw_dup dX2_init_34 rfl ?_
  refine aw_cIN_v (st := [.ref q16, .int 2, .ref x15]) [] wIN_RX2_21 wn_X3_init rfl (fun hr er => c_X3_init g h17 q16 hr er) dX2_init_35 rfl rfl (Nat.le_of_ble_eq_true rfl) (Nat.le_of_ble_eq_true rfl) (Nat.le_of_ble_eq_true rfl) (Nat.le_of_ble_eq_true rfl) hf (fun h18 hf => ?_)
  refine aw_stR (fun _ => rfl) rfl dX2_init_38 hf (fun h19 hf => ?_)
  refine aw_iinc 3 [(1, .int 3), (0, .ref a0)] 0 dX2_init_39 rfl rfl (Nat.le_of_ble_eq_true rfl) rfl ?_
  refine aw_goto (tgt := 20) dX2_init_42 rfl ?_
  refine aw_iload_n 0 dX2_init_20 rfl ?_
  refine aw_bipush (v := 8) dX2_init_21 rfl ?_
  refine aw_icmp_ge (tgt := 45) dX2_init_23 rfl (fun hc => absurd hc (by decide)) (fun _ => ?_)
  refine aw_aload_n 1 dX2_init_26 rfl ?_
  refine aw_gR fl_RX2_11 dX2_init_27 hf (fun x20 hf => ?_)
  refine aw_iload_n 0 dX2_init_30 rfl ?_
  refine aw_newB ck_3 kn_RX2_9 dv_3 dX2_init_31 (Nat.le_of_ble_eq_true rfl) (Nat.le_of_ble_eq_true rfl) hf (fun q21 h22 hf => ?_)
  refine aw_dup dX2_init_34 rfl ?_
  refine aw_cIN_v (st := [.ref q21, .int 3, .ref x20]) [] wIN_RX2_21 wn_X3_init rfl (fun hr er => c_X3_init g h22 q21 hr er) dX2_init_35 rfl rfl (Nat.le_of_ble_eq_true rfl) (Nat.le_of_ble_eq_true rfl) (Nat.le_of_ble_eq_true rfl) (Nat.le_of_ble_eq_true rfl) hf (fun h23 hf => ?_)
  refine aw_stR (fun _ => rfl) rfl dX2_init_38 hf (fun h24 hf => ?_)
  refine aw_iinc 4 [(1, .int 4), (0, .ref a0)] 0 dX2_init_39 rfl rfl (Nat.le_of_ble_eq_true rfl) rfl ?_
  refine aw_goto (tgt := 20) dX2_init_42 rfl ?_
  refine aw_iload_n 0 dX2_init_20 rfl ?_
  refine aw_bipush (v := 8) dX2_init_21 rfl ?_
  refine aw_icmp_ge (tgt := 45) dX2_init_23 rfl (fun hc => absurd hc (by decide)) (fun _ => ?_)
  refine aw_aload_n 1 dX2_init_26 rfl ?_
  refine aw_gR fl_RX2_11 dX2_init_27 hf (fun x25 hf => ?_)
  refine aw_iload_n 0 dX2_init_30 rfl ?_
  refine aw_newB ck_3 kn_RX2_9 dv_3 dX2_init_31 (Nat.le_of_ble_eq_true rfl) (Nat.le_of_ble_eq_true rfl) hf (fun q26 h27 hf => ?_)
  refine aw_dup dX2_init_34 rfl ?_
  refine aw_cIN_v (st := [.ref q26, .int 4, .ref x25]) [] wIN_RX2_21 wn_X3_init rfl (fun hr er => c_X3_init g h27 q26 hr er) dX2_init_35 rfl rfl (Nat.le_of_ble_eq_true rfl) (Nat.le_of_ble_eq_true rfl) (Nat.le_of_ble_eq_true rfl) (Nat.le_of_ble_eq_true rfl) hf (fun h28 hf => ?_)
  refine aw_stR (fun _ => rfl) rfl dX2_init_38 hf (fun h29 hf => ?_)
  refine aw_iinc 5 [(1, .int 5), (0, .ref a0)] 0 dX2_init_39 rfl rfl (Nat.le_of_ble_eq_true rfl) rfl ?_
  refine aw_goto (tgt := 20) dX2_init_42 rfl ?_
  refine aw_iload_n 0 dX2_init_20 rfl ?_
  refine aw_bipush (v := 8) dX2_init_21 rfl ?_
  refine aw_icmp_ge (tgt := 45) dX2_init_23 rfl (fun hc => absurd hc (by decide)) (fun _ => ?_)
  refine aw_aload_n 1 dX2_init_26 rfl ?_
  refine aw_gR fl_RX2_11 dX2_init_27 hf (fun x30 hf => ?_)
  refine aw_iload_n 0 dX2_init_30 rfl ?_
  refine aw_newB ck_3 kn_RX2_9 dv_3 dX2_init_31 (Nat.le_of_ble_eq_true rfl) (Nat.le_of_ble_eq_true rfl) hf (fun q31 h32 hf => ?_)
  refine aw_dup dX2_init_34 rfl ?_
  refine aw_cIN_v (st := [.ref q31, .int 5, .ref x30]) [] wIN_RX2_21 wn_X3_init rfl (fun hr er => c_X3_init g h32 q31 hr er) dX2_init_35 rfl rfl (Nat.le_of_ble_eq_true rfl) (Nat.le_of_ble_eq_true rfl) (Nat.le_of_ble_eq_true rfl) (Nat.le_of_ble_eq_true rfl) hf (fun h33 hf => ?_)
  refine aw_stR (fun _ => rfl) rfl dX2_init_38 hf (fun h34 hf => ?_)
  refine aw_iinc 6 [(1, .int 6), (0, .ref a0)] 0 dX2_init_39 rfl rfl (Nat.le_of_ble_eq_true rfl) rfl ?_
  refine aw_goto (tgt := 20) dX2_init_42 rfl ?_
  refine aw_iload_n 0 dX2_init_20 rfl ?_
  refine aw_bipush (v := 8) dX2_init_21 rfl ?_
  refine aw_icmp_ge (tgt := 45) dX2_init_23 rfl (fun hc => absurd hc (by decide)) (fun _ => ?_)
  refine aw_aload_n 1 dX2_init_26 rfl ?_
  refine aw_gR fl_RX2_11 dX2_init_27 hf (fun x35 hf => ?_)
  refine aw_iload_n 0 dX2_init_30 rfl ?_
  refine aw_newB ck_3 kn_RX2_9 dv_3 dX2_init_31 (Nat.le_of_ble_eq_true rfl) (Nat.le_of_ble_eq_true rfl) hf (fun q36 h37 hf => ?_)
  refine aw_dup dX2_init_34 rfl ?_
  refine aw_cIN_v (st := [.ref q36, .int 6, .ref x35]) [] wIN_RX2_21 wn_X3_init rfl (fun hr er => c_X3_init g h37 q36 hr er) dX2_init_35 rfl rfl (Nat.le_of_ble_eq_true rfl) (Nat.le_of_ble_eq_true rfl) (Nat.le_of_ble_eq_true rfl) (Nat.le_of_ble_eq_true rfl) hf (fun h38 hf => ?_)
  refine aw_stR (fun _ => rfl) rfl dX2_init_38 hf (fun h39 hf => ?_)
  refine aw_iinc 7 [(1, .int 7), (0, .ref a0)] 0 dX2_init_39 rfl rfl (Nat.le_of_ble_eq_true rfl) rfl ?_
  refine aw_goto (tgt := 20) dX2_init_42 rfl ?_
  refine aw_iload_n 0 dX2_init_20 rfl ?_
  refine aw_bipush (v := 8) dX2_init_21 rfl ?_
  refine aw_icmp_ge (tgt := 45) dX2_init_23 rfl (fun hc => absurd hc (by decide)) (fun _ => ?_)
  refine aw_aload_n 1 dX2_init_26 rfl ?_
  refine aw_gR fl_RX2_11 dX2_init_27 hf (fun x40 hf => ?_)
  refine aw_iload_n 0 dX2_init_30 rfl ?_
  refine aw_newB ck_3 kn_RX2_9 dv_3 dX2_init_31 (Nat.le_of_ble_eq_true rfl) (Nat.le_of_ble_eq_true rfl) hf (fun q41 h42 hf => ?_)
  refine aw_dup dX2_init_34 rfl ?_
  refine aw_cIN_v (st := [.ref q41, .int 7, .ref x40]) [] wIN_RX2_21 wn_X3_init rfl (fun hr er => c_X3_init g h42 q41 hr er) dX2_init_35 rfl rfl (Nat.le_of_ble_eq_true rfl) (Nat.le_of_ble_eq_true rfl) (Nat.le_of_ble_eq_true rfl) (Nat.le_of_ble_eq_true rfl) hf (fun h43 hf => ?_)
  refine aw_stR (fun _ => rfl) rfl dX2_init_38 hf (fun h44 hf => ?_)
  refine aw_iinc 8 [(1, .int 8), (0, .ref a0)] 0 dX2_init_39 rfl rfl (Nat.le_of_ble_eq_true rfl) rfl ?_
  refine aw_goto (tgt := 20) dX2_init_42 rfl ?_
  refine aw_iload_n 0 dX2_init_20 rfl ?_
  refine aw_bipush (v := 8) dX2_init_21 rfl ?_
  refine aw_icmp_ge (tgt := 45) dX2_init_23 rfl (fun _ => ?_) (fun hc => absurd hc (by decide))
  obtain rfl := so1 hf
  exact aw_vret dX2_init_45 rfl rfl
set_option maxRecDepth 100000 in
set_option maxHeartbeats 4000000 in
theorem c_X0_init (g : Gx) (h : Hea) (a0 : Nat) (o : Hea) (hf : f_X0_init h a0 = some o) : MC g yX0_init cX0_init 1 none 2 7 40 [.ref a0] h (none, o) := by
  refine MC_of (own := RX0) (nm := "<init>") [(0, .ref a0)] rfl rfl pn_RX0 (Nat.le_of_ble_eq_true rfl) rfl ?_
  rw [f_X0_init] at hf
  refine aw_aload_n 0 dX0_init_0 rfl ?_
  refine aw_obj ko_RX0_3 dX0_init_1 (Nat.le_of_ble_eq_true rfl) (Nat.le_of_ble_eq_true rfl) ?_
  refine aw_aload_n 0 dX0_init_4 rfl ?_
  refine aw_newB ck_3 kn_RX0_9 dv_3 dX0_init_5 (Nat.le_of_ble_eq_true rfl) (Nat.le_of_ble_eq_true rfl) hf (fun q1 h2 hf => ?_)
  refine aw_dup dX0_init_8 rfl ?_
  refine aw_cIN_v (st := [.ref q1, .ref a0]) [] wIN_RX0_11 wn_X3_init rfl (fun hr er => c_X3_init g h2 q1 hr er) dX0_init_9 rfl rfl (Nat.le_of_ble_eq_true rfl) (Nat.le_of_ble_eq_true rfl) (Nat.le_of_ble_eq_true rfl) (Nat.le_of_ble_eq_true rfl) hf (fun h3 hf => ?_)
  refine aw_pR fp_RX0_12 dX0_init_12 rfl rfl (fun _ => rfl) hf (fun h4 hf => ?_)
  refine aw_aload_n 0 dX0_init_15 rfl ?_
  refine aw_iconst (v := 4) dX0_init_16 rfl ?_
  refine aw_newaB (atype := .int) (kd := 0) (N := 4) wa_0 (fun _ => rfl) (fun _ _ q => q) (fun _ => rfl) (by decide) (by decide) (Nat.le_of_ble_eq_true rfl) dX0_init_17 (Nat.le_of_ble_eq_true rfl) (Nat.le_of_ble_eq_true rfl) hf (fun q5 h6 hf => ?_)
  refine aw_pR fp_RX0_18 dX0_init_19 rfl rfl (fun _ => rfl) hf (fun h7 hf => ?_)
  obtain rfl := so1 hf
  exact aw_vret dX0_init_22 rfl rfl
set_option maxRecDepth 100000 in
set_option maxHeartbeats 4000000 in
theorem c_X6_init (g : Gx) (h : Hea) (a0 : Nat) (o : Hea) (hf : f_X6_init h a0 = some o) : MC g yX6_init cX6_init 1 none 2 8 132 [.ref a0] h (none, o) := by
  refine MC_of (own := RX6) (nm := "<init>") [(0, .ref a0)] rfl rfl pn_RX6 (Nat.le_of_ble_eq_true rfl) rfl ?_
  rw [f_X6_init] at hf
  refine aw_aload_n 0 dX6_init_0 rfl ?_
  refine aw_obj ko_RX6_5 dX6_init_1 (Nat.le_of_ble_eq_true rfl) (Nat.le_of_ble_eq_true rfl) ?_
  refine aw_aload_n 0 dX6_init_4 rfl ?_
  refine aw_newB ck_3 kn_RX6_11 dv_3 dX6_init_5 (Nat.le_of_ble_eq_true rfl) (Nat.le_of_ble_eq_true rfl) hf (fun q1 h2 hf => ?_)
  refine aw_dup dX6_init_8 rfl ?_
  refine aw_cIN_v (st := [.ref q1, .ref a0]) [] wIN_RX6_13 wn_X3_init rfl (fun hr er => c_X3_init g h2 q1 hr er) dX6_init_9 rfl rfl (Nat.le_of_ble_eq_true rfl) (Nat.le_of_ble_eq_true rfl) (Nat.le_of_ble_eq_true rfl) (Nat.le_of_ble_eq_true rfl) hf (fun h3 hf => ?_)
  refine aw_pR fp_RX6_14 dX6_init_12 rfl rfl (fun _ => rfl) hf (fun h4 hf => ?_)
  refine aw_aload_n 0 dX6_init_15 rfl ?_
  refine aw_bipush (v := 48) dX6_init_16 rfl ?_
  refine aw_newaB (atype := .int) (kd := 0) (N := 48) wa_0 (fun _ => rfl) (fun _ _ q => q) (fun _ => rfl) (by decide) (by decide) (Nat.le_of_ble_eq_true rfl) dX6_init_18 (Nat.le_of_ble_eq_true rfl) (Nat.le_of_ble_eq_true rfl) hf (fun q5 h6 hf => ?_)
  refine aw_pR fp_RX6_18 dX6_init_20 rfl rfl (fun _ => rfl) hf (fun h7 hf => ?_)
  refine aw_aload_n 0 dX6_init_23 rfl ?_
  refine aw_bipush (v := 48) dX6_init_24 rfl ?_
  refine aw_newaB (atype := .int) (kd := 0) (N := 48) wa_0 (fun _ => rfl) (fun _ _ q => q) (fun _ => rfl) (by decide) (by decide) (Nat.le_of_ble_eq_true rfl) dX6_init_26 (Nat.le_of_ble_eq_true rfl) (Nat.le_of_ble_eq_true rfl) hf (fun q8 h9 hf => ?_)
  refine aw_pR fp_RX6_22 dX6_init_28 rfl rfl (fun _ => rfl) hf (fun h10 hf => ?_)
  obtain rfl := so1 hf
  exact aw_vret dX6_init_31 rfl rfl
set_option maxRecDepth 100000 in
set_option maxHeartbeats 4000000 in
theorem c_X5_init (g : Gx) (h : Hea) (a0 : Nat) (o : Hea) (hf : f_X5_init h a0 = some o) : MC g yX5_init cX5_init 1 none 1 4 32 [.ref a0] h (none, o) := by
  refine MC_of (own := RX5) (nm := "<init>") [(0, .ref a0)] rfl rfl pn_RX5 (Nat.le_of_ble_eq_true rfl) rfl ?_
  rw [f_X5_init] at hf
  refine aw_aload_n 0 dX5_init_0 rfl ?_
  refine aw_obj ko_RX5_3 dX5_init_1 (Nat.le_of_ble_eq_true rfl) (Nat.le_of_ble_eq_true rfl) ?_
  refine aw_aload_n 0 dX5_init_4 rfl ?_
  refine aw_bipush (v := 8) dX5_init_5 rfl ?_
  refine aw_newaB (atype := .long) (kd := 3) (N := 8) wa_3 (fun _ => rfl) (fun _ _ q => q) (fun _ => rfl) (by decide) (by decide) (Nat.le_of_ble_eq_true rfl) dX5_init_7 (Nat.le_of_ble_eq_true rfl) (Nat.le_of_ble_eq_true rfl) hf (fun q1 h2 hf => ?_)
  refine aw_pR fp_RX5_9 dX5_init_9 rfl rfl (fun _ => rfl) hf (fun h3 hf => ?_)
  refine aw_aload_n 0 dX5_init_12 rfl ?_
  refine aw_bipush (v := 8) dX5_init_13 rfl ?_
  refine aw_newaB (atype := .long) (kd := 3) (N := 8) wa_3 (fun _ => rfl) (fun _ _ q => q) (fun _ => rfl) (by decide) (by decide) (Nat.le_of_ble_eq_true rfl) dX5_init_15 (Nat.le_of_ble_eq_true rfl) (Nat.le_of_ble_eq_true rfl) hf (fun q4 h5 hf => ?_)
  refine aw_pR fp_RX5_15 dX5_init_17 rfl rfl (fun _ => rfl) hf (fun h6 hf => ?_)
  refine aw_aload_n 0 dX5_init_20 rfl ?_
  refine aw_bipush (v := 8) dX5_init_21 rfl ?_
  refine aw_newaB (atype := .long) (kd := 3) (N := 8) wa_3 (fun _ => rfl) (fun _ _ q => q) (fun _ => rfl) (by decide) (by decide) (Nat.le_of_ble_eq_true rfl) dX5_init_23 (Nat.le_of_ble_eq_true rfl) (Nat.le_of_ble_eq_true rfl) hf (fun q7 h8 hf => ?_)
  refine aw_pR fp_RX5_18 dX5_init_25 rfl rfl (fun _ => rfl) hf (fun h9 hf => ?_)
  refine aw_aload_n 0 dX5_init_28 rfl ?_
  refine aw_bipush (v := 8) dX5_init_29 rfl ?_
  refine aw_newaB (atype := .long) (kd := 3) (N := 8) wa_3 (fun _ => rfl) (fun _ _ q => q) (fun _ => rfl) (by decide) (by decide) (Nat.le_of_ble_eq_true rfl) dX5_init_31 (Nat.le_of_ble_eq_true rfl) (Nat.le_of_ble_eq_true rfl) hf (fun q10 h11 hf => ?_)
  refine aw_pR fp_RX5_21 dX5_init_33 rfl rfl (fun _ => rfl) hf (fun h12 hf => ?_)
  obtain rfl := so1 hf
  exact aw_vret dX5_init_36 rfl rfl
set_option maxRecDepth 100000 in
set_option maxHeartbeats 4000000 in
theorem c_X4_init (g : Gx) (h : Hea) (a0 : Nat) (o : Hea) (hf : f_X4_init h a0 = some o) : MC g yX4_init cX4_init 1 none 1 1 0 [.ref a0] h (none, o) := by
  refine MC_of (own := RX4) (nm := "<init>") [(0, .ref a0)] rfl rfl pn_RX4 (Nat.le_of_ble_eq_true rfl) rfl ?_
  rw [f_X4_init] at hf
  refine aw_aload_n 0 dX4_init_0 rfl ?_
  refine aw_obj ko_RX4_3 dX4_init_1 (Nat.le_of_ble_eq_true rfl) (Nat.le_of_ble_eq_true rfl) ?_
  refine aw_aload_n 0 dX4_init_4 rfl ?_
  refine aw_iconst (v := 0) dX4_init_5 rfl ?_
  refine aw_newaB (atype := .byte) (kd := 1) (N := 0) wa_1 (fun _ => rfl) (fun _ _ q => q) (fun _ => rfl) (by decide) (by decide) (Nat.le_of_ble_eq_true rfl) dX4_init_6 (Nat.le_of_ble_eq_true rfl) (Nat.le_of_ble_eq_true rfl) hf (fun q1 h2 hf => ?_)
  refine aw_pR fp_RX4_9 dX4_init_8 rfl rfl (fun q => by cases q) hf (fun h3 hf => ?_)
  refine aw_aload_n 0 dX4_init_11 rfl ?_
  refine aw_iconst (v := 0) dX4_init_12 rfl ?_
  refine aw_pI fp_RX4_15 dX4_init_13 hf (fun h4 hf => ?_)
  refine aw_aload_n 0 dX4_init_16 rfl ?_
  refine aw_iconst (v := 0) dX4_init_17 rfl ?_
  refine aw_pI fp_RX4_19 dX4_init_18 hf (fun h5 hf => ?_)
  refine aw_aload_n 0 dX4_init_21 rfl ?_
  refine aw_iconst (v := 0) dX4_init_22 rfl ?_
  refine aw_pI fp_RX4_22 dX4_init_23 hf (fun h6 hf => ?_)
  refine aw_aload_n 0 dX4_init_26 rfl ?_
  refine aw_iconst (v := 0) dX4_init_27 rfl ?_
  refine aw_pI fp_RX4_25 dX4_init_28 hf (fun h7 hf => ?_)
  refine aw_aload_n 0 dX4_init_31 rfl ?_
  refine aw_iconst (v := 0) dX4_init_32 rfl ?_
  refine aw_pI fp_RX4_28 dX4_init_33 hf (fun h8 hf => ?_)
  refine aw_aload_n 0 dX4_init_36 rfl ?_
  refine aw_iconst (v := (-1)) dX4_init_37 rfl ?_
  refine aw_pI fp_RX4_31 dX4_init_38 hf (fun h9 hf => ?_)
  refine aw_aload_n 0 dX4_init_41 rfl ?_
  refine aw_iconst (v := 0) dX4_init_42 rfl ?_
  refine aw_pI fp_RX4_34 dX4_init_43 hf (fun h10 hf => ?_)
  obtain rfl := so1 hf
  exact aw_vret dX4_init_46 rfl rfl
set_option maxRecDepth 100000 in
set_option maxHeartbeats 4000000 in
theorem c_X7_init (g : Gx) (h : Hea) (a0 : Nat) (o : Hea) (hf : f_X7_init h a0 = some o) : MC g yX7_init cX7_init 2 none 3 238 1929 [.ref a0] h (none, o) := by
  refine MC_of (own := RX7) (nm := "<init>") [(0, .ref a0)] rfl rfl pn_RX7 (Nat.le_of_ble_eq_true rfl) rfl ?_
  rw [f_X7_init] at hf
  refine aw_aload_n 0 dX7_init_0 rfl ?_
  refine aw_obj ko_RX7_1 dX7_init_1 (Nat.le_of_ble_eq_true rfl) (Nat.le_of_ble_eq_true rfl) ?_
  refine aw_aload_n 0 dX7_init_4 rfl ?_
  refine aw_newB ck_1 kn_RX7_7 dv_1 dX7_init_5 (Nat.le_of_ble_eq_true rfl) (Nat.le_of_ble_eq_true rfl) hf (fun q1 h2 hf => ?_)
  refine aw_dup dX7_init_8 rfl ?_
  refine aw_cI_v (st := [.ref q1, .ref a0]) [] wI_RX7_9 (fun hr er => c_X1_init g h2 q1 hr er) dX7_init_9 rfl rfl (Nat.le_of_ble_eq_true rfl) (Nat.le_of_ble_eq_true rfl) (Nat.le_of_ble_eq_true rfl) (Nat.le_of_ble_eq_true rfl) hf (fun h3 hf => ?_)
  refine aw_pR fp_RX7_10 dX7_init_12 rfl rfl (fun _ => rfl) hf (fun h4 hf => ?_)
  refine aw_aload_n 0 dX7_init_15 rfl ?_
  refine aw_newB ck_2 kn_RX7_16 dv_2 dX7_init_16 (Nat.le_of_ble_eq_true rfl) (Nat.le_of_ble_eq_true rfl) hf (fun q5 h6 hf => ?_)
  refine aw_dup dX7_init_19 rfl ?_
  refine aw_cI_v (st := [.ref q5, .ref a0]) [] wI_RX7_18 (fun hr er => c_X2_init g h6 q5 hr er) dX7_init_20 rfl rfl (Nat.le_of_ble_eq_true rfl) (Nat.le_of_ble_eq_true rfl) (Nat.le_of_ble_eq_true rfl) (Nat.le_of_ble_eq_true rfl) hf (fun h7 hf => ?_)
  refine aw_pR fp_RX7_19 dX7_init_23 rfl rfl (fun _ => rfl) hf (fun h8 hf => ?_)
  refine aw_aload_n 0 dX7_init_26 rfl ?_
  refine aw_newB ck_1 kn_RX7_7 dv_1 dX7_init_27 (Nat.le_of_ble_eq_true rfl) (Nat.le_of_ble_eq_true rfl) hf (fun q9 h10 hf => ?_)
  refine aw_dup dX7_init_30 rfl ?_
  refine aw_cI_v (st := [.ref q9, .ref a0]) [] wI_RX7_9 (fun hr er => c_X1_init g h10 q9 hr er) dX7_init_31 rfl rfl (Nat.le_of_ble_eq_true rfl) (Nat.le_of_ble_eq_true rfl) (Nat.le_of_ble_eq_true rfl) (Nat.le_of_ble_eq_true rfl) hf (fun h11 hf => ?_)
  refine aw_pR fp_RX7_23 dX7_init_34 rfl rfl (fun _ => rfl) hf (fun h12 hf => ?_)
  refine aw_aload_n 0 dX7_init_37 rfl ?_
  refine aw_iconst (v := 2) dX7_init_38 rfl ?_
  refine aw_anewB (kd := 4) (N := 2) ka_RX7_7 ao_4 (fun _ => rfl) (by decide) (by decide) (Nat.le_of_ble_eq_true rfl) dX7_init_39 (Nat.le_of_ble_eq_true rfl) (Nat.le_of_ble_eq_true rfl) hf (fun q13 h14 hf => ?_)
  refine aw_pR fp_RX7_26 dX7_init_42 rfl rfl (fun _ => rfl) hf (fun h15 hf => ?_)
  refine aw_aload_n 0 dX7_init_45 rfl ?_
  refine aw_iconst (v := 2) dX7_init_46 rfl ?_
  refine aw_anewB (kd := 5) (N := 2) ka_RX7_16 ao_5 (fun _ => rfl) (by decide) (by decide) (Nat.le_of_ble_eq_true rfl) dX7_init_47 (Nat.le_of_ble_eq_true rfl) (Nat.le_of_ble_eq_true rfl) hf (fun q16 h17 hf => ?_)
  refine aw_pR fp_RX7_30 dX7_init_50 rfl rfl (fun _ => rfl) hf (fun h18 hf => ?_)
  refine aw_aload_n 0 dX7_init_53 rfl ?_
  refine aw_iconst (v := 2) dX7_init_54 rfl ?_
  refine aw_newaB (atype := .boolean) (kd := 2) (N := 2) wa_2 (fun _ => rfl) (fun _ _ q => q) (fun _ => rfl) (by decide) (by decide) (Nat.le_of_ble_eq_true rfl) dX7_init_55 (Nat.le_of_ble_eq_true rfl) (Nat.le_of_ble_eq_true rfl) hf (fun q19 h20 hf => ?_)
  refine aw_pR fp_RX7_34 dX7_init_57 rfl rfl (fun _ => rfl) hf (fun h21 hf => ?_)
  refine aw_aload_n 0 dX7_init_60 rfl ?_
  refine aw_newB ck_0 kn_RX7_38 dv_0 dX7_init_61 (Nat.le_of_ble_eq_true rfl) (Nat.le_of_ble_eq_true rfl) hf (fun q22 h23 hf => ?_)
  refine aw_dup dX7_init_64 rfl ?_
  refine aw_cIN_v (st := [.ref q22, .ref a0]) [] wIN_RX7_40 wn_X0_init rfl (fun hr er => c_X0_init g h23 q22 hr er) dX7_init_65 rfl rfl (Nat.le_of_ble_eq_true rfl) (Nat.le_of_ble_eq_true rfl) (Nat.le_of_ble_eq_true rfl) (Nat.le_of_ble_eq_true rfl) hf (fun h24 hf => ?_)
  refine aw_pR fp_RX7_41 dX7_init_68 rfl rfl (fun _ => rfl) hf (fun h25 hf => ?_)
  refine aw_aload_n 0 dX7_init_71 rfl ?_
  refine aw_newB ck_6 kn_RX7_45 dv_6 dX7_init_72 (Nat.le_of_ble_eq_true rfl) (Nat.le_of_ble_eq_true rfl) hf (fun q26 h27 hf => ?_)
  refine aw_dup dX7_init_75 rfl ?_
  refine aw_cIN_v (st := [.ref q26, .ref a0]) [] wIN_RX7_47 wn_X6_init rfl (fun hr er => c_X6_init g h27 q26 hr er) dX7_init_76 rfl rfl (Nat.le_of_ble_eq_true rfl) (Nat.le_of_ble_eq_true rfl) (Nat.le_of_ble_eq_true rfl) (Nat.le_of_ble_eq_true rfl) hf (fun h28 hf => ?_)
  refine aw_pR fp_RX7_48 dX7_init_79 rfl rfl (fun _ => rfl) hf (fun h29 hf => ?_)
  refine aw_aload_n 0 dX7_init_82 rfl ?_
  refine aw_newB ck_5 kn_RX7_52 dv_5 dX7_init_83 (Nat.le_of_ble_eq_true rfl) (Nat.le_of_ble_eq_true rfl) hf (fun q30 h31 hf => ?_)
  refine aw_dup dX7_init_86 rfl ?_
  refine aw_cIN_v (st := [.ref q30, .ref a0]) [] wIN_RX7_54 wn_X5_init rfl (fun hr er => c_X5_init g h31 q30 hr er) dX7_init_87 rfl rfl (Nat.le_of_ble_eq_true rfl) (Nat.le_of_ble_eq_true rfl) (Nat.le_of_ble_eq_true rfl) (Nat.le_of_ble_eq_true rfl) hf (fun h32 hf => ?_)
  refine aw_pR fp_RX7_55 dX7_init_90 rfl rfl (fun _ => rfl) hf (fun h33 hf => ?_)
  refine aw_aload_n 0 dX7_init_93 rfl ?_
  refine aw_newB ck_4 kn_RX7_59 dv_4 dX7_init_94 (Nat.le_of_ble_eq_true rfl) (Nat.le_of_ble_eq_true rfl) hf (fun q34 h35 hf => ?_)
  refine aw_dup dX7_init_97 rfl ?_
  refine aw_cIN_v (st := [.ref q34, .ref a0]) [] wIN_RX7_61 wn_X4_init rfl (fun hr er => c_X4_init g h35 q34 hr er) dX7_init_98 rfl rfl (Nat.le_of_ble_eq_true rfl) (Nat.le_of_ble_eq_true rfl) (Nat.le_of_ble_eq_true rfl) (Nat.le_of_ble_eq_true rfl) hf (fun h36 hf => ?_)
  refine aw_pR fp_RX7_62 dX7_init_101 rfl rfl (fun _ => rfl) hf (fun h37 hf => ?_)
  refine aw_aload_n 0 dX7_init_104 rfl ?_
  refine aw_sipush (v := 150) dX7_init_105 rfl ?_
  refine aw_newaB (atype := .byte) (kd := 1) (N := 150) wa_1 (fun _ => rfl) (fun _ _ q => q) (fun _ => rfl) (by decide) (by decide) (Nat.le_of_ble_eq_true rfl) dX7_init_108 (Nat.le_of_ble_eq_true rfl) (Nat.le_of_ble_eq_true rfl) hf (fun q38 h39 hf => ?_)
  refine aw_pR fp_RX7_66 dX7_init_110 rfl rfl (fun _ => rfl) hf (fun h40 hf => ?_)
  refine aw_aload_n 0 dX7_init_113 rfl ?_
  refine aw_iconst (v := 0) dX7_init_114 rfl ?_
  refine aw_pI fp_RX7_70 dX7_init_115 hf (fun h41 hf => ?_)
  refine aw_aload_n 0 dX7_init_118 rfl ?_
  refine aw_lconst (v := 0) dX7_init_119 rfl ?_
  refine aw_pJ fp_RX7_74 dX7_init_120 hf (fun h42 hf => ?_)
  refine aw_aload_n 0 dX7_init_123 rfl ?_
  refine aw_lconst (v := 1) dX7_init_124 rfl ?_
  refine aw_pJ fp_RX7_78 dX7_init_125 hf (fun h43 hf => ?_)
  refine aw_aload_n 0 dX7_init_128 rfl ?_
  refine aw_iconst (v := 0) dX7_init_129 rfl ?_
  refine aw_pI fp_RX7_81 dX7_init_130 hf (fun h44 hf => ?_)
  refine aw_aload_n 0 dX7_init_133 rfl ?_
  refine aw_iconst (v := 0) dX7_init_134 rfl ?_
  refine aw_pI fp_RX7_84 dX7_init_135 hf (fun h45 hf => ?_)
  refine aw_aload_n 0 dX7_init_138 rfl ?_
  refine aw_iconst (v := 0) dX7_init_139 rfl ?_
  refine aw_pI fp_RX7_87 dX7_init_140 hf (fun h46 hf => ?_)
  refine aw_iconst (v := 0) dX7_init_143 rfl ?_
  refine aw_istore_n [(1, .int 0), (0, .ref a0)] dX7_init_144 (Nat.le_of_ble_eq_true rfl) rfl ?_
  refine aw_iload_n 0 dX7_init_145 rfl ?_
  refine aw_iconst (v := 2) dX7_init_146 rfl ?_
  refine aw_icmp_ge (tgt := 182) dX7_init_147 rfl (fun hc => absurd hc (by decide)) (fun _ => ?_)
  refine aw_aload_n 1 dX7_init_150 rfl ?_
  refine aw_gR fl_RX7_26 dX7_init_151 hf (fun x47 hf => ?_)
  refine aw_iload_n 0 dX7_init_154 rfl ?_
  refine aw_newB ck_1 kn_RX7_7 dv_1 dX7_init_155 (Nat.le_of_ble_eq_true rfl) (Nat.le_of_ble_eq_true rfl) hf (fun q48 h49 hf => ?_)
  refine aw_dup dX7_init_158 rfl ?_
  refine aw_cI_v (st := [.ref q48, .int 0, .ref x47]) [] wI_RX7_9 (fun hr er => c_X1_init g h49 q48 hr er) dX7_init_159 rfl rfl (Nat.le_of_ble_eq_true rfl) (Nat.le_of_ble_eq_true rfl) (Nat.le_of_ble_eq_true rfl) (Nat.le_of_ble_eq_true rfl) hf (fun h50 hf => ?_)
  refine aw_stR (fun _ => rfl) rfl dX7_init_162 hf (fun h51 hf => ?_)
  refine aw_aload_n 1 dX7_init_163 rfl ?_
  refine aw_gR fl_RX7_30 dX7_init_164 hf (fun x52 hf => ?_)
  refine aw_iload_n 0 dX7_init_167 rfl ?_
  refine aw_newB ck_2 kn_RX7_16 dv_2 dX7_init_168 (Nat.le_of_ble_eq_true rfl) (Nat.le_of_ble_eq_true rfl) hf (fun q53 h54 hf => ?_)
  refine aw_dup dX7_init_171 rfl ?_
  refine aw_cI_v (st := [.ref q53, .int 0, .ref x52]) [] wI_RX7_18 (fun hr er => c_X2_init g h54 q53 hr er) dX7_init_172 rfl rfl (Nat.le_of_ble_eq_true rfl) (Nat.le_of_ble_eq_true rfl) (Nat.le_of_ble_eq_true rfl) (Nat.le_of_ble_eq_true rfl) hf (fun h55 hf => ?_)
  refine aw_stR (fun _ => rfl) rfl dX7_init_175 hf (fun h56 hf => ?_)
  refine aw_iinc 1 [(1, .int 1), (0, .ref a0)] 0 dX7_init_176 rfl rfl (Nat.le_of_ble_eq_true rfl) rfl ?_
  refine aw_goto (tgt := 145) dX7_init_179 rfl ?_
  refine aw_iload_n 0 dX7_init_145 rfl ?_
  refine aw_iconst (v := 2) dX7_init_146 rfl ?_
  refine aw_icmp_ge (tgt := 182) dX7_init_147 rfl (fun hc => absurd hc (by decide)) (fun _ => ?_)
  refine aw_aload_n 1 dX7_init_150 rfl ?_
  refine aw_gR fl_RX7_26 dX7_init_151 hf (fun x57 hf => ?_)
  refine aw_iload_n 0 dX7_init_154 rfl ?_
  refine aw_newB ck_1 kn_RX7_7 dv_1 dX7_init_155 (Nat.le_of_ble_eq_true rfl) (Nat.le_of_ble_eq_true rfl) hf (fun q58 h59 hf => ?_)
  refine aw_dup dX7_init_158 rfl ?_
  refine aw_cI_v (st := [.ref q58, .int 1, .ref x57]) [] wI_RX7_9 (fun hr er => c_X1_init g h59 q58 hr er) dX7_init_159 rfl rfl (Nat.le_of_ble_eq_true rfl) (Nat.le_of_ble_eq_true rfl) (Nat.le_of_ble_eq_true rfl) (Nat.le_of_ble_eq_true rfl) hf (fun h60 hf => ?_)
  refine aw_stR (fun _ => rfl) rfl dX7_init_162 hf (fun h61 hf => ?_)
  refine aw_aload_n 1 dX7_init_163 rfl ?_
  refine aw_gR fl_RX7_30 dX7_init_164 hf (fun x62 hf => ?_)
  refine aw_iload_n 0 dX7_init_167 rfl ?_
  refine aw_newB ck_2 kn_RX7_16 dv_2 dX7_init_168 (Nat.le_of_ble_eq_true rfl) (Nat.le_of_ble_eq_true rfl) hf (fun q63 h64 hf => ?_)
  refine aw_dup dX7_init_171 rfl ?_
  refine aw_cI_v (st := [.ref q63, .int 1, .ref x62]) [] wI_RX7_18 (fun hr er => c_X2_init g h64 q63 hr er) dX7_init_172 rfl rfl (Nat.le_of_ble_eq_true rfl) (Nat.le_of_ble_eq_true rfl) (Nat.le_of_ble_eq_true rfl) (Nat.le_of_ble_eq_true rfl) hf (fun h65 hf => ?_)
  refine aw_stR (fun _ => rfl) rfl dX7_init_175 hf (fun h66 hf => ?_)
  refine aw_iinc 2 [(1, .int 2), (0, .ref a0)] 0 dX7_init_176 rfl rfl (Nat.le_of_ble_eq_true rfl) rfl ?_
  refine aw_goto (tgt := 145) dX7_init_179 rfl ?_
  refine aw_iload_n 0 dX7_init_145 rfl ?_
  refine aw_iconst (v := 2) dX7_init_146 rfl ?_
  refine aw_icmp_ge (tgt := 182) dX7_init_147 rfl (fun _ => ?_) (fun hc => absurd hc (by decide))
  obtain rfl := so1 hf
  exact aw_vret dX7_init_182 rfl rfl
set_option maxRecDepth 100000 in
set_option maxHeartbeats 4000000 in
theorem c_X7_within (g : Gx) (h : Hea) (a0 : Int32) (a1 : Int32) (a2 : Int32) (o : Int32) (hf : f_X7_within a0 a1 a2 = some o) : MC g yX7_within cX7_within 3 (some .boolean) 0 0 0 [.int a0, .int a1, .int a2] h (some (.int o), h) := by
  refine MC_of (own := RX7) (nm := "within") [(0, .int a0), (1, .int a1), (2, .int a2)] rfl rfl pn_RX7 (Nat.le_of_ble_eq_true rfl) rfl ?_
  rw [f_X7_within] at hf
  refine aw_iload_n 0 dX7_within_0 rfl ?_
  refine aw_iload_n 1 dX7_within_1 rfl ?_
  refine reg1 (fun (v1 : Int32) => AW g RX7 cX7_within (3, some .boolean, "within", 0, 0, 0) (some (.int o), h) 15 [] [.int v1] h 0 0) hf (fun v1 hf => ?_) (fun v1 hf hJ15 => ?_)
  · exact aw_zretb dX7_within_15 rfl hf rfl
  · refine aw_icmp_lt (tgt := 14) dX7_within_2 rfl (fun hc => ?_) (fun hc => ?_)
    · have hf := itp0 hc hf
      refine aw_iconst (v := 0) dX7_within_14 rfl ?_
      obtain rfl := so1 hf
      exact aw_pick [] rfl hJ15
    · have hf := itn0 hc hf
      refine aw_iload_n 0 dX7_within_5 rfl ?_
      refine aw_iload_n 2 dX7_within_6 rfl ?_
      refine aw_icmp_gt (tgt := 14) dX7_within_7 rfl (fun hc => ?_) (fun hc => ?_)
      · have hf := itp0 hc hf
        refine aw_iconst (v := 0) dX7_within_14 rfl ?_
        obtain rfl := so1 hf
        exact aw_pick [] rfl hJ15
      · have hf := itn0 hc hf
        refine aw_iconst (v := 1) dX7_within_10 rfl ?_
        refine aw_goto (tgt := 15) dX7_within_11 rfl ?_
        obtain rfl := so1 hf
        exact aw_pick [] rfl hJ15
set_option maxRecDepth 100000 in
set_option maxHeartbeats 4000000 in
theorem c_X7_refuseBad (g : Gx) (h : Hea) (a0 : Nat) (o : Int32) (hz : Hea) (hf : f_X7_refuseBad h a0 = some (o, hz)) : MC g yX7_refuseBad cX7_refuseBad 1 (some .int) 0 0 0 [.ref a0] h (some (.int o), hz) := by
  refine MC_of (own := RX7) (nm := "refuseBad") [(0, .ref a0)] rfl rfl pn_RX7 (Nat.le_of_ble_eq_true rfl) rfl ?_
  rw [f_X7_refuseBad] at hf
  refine aw_aload_n 0 dX7_refuseBad_0 rfl ?_
  refine aw_dup dX7_refuseBad_1 rfl ?_
  refine aw_gI fl_RX7_81 dX7_refuseBad_2 hf (fun x1 hf => ?_)
  refine aw_iconst (v := 1) dX7_refuseBad_5 rfl ?_
  refine aw_iadd dX7_refuseBad_6 ?_
  refine aw_pI fp_RX7_81 dX7_refuseBad_7 hf (fun h2 hf => ?_)
  refine aw_bipush (v := (-2)) dX7_refuseBad_10 rfl ?_
  obtain ⟨rfl, rfl⟩ := so2 hf
  exact aw_iret dX7_refuseBad_12 rfl rfl
set_option maxRecDepth 100000 in
set_option maxHeartbeats 4000000 in
theorem c_X7_house (g : Gx) (h : Hea) (a0 : Nat) (a1 : Int32) (a2 : Int32) (o : Int32) (hz : Hea) (hf : f_X7_house h a0 a1 a2 = some (o, hz)) : MC g yX7_house cX7_house 4 (some .int) 1 0 0 [.ref a0, .int a1, .int a2] h (some (.int o), hz) := by
  refine MC_of (own := RX7) (nm := "house") [(0, .ref a0), (1, .int a1), (2, .int a2)] rfl rfl pn_RX7 (Nat.le_of_ble_eq_true rfl) rfl ?_
  rw [f_X7_house] at hf
  refine aw_iload_n 1 dX7_house_0 rfl ?_
  refine aw_iconst (v := 0) dX7_house_1 rfl ?_
  refine aw_bipush (v := 25) dX7_house_2 rfl ?_
  refine aw_cS_i (st := []) [.int a1, .int 0, .int 25] wS_RX7_90 (fun xr er => c_X7_within g h a1 0 25 xr er) dX7_house_4 rfl rfl (Nat.le_of_ble_eq_true rfl) (Nat.le_of_ble_eq_true rfl) (Nat.le_of_ble_eq_true rfl) (Nat.le_of_ble_eq_true rfl) hf (fun x1 hf => ?_)
  refine aw_if_eq (tgt := 20) dX7_house_7 rfl (fun hc => ?_) (fun hc => ?_)
  · have hf := itp0 hc hf
    refine aw_aload_n 0 dX7_house_20 rfl ?_
    refine aw_cV_wi (st := []) [] wV_RX7_94 (ci := 7) rfl (fun xr hr er => c_X7_refuseBad g h a0 xr hr er) dX7_house_21 rfl rfl (Nat.le_of_ble_eq_true rfl) (Nat.le_of_ble_eq_true rfl) (Nat.le_of_ble_eq_true rfl) (Nat.le_of_ble_eq_true rfl) hf (fun x2 h3 hf => ?_)
    obtain ⟨rfl, rfl⟩ := so2 hf
    exact aw_iret dX7_house_24 rfl rfl
  · have hf := itn0 hc hf
    refine aw_iload_n 2 dX7_house_10 rfl ?_
    refine aw_iconst (v := 0) dX7_house_11 rfl ?_
    refine aw_bipush (v := 25) dX7_house_12 rfl ?_
    refine aw_cS_i (st := []) [.int a2, .int 0, .int 25] wS_RX7_90 (fun xr er => c_X7_within g h a2 0 25 xr er) dX7_house_14 rfl rfl (Nat.le_of_ble_eq_true rfl) (Nat.le_of_ble_eq_true rfl) (Nat.le_of_ble_eq_true rfl) (Nat.le_of_ble_eq_true rfl) hf (fun x4 hf => ?_)
    refine aw_if_ne (tgt := 25) dX7_house_17 rfl (fun hc => ?_) (fun hc => ?_)
    · have hf := itn0 hc hf
      refine aw_aload_n 0 dX7_house_25 rfl ?_
      refine aw_gR fl_RX7_10 dX7_house_26 hf (fun x5 hf => ?_)
      refine aw_gI fl_RX7_98 dX7_house_29 hf (fun x6 hf => ?_)
      refine aw_istore_n [(3, .int x6), (0, .ref a0), (1, .int a1), (2, .int a2)] dX7_house_32 (Nat.le_of_ble_eq_true rfl) rfl ?_
      refine aw_aload_n 1 dX7_house_33 rfl ?_
      refine aw_gR fl_RX7_10 dX7_house_34 hf (fun x7 hf => ?_)
      refine aw_iload_n 2 dX7_house_37 rfl ?_
      refine aw_iload_n 3 dX7_house_38 rfl ?_
      refine aw_cV_v (st := []) [.int a1, .int a2] wV_RX7_101 (ci := 1) rfl (fun hr er => c_X1_restart g h x7 a1 a2 hr er) dX7_house_39 rfl rfl (Nat.le_of_ble_eq_true rfl) (Nat.le_of_ble_eq_true rfl) (Nat.le_of_ble_eq_true rfl) (Nat.le_of_ble_eq_true rfl) hf (fun h8 hf => ?_)
      refine aw_aload_n 1 dX7_house_42 rfl ?_
      refine aw_gR fl_RX7_19 dX7_house_43 hf (fun x9 hf => ?_)
      refine aw_iconst (v := 0) dX7_house_46 rfl ?_
      refine aw_pI fp_RX7_105 dX7_house_47 hf (fun h10 hf => ?_)
      refine aw_iload_n 0 dX7_house_50 rfl ?_
      obtain ⟨rfl, rfl⟩ := so2 hf
      exact aw_iret dX7_house_51 rfl rfl
    · have hf := itp0 hc hf
      refine aw_aload_n 0 dX7_house_20 rfl ?_
      refine aw_cV_wi (st := []) [] wV_RX7_94 (ci := 7) rfl (fun xr hr er => c_X7_refuseBad g h a0 xr hr er) dX7_house_21 rfl rfl (Nat.le_of_ble_eq_true rfl) (Nat.le_of_ble_eq_true rfl) (Nat.le_of_ble_eq_true rfl) (Nat.le_of_ble_eq_true rfl) hf (fun x11 h12 hf => ?_)
      obtain ⟨rfl, rfl⟩ := so2 hf
      exact aw_iret dX7_house_24 rfl rfl
set_option maxRecDepth 100000 in
set_option maxHeartbeats 4000000 in
theorem c_X7_isRoom (g : Gx) (h : Hea) (a0 : Int32) (o : Int32) (hf : f_X7_isRoom a0 = some o) : MC g yX7_isRoom cX7_isRoom 1 (some .boolean) 1 0 0 [.int a0] h (some (.int o), h) := by
  refine MC_of (own := RX7) (nm := "isRoom") [(0, .int a0)] rfl rfl pn_RX7 (Nat.le_of_ble_eq_true rfl) rfl ?_
  rw [f_X7_isRoom] at hf
  refine aw_iload_n 0 dX7_isRoom_0 rfl ?_
  refine aw_iconst (v := 0) dX7_isRoom_1 rfl ?_
  refine aw_bipush (v := 7) dX7_isRoom_2 rfl ?_
  refine aw_cS_i (st := []) [.int a0, .int 0, .int 7] wS_RX7_90 (fun xr er => c_X7_within g h a0 0 7 xr er) dX7_isRoom_4 rfl rfl (Nat.le_of_ble_eq_true rfl) (Nat.le_of_ble_eq_true rfl) (Nat.le_of_ble_eq_true rfl) (Nat.le_of_ble_eq_true rfl) hf (fun x1 hf => ?_)
  exact aw_zretb dX7_isRoom_7 rfl hf rfl
set_option maxRecDepth 100000 in
set_option maxHeartbeats 4000000 in
theorem c_X7_room (g : Gx) (h : Hea) (a0 : Nat) (a1 : Int32) (a2 : Int32) (o : Int32) (hz : Hea) (hf : f_X7_room h a0 a1 a2 = some (o, hz)) : MC g yX7_room cX7_room 4 (some .int) 2 0 0 [.ref a0, .int a1, .int a2] h (some (.int o), hz) := by
  refine MC_of (own := RX7) (nm := "room") [(0, .ref a0), (1, .int a1), (2, .int a2)] rfl rfl pn_RX7 (Nat.le_of_ble_eq_true rfl) rfl ?_
  rw [f_X7_room] at hf
  refine aw_iload_n 1 dX7_room_0 rfl ?_
  refine aw_cS_i (st := []) [.int a1] wS_RX7_108 (fun xr er => c_X7_isRoom g h a1 xr er) dX7_room_1 rfl rfl (Nat.le_of_ble_eq_true rfl) (Nat.le_of_ble_eq_true rfl) (Nat.le_of_ble_eq_true rfl) (Nat.le_of_ble_eq_true rfl) hf (fun x1 hf => ?_)
  refine aw_if_eq (tgt := 17) dX7_room_4 rfl (fun hc => ?_) (fun hc => ?_)
  · have hf := itp0 hc hf
    refine aw_aload_n 0 dX7_room_17 rfl ?_
    refine aw_cV_wi (st := []) [] wV_RX7_94 (ci := 7) rfl (fun xr hr er => c_X7_refuseBad g h a0 xr hr er) dX7_room_18 rfl rfl (Nat.le_of_ble_eq_true rfl) (Nat.le_of_ble_eq_true rfl) (Nat.le_of_ble_eq_true rfl) (Nat.le_of_ble_eq_true rfl) hf (fun x2 h3 hf => ?_)
    obtain ⟨rfl, rfl⟩ := so2 hf
    exact aw_iret dX7_room_21 rfl rfl
  · have hf := itn0 hc hf
    refine aw_iload_n 2 dX7_room_7 rfl ?_
    refine aw_iconst (v := 0) dX7_room_8 rfl ?_
    refine aw_bipush (v := 9) dX7_room_9 rfl ?_
    refine aw_cS_i (st := []) [.int a2, .int 0, .int 9] wS_RX7_90 (fun xr er => c_X7_within g h a2 0 9 xr er) dX7_room_11 rfl rfl (Nat.le_of_ble_eq_true rfl) (Nat.le_of_ble_eq_true rfl) (Nat.le_of_ble_eq_true rfl) (Nat.le_of_ble_eq_true rfl) hf (fun x4 hf => ?_)
    refine aw_if_ne (tgt := 22) dX7_room_14 rfl (fun hc => ?_) (fun hc => ?_)
    · have hf := itn0 hc hf
      refine aw_aload_n 0 dX7_room_22 rfl ?_
      refine aw_gR fl_RX7_10 dX7_room_23 hf (fun x5 hf => ?_)
      refine aw_gR fl_RX7_112 dX7_room_26 hf (fun x6 hf => ?_)
      refine aw_iload_n 1 dX7_room_29 rfl ?_
      refine aw_ldI dX7_room_30 hf (fun x7 hf => ?_)
      refine aw_istore_n [(3, .int x7), (0, .ref a0), (1, .int a1), (2, .int a2)] dX7_room_31 (Nat.le_of_ble_eq_true rfl) rfl ?_
      refine aw_aload_n 1 dX7_room_32 rfl ?_
      refine aw_gR fl_RX7_10 dX7_room_33 hf (fun x8 hf => ?_)
      refine aw_gR fl_RX7_112 dX7_room_36 hf (fun x9 hf => ?_)
      refine aw_iload_n 2 dX7_room_39 rfl ?_
      refine aw_iload_n 3 dX7_room_40 rfl ?_
      refine aw_stI dX7_room_41 hf (fun h10 hf => ?_)
      refine aw_iload_n 0 dX7_room_42 rfl ?_
      obtain ⟨rfl, rfl⟩ := so2 hf
      exact aw_iret dX7_room_43 rfl rfl
    · have hf := itp0 hc hf
      refine aw_aload_n 0 dX7_room_17 rfl ?_
      refine aw_cV_wi (st := []) [] wV_RX7_94 (ci := 7) rfl (fun xr hr er => c_X7_refuseBad g h a0 xr hr er) dX7_room_18 rfl rfl (Nat.le_of_ble_eq_true rfl) (Nat.le_of_ble_eq_true rfl) (Nat.le_of_ble_eq_true rfl) (Nat.le_of_ble_eq_true rfl) hf (fun x11 h12 hf => ?_)
      obtain ⟨rfl, rfl⟩ := so2 hf
      exact aw_iret dX7_room_21 rfl rfl
set_option maxRecDepth 100000 in
set_option maxHeartbeats 4000000 in
theorem c_X1_creaksBetween (g : Gx) (h : Hea) (a0 : Nat) (a1 : Int32) (a2 : Int32) (o : Int32) (hf : f_X1_creaksBetween h a0 a1 a2 = some o) : MC g yX1_creaksBetween cX1_creaksBetween 3 (some .int) 0 0 0 [.ref a0, .int a1, .int a2] h (some (.int o), h) := by
  refine MC_of (own := RX1) (nm := "creaksBetween") [(0, .ref a0), (1, .int a1), (2, .int a2)] rfl rfl pn_RX1 (Nat.le_of_ble_eq_true rfl) rfl ?_
  rw [f_X1_creaksBetween] at hf
  refine aw_aload_n 0 dX1_creaksBetween_0 rfl ?_
  refine aw_gR fl_RX1_15 dX1_creaksBetween_1 hf (fun x1 hf => ?_)
  refine aw_iload_n 1 dX1_creaksBetween_4 rfl ?_
  refine aw_bipush (v := 8) dX1_creaksBetween_5 rfl ?_
  refine aw_imul dX1_creaksBetween_7 ?_
  refine aw_iload_n 2 dX1_creaksBetween_8 rfl ?_
  refine aw_iadd dX1_creaksBetween_9 ?_
  refine aw_ldI dX1_creaksBetween_10 hf (fun x2 hf => ?_)
  obtain rfl := so1 hf
  exact aw_iret dX1_creaksBetween_11 rfl rfl
set_option maxRecDepth 100000 in
set_option maxHeartbeats 4000000 in
theorem c_X1_hang (g : Gx) (h : Hea) (a0 : Nat) (a1 : Int32) (a2 : Int32) (a3 : Int32) (o : Hea) (hf : f_X1_hang h a0 a1 a2 a3 = some o) : MC g yX1_hang cX1_hang 4 none 0 0 0 [.ref a0, .int a1, .int a2, .int a3] h (none, o) := by
  refine MC_of (own := RX1) (nm := "hang") [(0, .ref a0), (1, .int a1), (2, .int a2), (3, .int a3)] rfl rfl pn_RX1 (Nat.le_of_ble_eq_true rfl) rfl ?_
  rw [f_X1_hang] at hf
  refine aw_aload_n 0 dX1_hang_0 rfl ?_
  refine aw_gR fl_RX1_15 dX1_hang_1 hf (fun x1 hf => ?_)
  refine aw_iload_n 1 dX1_hang_4 rfl ?_
  refine aw_bipush (v := 8) dX1_hang_5 rfl ?_
  refine aw_imul dX1_hang_7 ?_
  refine aw_iload_n 2 dX1_hang_8 rfl ?_
  refine aw_iadd dX1_hang_9 ?_
  refine aw_iload_n 3 dX1_hang_10 rfl ?_
  refine aw_stI dX1_hang_11 hf (fun h2 hf => ?_)
  refine aw_aload_n 0 dX1_hang_12 rfl ?_
  refine aw_gR fl_RX1_15 dX1_hang_13 hf (fun x3 hf => ?_)
  refine aw_iload_n 2 dX1_hang_16 rfl ?_
  refine aw_bipush (v := 8) dX1_hang_17 rfl ?_
  refine aw_imul dX1_hang_19 ?_
  refine aw_iload_n 1 dX1_hang_20 rfl ?_
  refine aw_iadd dX1_hang_21 ?_
  refine aw_iload_n 3 dX1_hang_22 rfl ?_
  refine aw_stI dX1_hang_23 hf (fun h4 hf => ?_)
  obtain rfl := so1 hf
  exact aw_vret dX1_hang_24 rfl rfl
set_option maxRecDepth 100000 in
set_option maxHeartbeats 4000000 in
theorem c_X7_door (g : Gx) (h : Hea) (a0 : Nat) (a1 : Int32) (a2 : Int32) (a3 : Int32) (o : Int32) (hz : Hea) (hf : f_X7_door h a0 a1 a2 a3 = some (o, hz)) : MC g yX7_door cX7_door 5 (some .int) 2 0 0 [.ref a0, .int a1, .int a2, .int a3] h (some (.int o), hz) := by
  refine MC_of (own := RX7) (nm := "door") [(0, .ref a0), (1, .int a1), (2, .int a2), (3, .int a3)] rfl rfl pn_RX7 (Nat.le_of_ble_eq_true rfl) rfl ?_
  rw [f_X7_door] at hf
  refine aw_iload_n 1 dX7_door_0 rfl ?_
  refine aw_cS_i (st := []) [.int a1] wS_RX7_108 (fun xr er => c_X7_isRoom g h a1 xr er) dX7_door_1 rfl rfl (Nat.le_of_ble_eq_true rfl) (Nat.le_of_ble_eq_true rfl) (Nat.le_of_ble_eq_true rfl) (Nat.le_of_ble_eq_true rfl) hf (fun x1 hf => ?_)
  refine aw_if_eq (tgt := 29) dX7_door_4 rfl (fun hc => ?_) (fun hc => ?_)
  · have hf := itp0 hc hf
    refine aw_aload_n 0 dX7_door_29 rfl ?_
    refine aw_cV_wi (st := []) [] wV_RX7_94 (ci := 7) rfl (fun xr hr er => c_X7_refuseBad g h a0 xr hr er) dX7_door_30 rfl rfl (Nat.le_of_ble_eq_true rfl) (Nat.le_of_ble_eq_true rfl) (Nat.le_of_ble_eq_true rfl) (Nat.le_of_ble_eq_true rfl) hf (fun x2 h3 hf => ?_)
    obtain ⟨rfl, rfl⟩ := so2 hf
    exact aw_iret dX7_door_33 rfl rfl
  · have hf := itn0 hc hf
    refine aw_iload_n 2 dX7_door_7 rfl ?_
    refine aw_cS_i (st := []) [.int a2] wS_RX7_108 (fun xr er => c_X7_isRoom g h a2 xr er) dX7_door_8 rfl rfl (Nat.le_of_ble_eq_true rfl) (Nat.le_of_ble_eq_true rfl) (Nat.le_of_ble_eq_true rfl) (Nat.le_of_ble_eq_true rfl) hf (fun x4 hf => ?_)
    refine aw_if_eq (tgt := 29) dX7_door_11 rfl (fun hc => ?_) (fun hc => ?_)
    · have hf := itp0 hc hf
      refine aw_aload_n 0 dX7_door_29 rfl ?_
      refine aw_cV_wi (st := []) [] wV_RX7_94 (ci := 7) rfl (fun xr hr er => c_X7_refuseBad g h a0 xr hr er) dX7_door_30 rfl rfl (Nat.le_of_ble_eq_true rfl) (Nat.le_of_ble_eq_true rfl) (Nat.le_of_ble_eq_true rfl) (Nat.le_of_ble_eq_true rfl) hf (fun x5 h6 hf => ?_)
      obtain ⟨rfl, rfl⟩ := so2 hf
      exact aw_iret dX7_door_33 rfl rfl
    · have hf := itn0 hc hf
      refine aw_iload_n 1 dX7_door_14 rfl ?_
      refine aw_iload_n 2 dX7_door_15 rfl ?_
      refine aw_icmp_eq (tgt := 29) dX7_door_16 rfl (fun hc => ?_) (fun hc => ?_)
      · have hf := itp0 hc hf
        refine aw_aload_n 0 dX7_door_29 rfl ?_
        refine aw_cV_wi (st := []) [] wV_RX7_94 (ci := 7) rfl (fun xr hr er => c_X7_refuseBad g h a0 xr hr er) dX7_door_30 rfl rfl (Nat.le_of_ble_eq_true rfl) (Nat.le_of_ble_eq_true rfl) (Nat.le_of_ble_eq_true rfl) (Nat.le_of_ble_eq_true rfl) hf (fun x7 h8 hf => ?_)
        obtain ⟨rfl, rfl⟩ := so2 hf
        exact aw_iret dX7_door_33 rfl rfl
      · have hf := itn0 hc hf
        refine aw_iload_n 3 dX7_door_19 rfl ?_
        refine aw_iconst (v := 1) dX7_door_20 rfl ?_
        refine aw_bipush (v := 9) dX7_door_21 rfl ?_
        refine aw_cS_i (st := []) [.int a3, .int 1, .int 9] wS_RX7_90 (fun xr er => c_X7_within g h a3 1 9 xr er) dX7_door_23 rfl rfl (Nat.le_of_ble_eq_true rfl) (Nat.le_of_ble_eq_true rfl) (Nat.le_of_ble_eq_true rfl) (Nat.le_of_ble_eq_true rfl) hf (fun x9 hf => ?_)
        refine aw_if_ne (tgt := 34) dX7_door_26 rfl (fun hc => ?_) (fun hc => ?_)
        · have hf := itn0 hc hf
          refine aw_aload_n 0 dX7_door_34 rfl ?_
          refine aw_gR fl_RX7_10 dX7_door_35 hf (fun x10 hf => ?_)
          refine aw_iload_n 1 dX7_door_38 rfl ?_
          refine aw_iload_n 2 dX7_door_39 rfl ?_
          refine aw_cV_i (st := []) [.int a1, .int a2] wV_RX7_116 (ci := 1) rfl (fun xr er => c_X1_creaksBetween g h x10 a1 a2 xr er) dX7_door_40 rfl rfl (Nat.le_of_ble_eq_true rfl) (Nat.le_of_ble_eq_true rfl) (Nat.le_of_ble_eq_true rfl) (Nat.le_of_ble_eq_true rfl) hf (fun x11 hf => ?_)
          refine aw_istore [(4, .int x11), (0, .ref a0), (1, .int a1), (2, .int a2), (3, .int a3)] dX7_door_43 (Nat.le_of_ble_eq_true rfl) rfl ?_
          refine aw_aload_n 1 dX7_door_45 rfl ?_
          refine aw_gR fl_RX7_10 dX7_door_46 hf (fun x12 hf => ?_)
          refine aw_iload_n 2 dX7_door_49 rfl ?_
          refine aw_iload_n 3 dX7_door_50 rfl ?_
          refine aw_iload_n 4 dX7_door_51 rfl ?_
          refine aw_cV_v (st := []) [.int a1, .int a2, .int a3] wV_RX7_120 (ci := 1) rfl (fun hr er => c_X1_hang g h x12 a1 a2 a3 hr er) dX7_door_52 rfl rfl (Nat.le_of_ble_eq_true rfl) (Nat.le_of_ble_eq_true rfl) (Nat.le_of_ble_eq_true rfl) (Nat.le_of_ble_eq_true rfl) hf (fun h13 hf => ?_)
          refine aw_iload 0 dX7_door_55 rfl ?_
          obtain ⟨rfl, rfl⟩ := so2 hf
          exact aw_iret dX7_door_57 rfl rfl
        · have hf := itp0 hc hf
          refine aw_aload_n 0 dX7_door_29 rfl ?_
          refine aw_cV_wi (st := []) [] wV_RX7_94 (ci := 7) rfl (fun xr hr er => c_X7_refuseBad g h a0 xr hr er) dX7_door_30 rfl rfl (Nat.le_of_ble_eq_true rfl) (Nat.le_of_ble_eq_true rfl) (Nat.le_of_ble_eq_true rfl) (Nat.le_of_ble_eq_true rfl) hf (fun x14 h15 hf => ?_)
          obtain ⟨rfl, rfl⟩ := so2 hf
          exact aw_iret dX7_door_33 rfl rfl
set_option maxRecDepth 100000 in
set_option maxHeartbeats 4000000 in
theorem c_X7_refuseFull (g : Gx) (h : Hea) (a0 : Nat) (o : Int32) (hz : Hea) (hf : f_X7_refuseFull h a0 = some (o, hz)) : MC g yX7_refuseFull cX7_refuseFull 1 (some .int) 0 0 0 [.ref a0] h (some (.int o), hz) := by
  refine MC_of (own := RX7) (nm := "refuseFull") [(0, .ref a0)] rfl rfl pn_RX7 (Nat.le_of_ble_eq_true rfl) rfl ?_
  rw [f_X7_refuseFull] at hf
  refine aw_aload_n 0 dX7_refuseFull_0 rfl ?_
  refine aw_dup dX7_refuseFull_1 rfl ?_
  refine aw_gI fl_RX7_87 dX7_refuseFull_2 hf (fun x1 hf => ?_)
  refine aw_iconst (v := 1) dX7_refuseFull_5 rfl ?_
  refine aw_iadd dX7_refuseFull_6 ?_
  refine aw_pI fp_RX7_87 dX7_refuseFull_7 hf (fun h2 hf => ?_)
  refine aw_bipush (v := (-4)) dX7_refuseFull_10 rfl ?_
  obtain ⟨rfl, rfl⟩ := so2 hf
  exact aw_iret dX7_refuseFull_12 rfl rfl
set_option maxRecDepth 100000 in
set_option maxHeartbeats 4000000 in
theorem c_X7_list (g : Gx) (h : Hea) (a0 : Nat) (a1 : Int32) (o : Int32) (hz : Hea) (hf : f_X7_list h a0 a1 = some (o, hz)) : MC g yX7_list cX7_list 2 (some .int) 2 0 0 [.ref a0, .int a1] h (some (.int o), hz) := by
  refine MC_of (own := RX7) (nm := "list") [(0, .ref a0), (1, .int a1)] rfl rfl pn_RX7 (Nat.le_of_ble_eq_true rfl) rfl ?_
  rw [f_X7_list] at hf
  refine aw_iload_n 1 dX7_list_0 rfl ?_
  refine aw_cS_i (st := []) [.int a1] wS_RX7_108 (fun xr er => c_X7_isRoom g h a1 xr er) dX7_list_1 rfl rfl (Nat.le_of_ble_eq_true rfl) (Nat.le_of_ble_eq_true rfl) (Nat.le_of_ble_eq_true rfl) (Nat.le_of_ble_eq_true rfl) hf (fun x1 hf => ?_)
  refine aw_if_ne (tgt := 12) dX7_list_4 rfl (fun hc => ?_) (fun hc => ?_)
  · have hf := itn0 hc hf
    refine aw_aload_n 0 dX7_list_12 rfl ?_
    refine aw_gR fl_RX7_10 dX7_list_13 hf (fun x2 hf => ?_)
    refine aw_gI fl_RX7_124 dX7_list_16 hf (fun x3 hf => ?_)
    refine aw_bipush (v := 12) dX7_list_19 rfl ?_
    refine aw_icmp_lt (tgt := 29) dX7_list_21 rfl (fun hc => ?_) (fun hc => ?_)
    · have hf := itp0 hc hf
      refine aw_aload_n 0 dX7_list_29 rfl ?_
      refine aw_gR fl_RX7_10 dX7_list_30 hf (fun x4 hf => ?_)
      refine aw_gR fl_RX7_130 dX7_list_33 hf (fun x5 hf => ?_)
      refine aw_aload_n 0 dX7_list_36 rfl ?_
      refine aw_gR fl_RX7_10 dX7_list_37 hf (fun x6 hf => ?_)
      refine aw_gI fl_RX7_124 dX7_list_40 hf (fun x7 hf => ?_)
      refine aw_iload_n 1 dX7_list_43 rfl ?_
      refine aw_stI dX7_list_44 hf (fun h8 hf => ?_)
      refine aw_aload_n 0 dX7_list_45 rfl ?_
      refine aw_gR fl_RX7_10 dX7_list_46 hf (fun x9 hf => ?_)
      refine aw_dup dX7_list_49 rfl ?_
      refine aw_gI fl_RX7_124 dX7_list_50 hf (fun x10 hf => ?_)
      refine aw_iconst (v := 1) dX7_list_53 rfl ?_
      refine aw_iadd dX7_list_54 ?_
      refine aw_pI fp_RX7_124 dX7_list_55 hf (fun h11 hf => ?_)
      refine aw_aload_n 0 dX7_list_58 rfl ?_
      refine aw_gR fl_RX7_10 dX7_list_59 hf (fun x12 hf => ?_)
      refine aw_gI fl_RX7_124 dX7_list_62 hf (fun x13 hf => ?_)
      obtain ⟨rfl, rfl⟩ := so2 hf
      exact aw_iret dX7_list_65 rfl rfl
    · have hf := itn0 hc hf
      refine aw_aload_n 0 dX7_list_24 rfl ?_
      refine aw_cV_wi (st := []) [] wV_RX7_127 (ci := 7) rfl (fun xr hr er => c_X7_refuseFull g h a0 xr hr er) dX7_list_25 rfl rfl (Nat.le_of_ble_eq_true rfl) (Nat.le_of_ble_eq_true rfl) (Nat.le_of_ble_eq_true rfl) (Nat.le_of_ble_eq_true rfl) hf (fun x14 h15 hf => ?_)
      obtain ⟨rfl, rfl⟩ := so2 hf
      exact aw_iret dX7_list_28 rfl rfl
  · have hf := itp0 hc hf
    refine aw_aload_n 0 dX7_list_7 rfl ?_
    refine aw_cV_wi (st := []) [] wV_RX7_94 (ci := 7) rfl (fun xr hr er => c_X7_refuseBad g h a0 xr hr er) dX7_list_8 rfl rfl (Nat.le_of_ble_eq_true rfl) (Nat.le_of_ble_eq_true rfl) (Nat.le_of_ble_eq_true rfl) (Nat.le_of_ble_eq_true rfl) hf (fun x16 h17 hf => ?_)
    obtain ⟨rfl, rfl⟩ := so2 hf
    exact aw_iret dX7_list_11 rfl rfl
set_option maxRecDepth 100000 in
set_option maxHeartbeats 4000000 in
theorem c_X7_only (g : Gx) (h : Hea) (a0 : Nat) (a1 : Int32) (o : Int32) (hz : Hea) (hf : f_X7_only h a0 a1 = some (o, hz)) : MC g yX7_only cX7_only 3 (some .int) 2 0 0 [.ref a0, .int a1] h (some (.int o), hz) := by
  refine MC_of (own := RX7) (nm := "only") [(0, .ref a0), (1, .int a1)] rfl rfl pn_RX7 (Nat.le_of_ble_eq_true rfl) rfl ?_
  rw [f_X7_only] at hf
  refine aw_iload_n 1 dX7_only_0 rfl ?_
  refine aw_cS_i (st := []) [.int a1] wS_RX7_108 (fun xr er => c_X7_isRoom g h a1 xr er) dX7_only_1 rfl rfl (Nat.le_of_ble_eq_true rfl) (Nat.le_of_ble_eq_true rfl) (Nat.le_of_ble_eq_true rfl) (Nat.le_of_ble_eq_true rfl) hf (fun x1 hf => ?_)
  refine aw_if_ne (tgt := 12) dX7_only_4 rfl (fun hc => ?_) (fun hc => ?_)
  · have hf := itn0 hc hf
    refine aw_aload_n 0 dX7_only_12 rfl ?_
    refine aw_gR fl_RX7_10 dX7_only_13 hf (fun x2 hf => ?_)
    refine aw_gI fl_RX7_124 dX7_only_16 hf (fun x3 hf => ?_)
    refine aw_istore_n [(2, .int x3), (0, .ref a0), (1, .int a1)] dX7_only_19 (Nat.le_of_ble_eq_true rfl) rfl ?_
    refine aw_aload_n 1 dX7_only_20 rfl ?_
    refine aw_gR fl_RX7_10 dX7_only_21 hf (fun x4 hf => ?_)
    refine aw_gR fl_RX7_130 dX7_only_24 hf (fun x5 hf => ?_)
    refine aw_iconst (v := 0) dX7_only_27 rfl ?_
    refine aw_iload_n 2 dX7_only_28 rfl ?_
    refine aw_stI dX7_only_29 hf (fun h6 hf => ?_)
    refine aw_aload_n 1 dX7_only_30 rfl ?_
    refine aw_gR fl_RX7_10 dX7_only_31 hf (fun x7 hf => ?_)
    refine aw_iconst (v := 1) dX7_only_34 rfl ?_
    refine aw_pI fp_RX7_124 dX7_only_35 hf (fun h8 hf => ?_)
    refine aw_iload_n 0 dX7_only_38 rfl ?_
    obtain ⟨rfl, rfl⟩ := so2 hf
    exact aw_iret dX7_only_39 rfl rfl
  · have hf := itp0 hc hf
    refine aw_aload_n 0 dX7_only_7 rfl ?_
    refine aw_cV_wi (st := []) [] wV_RX7_94 (ci := 7) rfl (fun xr hr er => c_X7_refuseBad g h a0 xr hr er) dX7_only_8 rfl rfl (Nat.le_of_ble_eq_true rfl) (Nat.le_of_ble_eq_true rfl) (Nat.le_of_ble_eq_true rfl) (Nat.le_of_ble_eq_true rfl) hf (fun x9 h10 hf => ?_)
    obtain ⟨rfl, rfl⟩ := so2 hf
    exact aw_iret dX7_only_11 rfl rfl
set_option maxRecDepth 100000 in
set_option maxHeartbeats 4000000 in
theorem c_X7_eyes (g : Gx) (h : Hea) (a0 : Nat) (a1 : Int32) (o : Int32) (hz : Hea) (hf : f_X7_eyes h a0 a1 = some (o, hz)) : MC g yX7_eyes cX7_eyes 3 (some .int) 1 0 0 [.ref a0, .int a1] h (some (.int o), hz) := by
  refine MC_of (own := RX7) (nm := "eyes") [(0, .ref a0), (1, .int a1)] rfl rfl pn_RX7 (Nat.le_of_ble_eq_true rfl) rfl ?_
  rw [f_X7_eyes] at hf
  refine aw_iload_n 1 dX7_eyes_0 rfl ?_
  refine aw_iconst (v := 0) dX7_eyes_1 rfl ?_
  refine aw_bipush (v := 25) dX7_eyes_2 rfl ?_
  refine aw_cS_i (st := []) [.int a1, .int 0, .int 25] wS_RX7_90 (fun xr er => c_X7_within g h a1 0 25 xr er) dX7_eyes_4 rfl rfl (Nat.le_of_ble_eq_true rfl) (Nat.le_of_ble_eq_true rfl) (Nat.le_of_ble_eq_true rfl) (Nat.le_of_ble_eq_true rfl) hf (fun x1 hf => ?_)
  refine aw_if_ne (tgt := 15) dX7_eyes_7 rfl (fun hc => ?_) (fun hc => ?_)
  · have hf := itn0 hc hf
    refine aw_aload_n 0 dX7_eyes_15 rfl ?_
    refine aw_gR fl_RX7_10 dX7_eyes_16 hf (fun x2 hf => ?_)
    refine aw_gI fl_RX7_133 dX7_eyes_19 hf (fun x3 hf => ?_)
    refine aw_istore_n [(2, .int x3), (0, .ref a0), (1, .int a1)] dX7_eyes_22 (Nat.le_of_ble_eq_true rfl) rfl ?_
    refine aw_aload_n 1 dX7_eyes_23 rfl ?_
    refine aw_gR fl_RX7_10 dX7_eyes_24 hf (fun x4 hf => ?_)
    refine aw_iload_n 2 dX7_eyes_27 rfl ?_
    refine aw_pI fp_RX7_133 dX7_eyes_28 hf (fun h5 hf => ?_)
    refine aw_iload_n 0 dX7_eyes_31 rfl ?_
    obtain ⟨rfl, rfl⟩ := so2 hf
    exact aw_iret dX7_eyes_32 rfl rfl
  · have hf := itp0 hc hf
    refine aw_aload_n 0 dX7_eyes_10 rfl ?_
    refine aw_cV_wi (st := []) [] wV_RX7_94 (ci := 7) rfl (fun xr hr er => c_X7_refuseBad g h a0 xr hr er) dX7_eyes_11 rfl rfl (Nat.le_of_ble_eq_true rfl) (Nat.le_of_ble_eq_true rfl) (Nat.le_of_ble_eq_true rfl) (Nat.le_of_ble_eq_true rfl) hf (fun x6 h7 hf => ?_)
    obtain ⟨rfl, rfl⟩ := so2 hf
    exact aw_iret dX7_eyes_14 rfl rfl
set_option maxRecDepth 100000 in
set_option maxHeartbeats 4000000 in
theorem c_X3_place (g : Gx) (h : Hea) (a0 : Nat) (a1 : Int32) (a2 : Int32) (o : Hea) (hf : f_X3_place h a0 a1 a2 = some o) : MC g yX3_place cX3_place 3 none 0 0 0 [.ref a0, .int a1, .int a2] h (none, o) := by
  refine MC_of (own := RX3) (nm := "place") [(0, .ref a0), (1, .int a1), (2, .int a2)] rfl rfl pn_RX3 (Nat.le_of_ble_eq_true rfl) rfl ?_
  rw [f_X3_place] at hf
  refine aw_aload_n 0 dX3_place_0 rfl ?_
  refine aw_gR fl_RX3_15 dX3_place_1 hf (fun x1 hf => ?_)
  refine aw_iload_n 1 dX3_place_4 rfl ?_
  refine aw_iload_n 2 dX3_place_5 rfl ?_
  refine aw_stI dX3_place_6 hf (fun h2 hf => ?_)
  refine aw_aload_n 0 dX3_place_7 rfl ?_
  refine aw_gR fl_RX3_19 dX3_place_8 hf (fun x3 hf => ?_)
  refine aw_iload_n 1 dX3_place_11 rfl ?_
  refine aw_iconst (v := 0) dX3_place_12 rfl ?_
  refine aw_stI dX3_place_13 hf (fun h4 hf => ?_)
  refine aw_aload_n 0 dX3_place_14 rfl ?_
  refine aw_gR fl_RX3_22 dX3_place_15 hf (fun x5 hf => ?_)
  refine aw_iload_n 1 dX3_place_18 rfl ?_
  refine aw_iconst (v := 0) dX3_place_19 rfl ?_
  refine aw_stI dX3_place_20 hf (fun h6 hf => ?_)
  refine aw_aload_n 0 dX3_place_21 rfl ?_
  refine aw_gR fl_RX3_25 dX3_place_22 hf (fun x7 hf => ?_)
  refine aw_iload_n 1 dX3_place_25 rfl ?_
  refine aw_iconst (v := (-1)) dX3_place_26 rfl ?_
  refine aw_stI dX3_place_27 hf (fun h8 hf => ?_)
  refine aw_aload_n 0 dX3_place_28 rfl ?_
  refine aw_gR fl_RX3_28 dX3_place_29 hf (fun x9 hf => ?_)
  refine aw_iload_n 1 dX3_place_32 rfl ?_
  refine aw_iconst (v := 0) dX3_place_33 rfl ?_
  refine aw_stI dX3_place_34 hf (fun h10 hf => ?_)
  obtain rfl := so1 hf
  exact aw_vret dX3_place_35 rfl rfl
set_option maxRecDepth 100000 in
set_option maxHeartbeats 4000000 in
theorem c_X1_bring (g : Gx) (h : Hea) (a0 : Nat) (a1 : Int32) (a2 : Int32) (a3 : Int32) (o : Int32) (hz : Hea) (hf : f_X1_bring h a0 a1 a2 a3 = some (o, hz)) : MC g yX1_bring cX1_bring 5 (some .int) 1 0 0 [.ref a0, .int a1, .int a2, .int a3] h (some (.int o), hz) := by
  refine MC_of (own := RX1) (nm := "bring") [(0, .ref a0), (1, .int a1), (2, .int a2), (3, .int a3)] rfl rfl pn_RX1 (Nat.le_of_ble_eq_true rfl) rfl ?_
  rw [f_X1_bring] at hf
  refine aw_aload_n 0 dX1_bring_0 rfl ?_
  refine aw_gI fl_RX1_57 dX1_bring_1 hf (fun x1 hf => ?_)
  refine aw_istore [(4, .int x1), (0, .ref a0), (1, .int a1), (2, .int a2), (3, .int a3)] dX1_bring_4 (Nat.le_of_ble_eq_true rfl) rfl ?_
  refine aw_aload_n 1 dX1_bring_6 rfl ?_
  refine aw_gR fl_RX1_21 dX1_bring_7 hf (fun x2 hf => ?_)
  refine aw_iload 0 dX1_bring_10 rfl ?_
  refine aw_iload_n 2 dX1_bring_12 rfl ?_
  refine aw_stI dX1_bring_13 hf (fun h3 hf => ?_)
  refine aw_aload_n 1 dX1_bring_14 rfl ?_
  refine aw_gR fl_RX1_24 dX1_bring_15 hf (fun x4 hf => ?_)
  refine aw_iload 0 dX1_bring_18 rfl ?_
  refine aw_iload_n 4 dX1_bring_20 rfl ?_
  refine aw_stI dX1_bring_21 hf (fun h5 hf => ?_)
  refine aw_aload_n 1 dX1_bring_22 rfl ?_
  refine aw_gR fl_RX1_30 dX1_bring_23 hf (fun x6 hf => ?_)
  refine aw_iload 0 dX1_bring_26 rfl ?_
  refine aw_iload_n 3 dX1_bring_28 rfl ?_
  refine aw_cV_v (st := []) [.int x1, .int a2] wV_RX1_76 (ci := 3) rfl (fun hr er => c_X3_place g h5 x6 x1 a2 hr er) dX1_bring_29 rfl rfl (Nat.le_of_ble_eq_true rfl) (Nat.le_of_ble_eq_true rfl) (Nat.le_of_ble_eq_true rfl) (Nat.le_of_ble_eq_true rfl) hf (fun h7 hf => ?_)
  refine aw_aload_n 1 dX1_bring_32 rfl ?_
  refine aw_dup dX1_bring_33 rfl ?_
  refine aw_gI fl_RX1_57 dX1_bring_34 hf (fun x8 hf => ?_)
  refine aw_iconst (v := 1) dX1_bring_37 rfl ?_
  refine aw_iadd dX1_bring_38 ?_
  refine aw_pI fp_RX1_57 dX1_bring_39 hf (fun h9 hf => ?_)
  refine aw_iload 0 dX1_bring_42 rfl ?_
  obtain ⟨rfl, rfl⟩ := so2 hf
  exact aw_iret dX1_bring_44 rfl rfl
set_option maxRecDepth 100000 in
set_option maxHeartbeats 4000000 in
theorem c_X7_heir (g : Gx) (h : Hea) (a0 : Nat) (a1 : Int32) (a2 : Int32) (a3 : Int32) (o : Int32) (hz : Hea) (hf : f_X7_heir h a0 a1 a2 a3 = some (o, hz)) : MC g yX7_heir cX7_heir 4 (some .int) 2 0 0 [.ref a0, .int a1, .int a2, .int a3] h (some (.int o), hz) := by
  refine MC_of (own := RX7) (nm := "heir") [(0, .ref a0), (1, .int a1), (2, .int a2), (3, .int a3)] rfl rfl pn_RX7 (Nat.le_of_ble_eq_true rfl) rfl ?_
  rw [f_X7_heir] at hf
  refine aw_iload_n 1 dX7_heir_0 rfl ?_
  refine aw_iconst (v := 0) dX7_heir_1 rfl ?_
  refine aw_iconst (v := 5) dX7_heir_2 rfl ?_
  refine aw_cS_i (st := []) [.int a1, .int 0, .int 5] wS_RX7_90 (fun xr er => c_X7_within g h a1 0 5 xr er) dX7_heir_3 rfl rfl (Nat.le_of_ble_eq_true rfl) (Nat.le_of_ble_eq_true rfl) (Nat.le_of_ble_eq_true rfl) (Nat.le_of_ble_eq_true rfl) hf (fun x1 hf => ?_)
  refine aw_if_eq (tgt := 26) dX7_heir_6 rfl (fun hc => ?_) (fun hc => ?_)
  · have hf := itp0 hc hf
    refine aw_aload_n 0 dX7_heir_26 rfl ?_
    refine aw_cV_wi (st := []) [] wV_RX7_94 (ci := 7) rfl (fun xr hr er => c_X7_refuseBad g h a0 xr hr er) dX7_heir_27 rfl rfl (Nat.le_of_ble_eq_true rfl) (Nat.le_of_ble_eq_true rfl) (Nat.le_of_ble_eq_true rfl) (Nat.le_of_ble_eq_true rfl) hf (fun x2 h3 hf => ?_)
    obtain ⟨rfl, rfl⟩ := so2 hf
    exact aw_iret dX7_heir_30 rfl rfl
  · have hf := itn0 hc hf
    refine aw_iload_n 2 dX7_heir_9 rfl ?_
    refine aw_cS_i (st := []) [.int a2] wS_RX7_108 (fun xr er => c_X7_isRoom g h a2 xr er) dX7_heir_10 rfl rfl (Nat.le_of_ble_eq_true rfl) (Nat.le_of_ble_eq_true rfl) (Nat.le_of_ble_eq_true rfl) (Nat.le_of_ble_eq_true rfl) hf (fun x4 hf => ?_)
    refine aw_if_eq (tgt := 26) dX7_heir_13 rfl (fun hc => ?_) (fun hc => ?_)
    · have hf := itp0 hc hf
      refine aw_aload_n 0 dX7_heir_26 rfl ?_
      refine aw_cV_wi (st := []) [] wV_RX7_94 (ci := 7) rfl (fun xr hr er => c_X7_refuseBad g h a0 xr hr er) dX7_heir_27 rfl rfl (Nat.le_of_ble_eq_true rfl) (Nat.le_of_ble_eq_true rfl) (Nat.le_of_ble_eq_true rfl) (Nat.le_of_ble_eq_true rfl) hf (fun x5 h6 hf => ?_)
      obtain ⟨rfl, rfl⟩ := so2 hf
      exact aw_iret dX7_heir_30 rfl rfl
    · have hf := itn0 hc hf
      refine aw_iload_n 3 dX7_heir_16 rfl ?_
      refine aw_iconst (v := 0) dX7_heir_17 rfl ?_
      refine aw_bipush (v := 9) dX7_heir_18 rfl ?_
      refine aw_cS_i (st := []) [.int a3, .int 0, .int 9] wS_RX7_90 (fun xr er => c_X7_within g h a3 0 9 xr er) dX7_heir_20 rfl rfl (Nat.le_of_ble_eq_true rfl) (Nat.le_of_ble_eq_true rfl) (Nat.le_of_ble_eq_true rfl) (Nat.le_of_ble_eq_true rfl) hf (fun x7 hf => ?_)
      refine aw_if_ne (tgt := 31) dX7_heir_23 rfl (fun hc => ?_) (fun hc => ?_)
      · have hf := itn0 hc hf
        refine aw_aload_n 0 dX7_heir_31 rfl ?_
        refine aw_gR fl_RX7_10 dX7_heir_32 hf (fun x8 hf => ?_)
        refine aw_gI fl_RX7_98 dX7_heir_35 hf (fun x9 hf => ?_)
        refine aw_bipush (v := 6) dX7_heir_38 rfl ?_
        refine aw_icmp_lt (tgt := 48) dX7_heir_40 rfl (fun hc => ?_) (fun hc => ?_)
        · have hf := itp0 hc hf
          refine aw_aload_n 0 dX7_heir_48 rfl ?_
          refine aw_gR fl_RX7_19 dX7_heir_49 hf (fun x10 hf => ?_)
          refine aw_iconst (v := 0) dX7_heir_52 rfl ?_
          refine aw_pI fp_RX7_105 dX7_heir_53 hf (fun h11 hf => ?_)
          refine aw_aload_n 0 dX7_heir_56 rfl ?_
          refine aw_gR fl_RX7_10 dX7_heir_57 hf (fun x12 hf => ?_)
          refine aw_iload_n 1 dX7_heir_60 rfl ?_
          refine aw_iload_n 2 dX7_heir_61 rfl ?_
          refine aw_iload_n 3 dX7_heir_62 rfl ?_
          refine aw_cV_wi (st := []) [.int a1, .int a2, .int a3] wV_RX7_136 (ci := 1) rfl (fun xr hr er => c_X1_bring g h11 x12 a1 a2 a3 xr hr er) dX7_heir_63 rfl rfl (Nat.le_of_ble_eq_true rfl) (Nat.le_of_ble_eq_true rfl) (Nat.le_of_ble_eq_true rfl) (Nat.le_of_ble_eq_true rfl) hf (fun x13 h14 hf => ?_)
          obtain ⟨rfl, rfl⟩ := so2 hf
          exact aw_iret dX7_heir_66 rfl rfl
        · have hf := itn0 hc hf
          refine aw_aload_n 0 dX7_heir_43 rfl ?_
          refine aw_cV_wi (st := []) [] wV_RX7_127 (ci := 7) rfl (fun xr hr er => c_X7_refuseFull g h a0 xr hr er) dX7_heir_44 rfl rfl (Nat.le_of_ble_eq_true rfl) (Nat.le_of_ble_eq_true rfl) (Nat.le_of_ble_eq_true rfl) (Nat.le_of_ble_eq_true rfl) hf (fun x15 h16 hf => ?_)
          obtain ⟨rfl, rfl⟩ := so2 hf
          exact aw_iret dX7_heir_47 rfl rfl
      · have hf := itp0 hc hf
        refine aw_aload_n 0 dX7_heir_26 rfl ?_
        refine aw_cV_wi (st := []) [] wV_RX7_94 (ci := 7) rfl (fun xr hr er => c_X7_refuseBad g h a0 xr hr er) dX7_heir_27 rfl rfl (Nat.le_of_ble_eq_true rfl) (Nat.le_of_ble_eq_true rfl) (Nat.le_of_ble_eq_true rfl) (Nat.le_of_ble_eq_true rfl) hf (fun x17 h18 hf => ?_)
        obtain ⟨rfl, rfl⟩ := so2 hf
        exact aw_iret dX7_heir_30 rfl rfl
set_option maxRecDepth 100000 in
set_option maxHeartbeats 4000000 in
theorem c_X7_type (g : Gx) (h : Hea) (a0 : Nat) (a1 : Int32) (o : Int32) (hz : Hea) (hf : f_X7_type h a0 a1 = some (o, hz)) : MC g yX7_type cX7_type 2 (some .int) 1 0 0 [.ref a0, .int a1] h (some (.int o), hz) := by
  refine MC_of (own := RX7) (nm := "type") [(0, .ref a0), (1, .int a1)] rfl rfl pn_RX7 (Nat.le_of_ble_eq_true rfl) rfl ?_
  rw [f_X7_type] at hf
  refine aw_iload_n 1 dX7_type_0 rfl ?_
  refine aw_iconst (v := 0) dX7_type_1 rfl ?_
  refine aw_bipush (v := 127) dX7_type_2 rfl ?_
  refine aw_cS_i (st := []) [.int a1, .int 0, .int 127] wS_RX7_90 (fun xr er => c_X7_within g h a1 0 127 xr er) dX7_type_4 rfl rfl (Nat.le_of_ble_eq_true rfl) (Nat.le_of_ble_eq_true rfl) (Nat.le_of_ble_eq_true rfl) (Nat.le_of_ble_eq_true rfl) hf (fun x1 hf => ?_)
  refine aw_if_ne (tgt := 15) dX7_type_7 rfl (fun hc => ?_) (fun hc => ?_)
  · have hf := itn0 hc hf
    refine aw_aload_n 0 dX7_type_15 rfl ?_
    refine aw_gI fl_RX7_70 dX7_type_16 hf (fun x2 hf => ?_)
    refine aw_sipush (v := 150) dX7_type_19 rfl ?_
    refine aw_icmp_lt (tgt := 30) dX7_type_22 rfl (fun hc => ?_) (fun hc => ?_)
    · have hf := itp0 hc hf
      refine aw_aload_n 0 dX7_type_30 rfl ?_
      refine aw_gR fl_RX7_66 dX7_type_31 hf (fun x3 hf => ?_)
      refine aw_aload_n 0 dX7_type_34 rfl ?_
      refine aw_gI fl_RX7_70 dX7_type_35 hf (fun x4 hf => ?_)
      refine aw_iload_n 1 dX7_type_38 rfl ?_
      refine aw_i2b dX7_type_39 ?_
      refine aw_stB dX7_type_40 hf (fun h5 hf => ?_)
      refine aw_aload_n 0 dX7_type_41 rfl ?_
      refine aw_dup dX7_type_42 rfl ?_
      refine aw_gI fl_RX7_70 dX7_type_43 hf (fun x6 hf => ?_)
      refine aw_iconst (v := 1) dX7_type_46 rfl ?_
      refine aw_iadd dX7_type_47 ?_
      refine aw_pI fp_RX7_70 dX7_type_48 hf (fun h7 hf => ?_)
      refine aw_aload_n 0 dX7_type_51 rfl ?_
      refine aw_gI fl_RX7_70 dX7_type_52 hf (fun x8 hf => ?_)
      obtain ⟨rfl, rfl⟩ := so2 hf
      exact aw_iret dX7_type_55 rfl rfl
    · have hf := itn0 hc hf
      refine aw_aload_n 0 dX7_type_25 rfl ?_
      refine aw_cV_wi (st := []) [] wV_RX7_127 (ci := 7) rfl (fun xr hr er => c_X7_refuseFull g h a0 xr hr er) dX7_type_26 rfl rfl (Nat.le_of_ble_eq_true rfl) (Nat.le_of_ble_eq_true rfl) (Nat.le_of_ble_eq_true rfl) (Nat.le_of_ble_eq_true rfl) hf (fun x9 h10 hf => ?_)
      obtain ⟨rfl, rfl⟩ := so2 hf
      exact aw_iret dX7_type_29 rfl rfl
  · have hf := itp0 hc hf
    refine aw_aload_n 0 dX7_type_10 rfl ?_
    refine aw_cV_wi (st := []) [] wV_RX7_94 (ci := 7) rfl (fun xr hr er => c_X7_refuseBad g h a0 xr hr er) dX7_type_11 rfl rfl (Nat.le_of_ble_eq_true rfl) (Nat.le_of_ble_eq_true rfl) (Nat.le_of_ble_eq_true rfl) (Nat.le_of_ble_eq_true rfl) hf (fun x11 h12 hf => ?_)
    obtain ⟨rfl, rfl⟩ := so2 hf
    exact aw_iret dX7_type_14 rfl rfl
set_option maxRecDepth 100000 in
set_option maxHeartbeats 4000000 in
theorem c_X7_clear (g : Gx) (h : Hea) (a0 : Nat) (o : Int32) (hz : Hea) (hf : f_X7_clear h a0 = some (o, hz)) : MC g yX7_clear cX7_clear 2 (some .int) 0 0 0 [.ref a0] h (some (.int o), hz) := by
  refine MC_of (own := RX7) (nm := "clear") [(0, .ref a0)] rfl rfl pn_RX7 (Nat.le_of_ble_eq_true rfl) rfl ?_
  rw [f_X7_clear] at hf
  refine aw_aload_n 0 dX7_clear_0 rfl ?_
  refine aw_gI fl_RX7_70 dX7_clear_1 hf (fun x1 hf => ?_)
  refine aw_istore_n [(1, .int x1), (0, .ref a0)] dX7_clear_4 (Nat.le_of_ble_eq_true rfl) rfl ?_
  refine aw_aload_n 1 dX7_clear_5 rfl ?_
  refine aw_iconst (v := 0) dX7_clear_6 rfl ?_
  refine aw_pI fp_RX7_70 dX7_clear_7 hf (fun h2 hf => ?_)
  refine aw_iload_n 0 dX7_clear_10 rfl ?_
  obtain ⟨rfl, rfl⟩ := so2 hf
  exact aw_iret dX7_clear_11 rfl rfl
set_option maxRecDepth 100000 in
set_option maxHeartbeats 4000000 in
theorem c_X4_isLetter (g : Gx) (h : Hea) (a0 : Int32) (o : Int32) (hf : f_X4_isLetter a0 = some o) : MC g yX4_isLetter cX4_isLetter 1 (some .boolean) 0 0 0 [.int a0] h (some (.int o), h) := by
  refine MC_of (own := RX4) (nm := "isLetter") [(0, .int a0)] rfl rfl pn_RX4 (Nat.le_of_ble_eq_true rfl) rfl ?_
  rw [f_X4_isLetter] at hf
  refine aw_iload_n 0 dX4_isLetter_0 rfl ?_
  refine aw_bipush (v := 97) dX4_isLetter_1 rfl ?_
  refine reg1 (fun (v1 : Int32) => AW g RX4 cX4_isLetter (1, some .boolean, "isLetter", 0, 0, 0) (some (.int o), h) 17 [] [.int v1] h 0 0) hf (fun v1 hf => ?_) (fun v1 hf hJ17 => ?_)
  · exact aw_zretb dX4_isLetter_17 rfl hf rfl
  · refine aw_icmp_lt (tgt := 16) dX4_isLetter_3 rfl (fun hc => ?_) (fun hc => ?_)
    · have hf := itp0 hc hf
      refine aw_iconst (v := 0) dX4_isLetter_16 rfl ?_
      obtain rfl := so1 hf
      exact aw_pick [] rfl hJ17
    · have hf := itn0 hc hf
      refine aw_iload_n 0 dX4_isLetter_6 rfl ?_
      refine aw_bipush (v := 122) dX4_isLetter_7 rfl ?_
      refine aw_icmp_gt (tgt := 16) dX4_isLetter_9 rfl (fun hc => ?_) (fun hc => ?_)
      · have hf := itp0 hc hf
        refine aw_iconst (v := 0) dX4_isLetter_16 rfl ?_
        obtain rfl := so1 hf
        exact aw_pick [] rfl hJ17
      · have hf := itn0 hc hf
        refine aw_iconst (v := 1) dX4_isLetter_12 rfl ?_
        refine aw_goto (tgt := 17) dX4_isLetter_13 rfl ?_
        obtain rfl := so1 hf
        exact aw_pick [] rfl hJ17
set_option maxRecDepth 100000 in
set_option maxHeartbeats 4000000 in
theorem c_X4_isFigure (g : Gx) (h : Hea) (a0 : Int32) (o : Int32) (hf : f_X4_isFigure a0 = some o) : MC g yX4_isFigure cX4_isFigure 1 (some .boolean) 0 0 0 [.int a0] h (some (.int o), h) := by
  refine MC_of (own := RX4) (nm := "isFigure") [(0, .int a0)] rfl rfl pn_RX4 (Nat.le_of_ble_eq_true rfl) rfl ?_
  rw [f_X4_isFigure] at hf
  refine aw_iload_n 0 dX4_isFigure_0 rfl ?_
  refine aw_bipush (v := 48) dX4_isFigure_1 rfl ?_
  refine reg1 (fun (v1 : Int32) => AW g RX4 cX4_isFigure (1, some .boolean, "isFigure", 0, 0, 0) (some (.int o), h) 17 [] [.int v1] h 0 0) hf (fun v1 hf => ?_) (fun v1 hf hJ17 => ?_)
  · exact aw_zretb dX4_isFigure_17 rfl hf rfl
  · refine aw_icmp_lt (tgt := 16) dX4_isFigure_3 rfl (fun hc => ?_) (fun hc => ?_)
    · have hf := itp0 hc hf
      refine aw_iconst (v := 0) dX4_isFigure_16 rfl ?_
      obtain rfl := so1 hf
      exact aw_pick [] rfl hJ17
    · have hf := itn0 hc hf
      refine aw_iload_n 0 dX4_isFigure_6 rfl ?_
      refine aw_bipush (v := 57) dX4_isFigure_7 rfl ?_
      refine aw_icmp_gt (tgt := 16) dX4_isFigure_9 rfl (fun hc => ?_) (fun hc => ?_)
      · have hf := itp0 hc hf
        refine aw_iconst (v := 0) dX4_isFigure_16 rfl ?_
        obtain rfl := so1 hf
        exact aw_pick [] rfl hJ17
      · have hf := itn0 hc hf
        refine aw_iconst (v := 1) dX4_isFigure_12 rfl ?_
        refine aw_goto (tgt := 17) dX4_isFigure_13 rfl ?_
        obtain rfl := so1 hf
        exact aw_pick [] rfl hJ17
set_option maxRecDepth 100000 in
set_option maxHeartbeats 4000000 in
theorem l_X4_advance_0 (g : Gx) {res : Option Value × Hea} : ∀ (n : Nat) (h : Hea) (y0 : Nat) (ho : Hea) (hf : f_X4_advance_0 n h y0 = some ho) (kk : AW g RX4 cX4_advance (1, none, "advance", 1, 0, 0) res 38 [(0, .ref y0)] [] ho 0 0), AW g RX4 cX4_advance (1, none, "advance", 1, 0, 0) res 0 [(0, .ref y0)] [] h 0 0 := by
  intro n
  induction n with
  | zero =>
    intro h y0 ho hf kk
    rw [f_X4_advance_0] at hf
    cases hf
  | succ n ih =>
    intro h y0 ho hf kk
    rw [f_X4_advance_0] at hf
    refine aw_aload_n 0 dX4_advance_0 rfl ?_
    refine aw_gI fl_RX4_19 dX4_advance_1 hf (fun x1 hf => ?_)
    refine aw_aload_n 0 dX4_advance_4 rfl ?_
    refine aw_gI fl_RX4_15 dX4_advance_5 hf (fun x2 hf => ?_)
    refine aw_icmp_ge (tgt := 38) dX4_advance_8 rfl (fun hc => ?_) (fun hc => ?_)
    · have hf := itp0 hc hf
      obtain rfl := so1 hf
      exact aw_pick [0] rfl kk
    · have hf := itn0 hc hf
      refine aw_aload_n 0 dX4_advance_11 rfl ?_
      refine aw_gR fl_RX4_9 dX4_advance_12 hf (fun x3 hf => ?_)
      refine aw_aload_n 0 dX4_advance_15 rfl ?_
      refine aw_gI fl_RX4_19 dX4_advance_16 hf (fun x4 hf => ?_)
      refine aw_ldB dX4_advance_19 hf (fun x5 hf => ?_)
      refine aw_bipush (v := 32) dX4_advance_20 rfl ?_
      refine aw_icmp_ne (tgt := 38) dX4_advance_22 rfl (fun hc => ?_) (fun hc => ?_)
      · have hf := itn0 hc hf
        obtain rfl := so1 hf
        exact aw_pick [0] rfl kk
      · have hf := itp0 hc hf
        refine aw_aload_n 0 dX4_advance_25 rfl ?_
        refine aw_dup dX4_advance_26 rfl ?_
        refine aw_gI fl_RX4_19 dX4_advance_27 hf (fun x6 hf => ?_)
        refine aw_iconst (v := 1) dX4_advance_30 rfl ?_
        refine aw_iadd dX4_advance_31 ?_
        refine aw_pI fp_RX4_19 dX4_advance_32 hf (fun h7 hf => ?_)
        refine aw_goto (tgt := 0) dX4_advance_35 rfl ?_
        refine aw_pick [0] rfl ?_
        exact ih h7 y0 ho hf kk
set_option maxRecDepth 100000 in
set_option maxHeartbeats 4000000 in
theorem l_X4_advance_144 (g : Gx) {res : Option Value × Hea} : ∀ (n : Nat) (h : Hea) (y0 : Nat) (ho : Hea) (hf : f_X4_advance_144 n h y0 = some ho) (kk : AW g RX4 cX4_advance (1, none, "advance", 1, 0, 0) res 207 [(0, .ref y0)] [] ho 0 0), AW g RX4 cX4_advance (1, none, "advance", 1, 0, 0) res 144 [(0, .ref y0)] [] h 0 0 := by
  intro n
  induction n with
  | zero =>
    intro h y0 ho hf kk
    rw [f_X4_advance_144] at hf
    cases hf
  | succ n ih =>
    intro h y0 ho hf kk
    rw [f_X4_advance_144] at hf
    refine aw_aload_n 0 dX4_advance_144 rfl ?_
    refine aw_gI fl_RX4_19 dX4_advance_145 hf (fun x1 hf => ?_)
    refine aw_aload_n 0 dX4_advance_148 rfl ?_
    refine aw_gI fl_RX4_15 dX4_advance_149 hf (fun x2 hf => ?_)
    refine aw_icmp_ge (tgt := 207) dX4_advance_152 rfl (fun hc => ?_) (fun hc => ?_)
    · have hf := itp0 hc hf
      obtain rfl := so1 hf
      exact aw_pick [0] rfl kk
    · have hf := itn0 hc hf
      refine aw_aload_n 0 dX4_advance_155 rfl ?_
      refine aw_gR fl_RX4_9 dX4_advance_156 hf (fun x3 hf => ?_)
      refine aw_aload_n 0 dX4_advance_159 rfl ?_
      refine aw_gI fl_RX4_19 dX4_advance_160 hf (fun x4 hf => ?_)
      refine aw_ldB dX4_advance_163 hf (fun x5 hf => ?_)
      refine aw_cS_i (st := []) [.int x5] wS_RX4_134 (fun xr er => c_X4_isFigure g h x5 xr er) dX4_advance_164 rfl rfl (Nat.le_of_ble_eq_true rfl) (Nat.le_of_ble_eq_true rfl) (Nat.le_of_ble_eq_true rfl) (Nat.le_of_ble_eq_true rfl) hf (fun x6 hf => ?_)
      refine aw_if_eq (tgt := 207) dX4_advance_167 rfl (fun hc => ?_) (fun hc => ?_)
      · have hf := itp0 hc hf
        obtain rfl := so1 hf
        exact aw_pick [0] rfl kk
      · have hf := itn0 hc hf
        refine aw_aload_n 0 dX4_advance_170 rfl ?_
        refine aw_aload_n 0 dX4_advance_171 rfl ?_
        refine aw_gI fl_RX4_28 dX4_advance_172 hf (fun x7 hf => ?_)
        refine aw_bipush (v := 10) dX4_advance_175 rfl ?_
        refine aw_imul dX4_advance_177 ?_
        refine aw_aload_n 0 dX4_advance_178 rfl ?_
        refine aw_gR fl_RX4_9 dX4_advance_179 hf (fun x8 hf => ?_)
        refine aw_aload_n 0 dX4_advance_182 rfl ?_
        refine aw_gI fl_RX4_19 dX4_advance_183 hf (fun x9 hf => ?_)
        refine aw_ldB dX4_advance_186 hf (fun x10 hf => ?_)
        refine aw_bipush (v := 48) dX4_advance_187 rfl ?_
        refine aw_isub dX4_advance_189 ?_
        refine aw_iadd dX4_advance_190 ?_
        refine aw_pI fp_RX4_28 dX4_advance_191 hf (fun h11 hf => ?_)
        refine aw_aload_n 0 dX4_advance_194 rfl ?_
        refine aw_dup dX4_advance_195 rfl ?_
        refine aw_gI fl_RX4_19 dX4_advance_196 hf (fun x12 hf => ?_)
        refine aw_iconst (v := 1) dX4_advance_199 rfl ?_
        refine aw_iadd dX4_advance_200 ?_
        refine aw_pI fp_RX4_19 dX4_advance_201 hf (fun h13 hf => ?_)
        refine aw_goto (tgt := 144) dX4_advance_204 rfl ?_
        refine aw_pick [0] rfl ?_
        exact ih h13 y0 ho hf kk
set_option maxRecDepth 100000 in
set_option maxHeartbeats 4000000 in
theorem l_X4_advance_85 (g : Gx) {res : Option Value × Hea} : ∀ (n : Nat) (h : Hea) (y0 : Nat) (ho : Hea) (hf : f_X4_advance_85 n h y0 = some ho) (kk : AW g RX4 cX4_advance (1, none, "advance", 1, 0, 0) res 265 [] [] ho 0 0), AW g RX4 cX4_advance (1, none, "advance", 1, 0, 0) res 85 [(0, .ref y0)] [] h 0 0 := by
  intro n
  induction n with
  | zero =>
    intro h y0 ho hf kk
    rw [f_X4_advance_85] at hf
    cases hf
  | succ n ih =>
    intro h y0 ho hf kk
    rw [f_X4_advance_85] at hf
    refine aw_aload_n 0 dX4_advance_85 rfl ?_
    refine aw_gI fl_RX4_19 dX4_advance_86 hf (fun x1 hf => ?_)
    refine aw_aload_n 0 dX4_advance_89 rfl ?_
    refine aw_gI fl_RX4_15 dX4_advance_90 hf (fun x2 hf => ?_)
    refine aw_icmp_ge (tgt := 265) dX4_advance_93 rfl (fun hc => ?_) (fun hc => ?_)
    · have hf := itp0 hc hf
      obtain rfl := so1 hf
      exact aw_pick [] rfl kk
    · have hf := itn0 hc hf
      refine aw_aload_n 0 dX4_advance_96 rfl ?_
      refine aw_gR fl_RX4_9 dX4_advance_97 hf (fun x3 hf => ?_)
      refine aw_aload_n 0 dX4_advance_100 rfl ?_
      refine aw_gI fl_RX4_19 dX4_advance_101 hf (fun x4 hf => ?_)
      refine aw_ldB dX4_advance_104 hf (fun x5 hf => ?_)
      refine aw_cS_i (st := []) [.int x5] wS_RX4_130 (fun xr er => c_X4_isLetter g h x5 xr er) dX4_advance_105 rfl rfl (Nat.le_of_ble_eq_true rfl) (Nat.le_of_ble_eq_true rfl) (Nat.le_of_ble_eq_true rfl) (Nat.le_of_ble_eq_true rfl) hf (fun x6 hf => ?_)
      refine aw_if_eq (tgt := 265) dX4_advance_108 rfl (fun hc => ?_) (fun hc => ?_)
      · have hf := itp0 hc hf
        obtain rfl := so1 hf
        exact aw_pick [] rfl kk
      · have hf := itn0 hc hf
        refine aw_aload_n 0 dX4_advance_111 rfl ?_
        refine aw_dup dX4_advance_112 rfl ?_
        refine aw_gI fl_RX4_19 dX4_advance_113 hf (fun x7 hf => ?_)
        refine aw_iconst (v := 1) dX4_advance_116 rfl ?_
        refine aw_iadd dX4_advance_117 ?_
        refine aw_pI fp_RX4_19 dX4_advance_118 hf (fun h8 hf => ?_)
        refine aw_goto (tgt := 85) dX4_advance_121 rfl ?_
        refine aw_pick [0] rfl ?_
        exact ih h8 y0 ho hf kk
set_option maxRecDepth 100000 in
set_option maxHeartbeats 4000000 in
theorem c_X4_advance (g : Gx) (h : Hea) (a0 : Nat) (o : Hea) (hf : f_X4_advance h a0 = some o) : MC g yX4_advance cX4_advance 1 none 1 0 0 [.ref a0] h (none, o) := by
  refine MC_of (own := RX4) (nm := "advance") [(0, .ref a0)] rfl rfl pn_RX4 (Nat.le_of_ble_eq_true rfl) rfl ?_
  rw [f_X4_advance] at hf
  refine aw_pick [0] rfl ?_
  refine reg1 (fun (h1 : Hea) => AW g RX4 cX4_advance (1, none, "advance", 1, 0, 0) (none, o) 38 [(0, .ref a0)] [] h1 0 0) hf (fun h1 hf => ?_) (fun h1 hf hJ => l_X4_advance_0 g  lots h a0 h1 hf hJ)
  refine aw_aload_n 0 dX4_advance_38 rfl ?_
  refine aw_aload_n 0 dX4_advance_39 rfl ?_
  refine aw_gI fl_RX4_19 dX4_advance_40 hf (fun x2 hf => ?_)
  refine aw_pI fp_RX4_22 dX4_advance_43 hf (fun h3 hf => ?_)
  refine aw_aload_n 0 dX4_advance_46 rfl ?_
  refine aw_gI fl_RX4_19 dX4_advance_47 hf (fun x4 hf => ?_)
  refine aw_aload_n 0 dX4_advance_50 rfl ?_
  refine aw_gI fl_RX4_15 dX4_advance_51 hf (fun x5 hf => ?_)
  refine reg1 (fun (h6 : Hea) => AW g RX4 cX4_advance (1, none, "advance", 1, 0, 0) (none, o) 265 [] [] h6 0 0) hf (fun h6 hf => ?_) (fun h6 hf hJ265 => ?_)
  · obtain rfl := so1 hf
    exact aw_vret dX4_advance_265 rfl rfl
  · refine aw_icmp_lt (tgt := 65) dX4_advance_54 rfl (fun hc => ?_) (fun hc => ?_)
    · have hf := itp0 hc hf
      refine aw_aload_n 0 dX4_advance_65 rfl ?_
      refine aw_gR fl_RX4_9 dX4_advance_66 hf (fun x7 hf => ?_)
      refine aw_aload_n 0 dX4_advance_69 rfl ?_
      refine aw_gI fl_RX4_19 dX4_advance_70 hf (fun x8 hf => ?_)
      refine aw_ldB dX4_advance_73 hf (fun x9 hf => ?_)
      refine aw_cS_i (st := []) [.int x9] wS_RX4_130 (fun xr er => c_X4_isLetter g h3 x9 xr er) dX4_advance_74 rfl rfl (Nat.le_of_ble_eq_true rfl) (Nat.le_of_ble_eq_true rfl) (Nat.le_of_ble_eq_true rfl) (Nat.le_of_ble_eq_true rfl) hf (fun x10 hf => ?_)
      refine aw_if_eq (tgt := 124) dX4_advance_77 rfl (fun hc => ?_) (fun hc => ?_)
      · have hf := itp0 hc hf
        refine aw_aload_n 0 dX4_advance_124 rfl ?_
        refine aw_gR fl_RX4_9 dX4_advance_125 hf (fun x11 hf => ?_)
        refine aw_aload_n 0 dX4_advance_128 rfl ?_
        refine aw_gI fl_RX4_19 dX4_advance_129 hf (fun x12 hf => ?_)
        refine aw_ldB dX4_advance_132 hf (fun x13 hf => ?_)
        refine aw_cS_i (st := []) [.int x13] wS_RX4_134 (fun xr er => c_X4_isFigure g h3 x13 xr er) dX4_advance_133 rfl rfl (Nat.le_of_ble_eq_true rfl) (Nat.le_of_ble_eq_true rfl) (Nat.le_of_ble_eq_true rfl) (Nat.le_of_ble_eq_true rfl) hf (fun x14 hf => ?_)
        refine aw_if_eq (tgt := 232) dX4_advance_136 rfl (fun hc => ?_) (fun hc => ?_)
        · have hf := itp0 hc hf
          refine aw_aload_n 0 dX4_advance_232 rfl ?_
          refine aw_aload_n 0 dX4_advance_233 rfl ?_
          refine aw_gR fl_RX4_9 dX4_advance_234 hf (fun x15 hf => ?_)
          refine aw_aload_n 0 dX4_advance_237 rfl ?_
          refine aw_gI fl_RX4_19 dX4_advance_238 hf (fun x16 hf => ?_)
          refine aw_ldB dX4_advance_241 hf (fun x17 hf => ?_)
          refine aw_bipush (v := 59) dX4_advance_242 rfl ?_
          refine reg1 (fun (v18 : Int32) => AW g RX4 cX4_advance (1, none, "advance", 1, 0, 0) (none, o) 252 [(0, .ref a0)] [.int v18, .ref a0] h3 0 0) hf (fun v18 hf => ?_) (fun v18 hf hJ252 => ?_)
          · refine aw_pI fp_RX4_25 dX4_advance_252 hf (fun h19 hf => ?_)
            refine aw_aload_n 0 dX4_advance_255 rfl ?_
            refine aw_dup dX4_advance_256 rfl ?_
            refine aw_gI fl_RX4_19 dX4_advance_257 hf (fun x20 hf => ?_)
            refine aw_iconst (v := 1) dX4_advance_260 rfl ?_
            refine aw_iadd dX4_advance_261 ?_
            refine aw_pI fp_RX4_19 dX4_advance_262 hf (fun h21 hf => ?_)
            obtain rfl := so1 hf
            exact aw_pick [] rfl hJ265
          · refine aw_icmp_ne (tgt := 251) dX4_advance_244 rfl (fun hc => ?_) (fun hc => ?_)
            · have hf := itn0 hc hf
              refine aw_iconst (v := 4) dX4_advance_251 rfl ?_
              obtain rfl := so1 hf
              exact aw_pick [0] rfl hJ252
            · have hf := itp0 hc hf
              refine aw_iconst (v := 3) dX4_advance_247 rfl ?_
              refine aw_goto (tgt := 252) dX4_advance_248 rfl ?_
              obtain rfl := so1 hf
              exact aw_pick [0] rfl hJ252
        · have hf := itn0 hc hf
          refine aw_aload_n 0 dX4_advance_139 rfl ?_
          refine aw_iconst (v := 0) dX4_advance_140 rfl ?_
          refine aw_pI fp_RX4_28 dX4_advance_141 hf (fun h22 hf => ?_)
          refine aw_pick [0] rfl ?_
          refine reg1 (fun (h23 : Hea) => AW g RX4 cX4_advance (1, none, "advance", 1, 0, 0) (none, o) 207 [(0, .ref a0)] [] h23 0 0) hf (fun h23 hf => ?_) (fun h23 hf hJ => l_X4_advance_144 g  lots h22 a0 h23 hf hJ)
          refine aw_aload_n 0 dX4_advance_207 rfl ?_
          refine aw_aload_n 0 dX4_advance_208 rfl ?_
          refine aw_gI fl_RX4_19 dX4_advance_209 hf (fun x24 hf => ?_)
          refine aw_aload_n 0 dX4_advance_212 rfl ?_
          refine aw_gI fl_RX4_22 dX4_advance_213 hf (fun x25 hf => ?_)
          refine aw_isub dX4_advance_216 ?_
          refine aw_iconst (v := 2) dX4_advance_217 rfl ?_
          refine reg1 (fun (v26 : Int32) => AW g RX4 cX4_advance (1, none, "advance", 1, 0, 0) (none, o) 226 [] [.int v26, .ref a0] h23 0 0) hf (fun v26 hf => ?_) (fun v26 hf hJ226 => ?_)
          · refine aw_pI fp_RX4_25 dX4_advance_226 hf (fun h27 hf => ?_)
            refine aw_goto (tgt := 265) dX4_advance_229 rfl ?_
            obtain rfl := so1 hf
            exact aw_pick [] rfl hJ265
          · refine aw_icmp_gt (tgt := 225) dX4_advance_218 rfl (fun hc => ?_) (fun hc => ?_)
            · have hf := itp0 hc hf
              refine aw_iconst (v := 4) dX4_advance_225 rfl ?_
              obtain rfl := so1 hf
              exact aw_pick [] rfl hJ226
            · have hf := itn0 hc hf
              refine aw_iconst (v := 2) dX4_advance_221 rfl ?_
              refine aw_goto (tgt := 226) dX4_advance_222 rfl ?_
              obtain rfl := so1 hf
              exact aw_pick [] rfl hJ226
      · have hf := itn0 hc hf
        refine aw_aload_n 0 dX4_advance_80 rfl ?_
        refine aw_iconst (v := 1) dX4_advance_81 rfl ?_
        refine aw_pI fp_RX4_25 dX4_advance_82 hf (fun h28 hf => ?_)
        refine aw_pick [0] rfl ?_
        refine reg1 (fun (h29 : Hea) => AW g RX4 cX4_advance (1, none, "advance", 1, 0, 0) (none, o) 265 [] [] h29 0 0) hf (fun h29 hf => ?_) (fun h29 hf hJ => l_X4_advance_85 g  lots h28 a0 h29 hf hJ)
        obtain rfl := so1 hf
        exact aw_pick [] rfl hJ265
    · have hf := itn0 hc hf
      refine aw_aload_n 0 dX4_advance_57 rfl ?_
      refine aw_iconst (v := 0) dX4_advance_58 rfl ?_
      refine aw_pI fp_RX4_25 dX4_advance_59 hf (fun h30 hf => ?_)
      refine aw_goto (tgt := 265) dX4_advance_62 rfl ?_
      obtain rfl := so1 hf
      exact aw_pick [] rfl hJ265
set_option maxRecDepth 100000 in
set_option maxHeartbeats 4000000 in
theorem c_X4_goesOn (g : Gx) (h : Hea) (a0 : Nat) (o : Int32) (hf : f_X4_goesOn h a0 = some o) : MC g yX4_goesOn cX4_goesOn 1 (some .boolean) 0 0 0 [.ref a0] h (some (.int o), h) := by
  refine MC_of (own := RX4) (nm := "goesOn") [(0, .ref a0)] rfl rfl pn_RX4 (Nat.le_of_ble_eq_true rfl) rfl ?_
  rw [f_X4_goesOn] at hf
  refine aw_aload_n 0 dX4_goesOn_0 rfl ?_
  refine aw_gI fl_RX4_31 dX4_goesOn_1 hf (fun x1 hf => ?_)
  refine aw_iconst (v := (-1)) dX4_goesOn_4 rfl ?_
  refine reg1 (fun (v2 : Int32) => AW g RX4 cX4_goesOn (1, some .boolean, "goesOn", 0, 0, 0) (some (.int o), h) 27 [] [.int v2] h 0 0) hf (fun v2 hf => ?_) (fun v2 hf hJ27 => ?_)
  · exact aw_zretb dX4_goesOn_27 rfl hf rfl
  · refine aw_icmp_ne (tgt := 26) dX4_goesOn_5 rfl (fun hc => ?_) (fun hc => ?_)
    · have hf := itn0 hc hf
      refine aw_iconst (v := 0) dX4_goesOn_26 rfl ?_
      obtain rfl := so1 hf
      exact aw_pick [] rfl hJ27
    · have hf := itp0 hc hf
      refine aw_aload_n 0 dX4_goesOn_8 rfl ?_
      refine aw_gI fl_RX4_34 dX4_goesOn_9 hf (fun x3 hf => ?_)
      refine aw_if_eq (tgt := 22) dX4_goesOn_12 rfl (fun hc => ?_) (fun hc => ?_)
      · have hf := itp0 hc hf
        refine aw_iconst (v := 1) dX4_goesOn_22 rfl ?_
        refine aw_goto (tgt := 27) dX4_goesOn_23 rfl ?_
        obtain rfl := so1 hf
        exact aw_pick [] rfl hJ27
      · have hf := itn0 hc hf
        refine aw_aload_n 0 dX4_goesOn_15 rfl ?_
        refine aw_gI fl_RX4_25 dX4_goesOn_16 hf (fun x4 hf => ?_)
        refine aw_if_eq (tgt := 26) dX4_goesOn_19 rfl (fun hc => ?_) (fun hc => ?_)
        · have hf := itp0 hc hf
          refine aw_iconst (v := 0) dX4_goesOn_26 rfl ?_
          obtain rfl := so1 hf
          exact aw_pick [] rfl hJ27
        · have hf := itn0 hc hf
          refine aw_iconst (v := 1) dX4_goesOn_22 rfl ?_
          refine aw_goto (tgt := 27) dX4_goesOn_23 rfl ?_
          obtain rfl := so1 hf
          exact aw_pick [] rfl hJ27
set_option maxRecDepth 100000 in
set_option maxHeartbeats 4000000 in
theorem l_X4_isWord_28 (g : Gx) : ∀ (n : Nat) (h : Hea) (y0 : Nat) (y1 : Nat) (y2 : Int32) (o : Int32) (hf : f_X4_isWord_28 n h y0 y1 y2 = some o), AW g RX4 cX4_isWord (3, some .boolean, "isWord", 4, 0, 0) (some (.int o), h) 28 [(0, .ref y0), (1, .ref (g.2.2.1 y1)), (2, .int y2)] [] h 0 0 := by
  intro n
  induction n with
  | zero =>
    intro h y0 y1 y2 o hf
    rw [f_X4_isWord_28] at hf
    cases hf
  | succ n ih =>
    intro h y0 y1 y2 o hf
    rw [f_X4_isWord_28] at hf
    refine aw_iload_n 2 dX4_isWord_28 rfl ?_
    refine aw_aload_n 1 dX4_isWord_29 rfl ?_
    refine aw_strLen wS_120 dX4_isWord_30 (Nat.le_of_ble_eq_true rfl) (Nat.le_of_ble_eq_true rfl) (Nat.le_of_ble_eq_true rfl) (Nat.le_of_ble_eq_true rfl) hf (fun x1 hf => ?_)
    refine aw_icmp_ge (tgt := 63) dX4_isWord_33 rfl (fun hc => ?_) (fun hc => ?_)
    · have hf := itp0 hc hf
      refine aw_iconst (v := 1) dX4_isWord_63 rfl ?_
      obtain rfl := so1 hf
      exact aw_zret dX4_isWord_64 rfl rfl rfl
    · have hf := itn0 hc hf
      refine aw_aload_n 0 dX4_isWord_36 rfl ?_
      refine aw_gR fl_RX4_9 dX4_isWord_37 hf (fun x2 hf => ?_)
      refine aw_aload_n 0 dX4_isWord_40 rfl ?_
      refine aw_gI fl_RX4_22 dX4_isWord_41 hf (fun x3 hf => ?_)
      refine aw_iload_n 2 dX4_isWord_44 rfl ?_
      refine aw_iadd dX4_isWord_45 ?_
      refine aw_ldB dX4_isWord_46 hf (fun x4 hf => ?_)
      refine aw_aload_n 1 dX4_isWord_47 rfl ?_
      refine aw_iload_n 2 dX4_isWord_48 rfl ?_
      refine aw_strCh wS_126 dX4_isWord_49 (Nat.le_of_ble_eq_true rfl) (Nat.le_of_ble_eq_true rfl) (Nat.le_of_ble_eq_true rfl) (Nat.le_of_ble_eq_true rfl) hf (fun x5 hf => ?_)
      refine aw_icmp_eq (tgt := 57) dX4_isWord_52 rfl (fun hc => ?_) (fun hc => ?_)
      · have hf := itp0 hc hf
        refine aw_iinc (y2 + 1) [(2, .int (y2 + 1)), (0, .ref y0), (1, .ref (g.2.2.1 y1))] 2 dX4_isWord_57 rfl rfl (Nat.le_of_ble_eq_true rfl) rfl ?_
        refine aw_goto (tgt := 28) dX4_isWord_60 rfl ?_
        refine aw_pick [1, 2, 0] rfl ?_
        exact ih h y0 y1 (y2 + 1) o hf
      · have hf := itn0 hc hf
        refine aw_iconst (v := 0) dX4_isWord_55 rfl ?_
        obtain rfl := so1 hf
        exact aw_zret dX4_isWord_56 rfl rfl rfl
set_option maxRecDepth 100000 in
set_option maxHeartbeats 4000000 in
theorem c_X4_isWord (g : Gx) (h : Hea) (a0 : Nat) (a1 : Nat) (o : Int32) (hf : f_X4_isWord h a0 a1 = some o) : MC g yX4_isWord cX4_isWord 3 (some .boolean) 4 0 0 [.ref a0, .ref (g.2.2.1 a1)] h (some (.int o), h) := by
  refine MC_of (own := RX4) (nm := "isWord") [(0, .ref a0), (1, .ref (g.2.2.1 a1))] rfl rfl pn_RX4 (Nat.le_of_ble_eq_true rfl) rfl ?_
  rw [f_X4_isWord] at hf
  refine aw_aload_n 0 dX4_isWord_0 rfl ?_
  refine aw_gI fl_RX4_25 dX4_isWord_1 hf (fun x1 hf => ?_)
  refine aw_iconst (v := 1) dX4_isWord_4 rfl ?_
  refine aw_icmp_ne (tgt := 24) dX4_isWord_5 rfl (fun hc => ?_) (fun hc => ?_)
  · have hf := itn0 hc hf
    refine aw_iconst (v := 0) dX4_isWord_24 rfl ?_
    obtain rfl := so1 hf
    exact aw_zret dX4_isWord_25 rfl rfl rfl
  · have hf := itp0 hc hf
    refine aw_aload_n 0 dX4_isWord_8 rfl ?_
    refine aw_gI fl_RX4_19 dX4_isWord_9 hf (fun x2 hf => ?_)
    refine aw_aload_n 0 dX4_isWord_12 rfl ?_
    refine aw_gI fl_RX4_22 dX4_isWord_13 hf (fun x3 hf => ?_)
    refine aw_isub dX4_isWord_16 ?_
    refine aw_aload_n 1 dX4_isWord_17 rfl ?_
    refine aw_strLen wS_120 dX4_isWord_18 (Nat.le_of_ble_eq_true rfl) (Nat.le_of_ble_eq_true rfl) (Nat.le_of_ble_eq_true rfl) (Nat.le_of_ble_eq_true rfl) hf (fun x4 hf => ?_)
    refine aw_icmp_eq (tgt := 26) dX4_isWord_21 rfl (fun hc => ?_) (fun hc => ?_)
    · have hf := itp0 hc hf
      refine aw_iconst (v := 0) dX4_isWord_26 rfl ?_
      refine aw_istore_n [(2, .int 0), (0, .ref a0), (1, .ref (g.2.2.1 a1))] dX4_isWord_27 (Nat.le_of_ble_eq_true rfl) rfl ?_
      refine aw_pick [1, 2, 0] rfl ?_
      exact l_X4_isWord_28 g lots h a0 a1 0 _ hf
    · have hf := itn0 hc hf
      refine aw_iconst (v := 0) dX4_isWord_24 rfl ?_
      obtain rfl := so1 hf
      exact aw_zret dX4_isWord_25 rfl rfl rfl
set_option maxRecDepth 100000 in
set_option maxHeartbeats 4000000 in
theorem c_X4_number (g : Gx) (h : Hea) (a0 : Nat) (a1 : Int32) (a2 : Int32) (o : Int32) (hz : Hea) (hf : f_X4_number h a0 a1 a2 = some (o, hz)) : MC g yX4_number cX4_number 4 (some .int) 2 0 0 [.ref a0, .int a1, .int a2] h (some (.int o), hz) := by
  refine MC_of (own := RX4) (nm := "number") [(0, .ref a0), (1, .int a1), (2, .int a2)] rfl rfl pn_RX4 (Nat.le_of_ble_eq_true rfl) rfl ?_
  rw [f_X4_number] at hf
  refine aw_aload_n 0 dX4_number_0 rfl ?_
  refine aw_gI fl_RX4_31 dX4_number_1 hf (fun x1 hf => ?_)
  refine aw_iconst (v := (-1)) dX4_number_4 rfl ?_
  refine aw_icmp_eq (tgt := 10) dX4_number_5 rfl (fun hc => ?_) (fun hc => ?_)
  · have hf := itp0 hc hf
    refine aw_aload_n 0 dX4_number_10 rfl ?_
    refine aw_gI fl_RX4_25 dX4_number_11 hf (fun x2 hf => ?_)
    refine aw_iconst (v := 2) dX4_number_14 rfl ?_
    refine aw_icmp_ne (tgt := 30) dX4_number_15 rfl (fun hc => ?_) (fun hc => ?_)
    · have hf := itn0 hc hf
      refine aw_aload_n 0 dX4_number_30 rfl ?_
      refine aw_aload_n 0 dX4_number_31 rfl ?_
      refine aw_gI fl_RX4_22 dX4_number_32 hf (fun x3 hf => ?_)
      refine aw_pI fp_RX4_31 dX4_number_35 hf (fun h4 hf => ?_)
      refine aw_iconst (v := (-1)) dX4_number_38 rfl ?_
      obtain ⟨rfl, rfl⟩ := so2 hf
      exact aw_iret dX4_number_39 rfl rfl
    · have hf := itp0 hc hf
      refine aw_aload_n 0 dX4_number_18 rfl ?_
      refine aw_gI fl_RX4_28 dX4_number_19 hf (fun x5 hf => ?_)
      refine aw_iload_n 1 dX4_number_22 rfl ?_
      refine aw_iload_n 2 dX4_number_23 rfl ?_
      refine aw_cSN_i (st := []) [.int x5, .int a1, .int a2] wSN_RX4_116 ws_X7_within (fun xr er => c_X7_within g h x5 a1 a2 xr er) dX4_number_24 rfl rfl (Nat.le_of_ble_eq_true rfl) (Nat.le_of_ble_eq_true rfl) (Nat.le_of_ble_eq_true rfl) (Nat.le_of_ble_eq_true rfl) hf (fun x6 hf => ?_)
      refine aw_if_ne (tgt := 40) dX4_number_27 rfl (fun hc => ?_) (fun hc => ?_)
      · have hf := itn0 hc hf
        refine aw_aload_n 0 dX4_number_40 rfl ?_
        refine aw_gI fl_RX4_28 dX4_number_41 hf (fun x7 hf => ?_)
        refine aw_istore_n [(3, .int x7), (0, .ref a0), (1, .int a1), (2, .int a2)] dX4_number_44 (Nat.le_of_ble_eq_true rfl) rfl ?_
        refine aw_aload_n 1 dX4_number_45 rfl ?_
        refine aw_cV_v (st := []) [] wV_RX4_43 (ci := 4) rfl (fun hr er => c_X4_advance g h a0 hr er) dX4_number_46 rfl rfl (Nat.le_of_ble_eq_true rfl) (Nat.le_of_ble_eq_true rfl) (Nat.le_of_ble_eq_true rfl) (Nat.le_of_ble_eq_true rfl) hf (fun h8 hf => ?_)
        refine aw_iload_n 0 dX4_number_49 rfl ?_
        obtain ⟨rfl, rfl⟩ := so2 hf
        exact aw_iret dX4_number_50 rfl rfl
      · have hf := itp0 hc hf
        refine aw_aload_n 0 dX4_number_30 rfl ?_
        refine aw_aload_n 0 dX4_number_31 rfl ?_
        refine aw_gI fl_RX4_22 dX4_number_32 hf (fun x9 hf => ?_)
        refine aw_pI fp_RX4_31 dX4_number_35 hf (fun h10 hf => ?_)
        refine aw_iconst (v := (-1)) dX4_number_38 rfl ?_
        obtain ⟨rfl, rfl⟩ := so2 hf
        exact aw_iret dX4_number_39 rfl rfl
  · have hf := itn0 hc hf
    refine aw_iconst (v := (-1)) dX4_number_8 rfl ?_
    obtain ⟨rfl, rfl⟩ := so2 hf
    exact aw_iret dX4_number_9 rfl rfl
set_option maxRecDepth 100000 in
set_option maxHeartbeats 4000000 in
theorem c_X4_takeHouse (g : Gx) (h : Hea) (a0 : Nat) (a1 : Nat) (o : Hea) (hf : f_X4_takeHouse h a0 a1 = some o) : MC g yX4_takeHouse cX4_takeHouse 4 none 5 0 0 [.ref a0, .ref a1] h (none, o) := by
  refine MC_of (own := RX4) (nm := "takeHouse") [(0, .ref a0), (1, .ref a1)] rfl rfl pn_RX4 (Nat.le_of_ble_eq_true rfl) rfl ?_
  rw [f_X4_takeHouse] at hf
  refine aw_aload_n 0 dX4_takeHouse_0 rfl ?_
  refine aw_ldcS (q := g.2.2.1 4) ldS_4 dX4_takeHouse_1 ?_
  refine aw_cV_i (st := []) [.ref (g.2.2.1 4)] wV_RX4_59 (ci := 4) rfl (fun xr er => c_X4_isWord g h a0 4 xr er) dX4_takeHouse_3 rfl rfl (Nat.le_of_ble_eq_true rfl) (Nat.le_of_ble_eq_true rfl) (Nat.le_of_ble_eq_true rfl) (Nat.le_of_ble_eq_true rfl) hf (fun x1 hf => ?_)
  refine aw_if_ne (tgt := 18) dX4_takeHouse_6 rfl (fun hc => ?_) (fun hc => ?_)
  · have hf := itn0 hc hf
    refine aw_aload_n 0 dX4_takeHouse_18 rfl ?_
    refine aw_cV_v (st := []) [] wV_RX4_43 (ci := 4) rfl (fun hr er => c_X4_advance g h a0 hr er) dX4_takeHouse_19 rfl rfl (Nat.le_of_ble_eq_true rfl) (Nat.le_of_ble_eq_true rfl) (Nat.le_of_ble_eq_true rfl) (Nat.le_of_ble_eq_true rfl) hf (fun h2 hf => ?_)
    refine aw_aload_n 0 dX4_takeHouse_22 rfl ?_
    refine aw_iconst (v := 0) dX4_takeHouse_23 rfl ?_
    refine aw_bipush (v := 25) dX4_takeHouse_24 rfl ?_
    refine aw_cV_wi (st := []) [.int 0, .int 25] wV_RX4_91 (ci := 4) rfl (fun xr hr er => c_X4_number g h2 a0 0 25 xr hr er) dX4_takeHouse_26 rfl rfl (Nat.le_of_ble_eq_true rfl) (Nat.le_of_ble_eq_true rfl) (Nat.le_of_ble_eq_true rfl) (Nat.le_of_ble_eq_true rfl) hf (fun x3 h4 hf => ?_)
    refine aw_istore_n [(2, .int x3), (0, .ref a0), (1, .ref a1)] dX4_takeHouse_29 (Nat.le_of_ble_eq_true rfl) rfl ?_
    refine aw_aload_n 1 dX4_takeHouse_30 rfl ?_
    refine aw_iconst (v := 0) dX4_takeHouse_31 rfl ?_
    refine aw_bipush (v := 25) dX4_takeHouse_32 rfl ?_
    refine aw_cV_wi (st := []) [.int 0, .int 25] wV_RX4_91 (ci := 4) rfl (fun xr hr er => c_X4_number g h4 a0 0 25 xr hr er) dX4_takeHouse_34 rfl rfl (Nat.le_of_ble_eq_true rfl) (Nat.le_of_ble_eq_true rfl) (Nat.le_of_ble_eq_true rfl) (Nat.le_of_ble_eq_true rfl) hf (fun x5 h6 hf => ?_)
    refine aw_istore_n [(3, .int x5), (2, .int x3), (0, .ref a0), (1, .ref a1)] dX4_takeHouse_37 (Nat.le_of_ble_eq_true rfl) rfl ?_
    refine aw_aload_n 2 dX4_takeHouse_38 rfl ?_
    refine aw_gI fl_RX4_31 dX4_takeHouse_39 hf (fun x7 hf => ?_)
    refine aw_iconst (v := (-1)) dX4_takeHouse_42 rfl ?_
    refine reg1 (fun (h8 : Hea) => AW g RX4 cX4_takeHouse (4, none, "takeHouse", 5, 0, 0) (none, o) 52 [] [] h8 0 0) hf (fun h8 hf => ?_) (fun h8 hf hJ52 => ?_)
    · obtain rfl := so1 hf
      exact aw_vret dX4_takeHouse_52 rfl rfl
    · refine aw_icmp_ne (tgt := 52) dX4_takeHouse_43 rfl (fun hc => ?_) (fun hc => ?_)
      · have hf := itn0 hc hf
        obtain rfl := so1 hf
        exact aw_pick [] rfl hJ52
      · have hf := itp0 hc hf
        refine aw_aload_n 3 dX4_takeHouse_46 rfl ?_
        refine aw_iload_n 1 dX4_takeHouse_47 rfl ?_
        refine aw_iload_n 0 dX4_takeHouse_48 rfl ?_
        refine aw_cV_v (st := []) [.int x3, .int x5] wV_RX4_94 (ci := 1) rfl (fun hr er => c_X1_restart g h6 a1 x3 x5 hr er) dX4_takeHouse_49 rfl rfl (Nat.le_of_ble_eq_true rfl) (Nat.le_of_ble_eq_true rfl) (Nat.le_of_ble_eq_true rfl) (Nat.le_of_ble_eq_true rfl) hf (fun h9 hf => ?_)
        obtain rfl := so1 hf
        exact aw_pick [] rfl hJ52
  · have hf := itp0 hc hf
    refine aw_aload_n 0 dX4_takeHouse_9 rfl ?_
    refine aw_aload_n 0 dX4_takeHouse_10 rfl ?_
    refine aw_gI fl_RX4_22 dX4_takeHouse_11 hf (fun x10 hf => ?_)
    refine aw_pI fp_RX4_31 dX4_takeHouse_14 hf (fun h11 hf => ?_)
    obtain rfl := so1 hf
    exact aw_vret dX4_takeHouse_17 rfl rfl
