/-! ===== contracts, by program: X8_fraction .. X8_takesFirst ===== -/
set_option maxRecDepth 100000 in
set_option maxHeartbeats 4000000 in
theorem l_X8_fraction_5 (g : Gx) {res : Option Value × Hea} : ∀ (n : Nat) (h : Hea) (y0 : Nat) (y1 : Int32) (y2 : Int32) (y3 : Int32) (y4 : Int32) (o3 : Int32) (hf : f_X8_fraction_5 n h y3 y4 = some o3) (kk : AW g RX8 cX8_fraction (6, none, "fraction", 0, 0, 0) res 26 [(0, .ref y0), (1, .int y1), (2, .int y2), (3, .int o3)] [] h 0 0), AW g RX8 cX8_fraction (6, none, "fraction", 0, 0, 0) res 5 [(0, .ref y0), (1, .int y1), (2, .int y2), (3, .int y3), (4, .int y4)] [] h 0 0 := by
  intro n
  induction n with
  | zero =>
    intro h y0 y1 y2 y3 y4 o3 hf kk
    rw [f_X8_fraction_5] at hf
    cases hf
  | succ n ih =>
    intro h y0 y1 y2 y3 y4 o3 hf kk
    rw [f_X8_fraction_5] at hf
    refine aw_iload 4 dX8_fraction_5 rfl ?_
    refine aw_if_eq (tgt := 26) dX8_fraction_7 rfl (fun hc => ?_) (fun hc => ?_)
    · have hf := itp0 hc hf
      obtain rfl := so1 hf
      exact aw_pick [0, 1, 2, 3] rfl kk
    · have hf := itn0 hc hf
      refine aw_iload_n 3 dX8_fraction_10 rfl ?_
      refine aw_iload 4 dX8_fraction_11 rfl ?_
      refine aw_irem dX8_fraction_13 hf (fun hf => ?_)
      refine aw_istore [(5, .int (y3 - y3 / y4 * y4)), (0, .ref y0), (1, .int y1), (2, .int y2), (3, .int y3), (4, .int y4)] dX8_fraction_14 (Nat.le_of_ble_eq_true rfl) rfl ?_
      refine aw_iload 5 dX8_fraction_16 rfl ?_
      refine aw_istore_n [(3, .int y4), (5, .int (y3 - y3 / y4 * y4)), (0, .ref y0), (1, .int y1), (2, .int y2), (4, .int y4)] dX8_fraction_18 (Nat.le_of_ble_eq_true rfl) rfl ?_
      refine aw_iload 1 dX8_fraction_19 rfl ?_
      refine aw_istore [(4, .int (y3 - y3 / y4 * y4)), (3, .int y4), (5, .int (y3 - y3 / y4 * y4)), (0, .ref y0), (1, .int y1), (2, .int y2)] dX8_fraction_21 (Nat.le_of_ble_eq_true rfl) rfl ?_
      refine aw_goto (tgt := 5) dX8_fraction_23 rfl ?_
      refine aw_pick [3, 4, 5, 1, 0] rfl ?_
      exact ih h y0 y1 y2 y4 (y3 - y3 / y4 * y4) o3 hf kk
set_option maxRecDepth 100000 in
set_option maxHeartbeats 4000000 in
theorem c_X8_fraction (g : Gx) (h : Hea) (a0 : Nat) (a1 : Int32) (a2 : Int32) (o : Hea) (hf : f_X8_fraction h a0 a1 a2 = some o) : MC g yX8_fraction cX8_fraction 6 none 0 0 0 [.ref a0, .int a1, .int a2] h (none, o) := by
  refine MC_of (own := RX8) (nm := "fraction") [(0, .ref a0), (1, .int a1), (2, .int a2)] rfl rfl pn_RX8 (Nat.le_of_ble_eq_true rfl) rfl ?_
  rw [f_X8_fraction] at hf
  refine aw_iload_n 1 dX8_fraction_0 rfl ?_
  refine aw_istore_n [(3, .int a1), (0, .ref a0), (1, .int a1), (2, .int a2)] dX8_fraction_1 (Nat.le_of_ble_eq_true rfl) rfl ?_
  refine aw_iload_n 3 dX8_fraction_2 rfl ?_
  refine aw_istore [(4, .int a2), (3, .int a1), (0, .ref a0), (1, .int a1), (2, .int a2)] dX8_fraction_3 (Nat.le_of_ble_eq_true rfl) rfl ?_
  refine aw_pick [2, 3, 4, 1, 0] rfl ?_
  refine reg1 (fun (v1 : Int32) => AW g RX8 cX8_fraction (6, none, "fraction", 0, 0, 0) (none, o) 26 [(0, .ref a0), (1, .int a1), (2, .int a2), (3, .int v1)] [] h 0 0) hf (fun v1 hf => ?_) (fun v1 hf hJ => l_X8_fraction_5 g  lots h a0 a1 a2 a1 a2 v1 hf hJ)
  refine aw_aload_n 0 dX8_fraction_26 rfl ?_
  refine aw_iload_n 1 dX8_fraction_27 rfl ?_
  refine aw_iload_n 3 dX8_fraction_28 rfl ?_
  refine aw_idiv dX8_fraction_29 hf (fun hf => ?_)
  refine aw_i2l dX8_fraction_30 ?_
  refine aw_pJ fp_RX8_183 dX8_fraction_31 hf (fun h2 hf => ?_)
  refine aw_aload_n 0 dX8_fraction_34 rfl ?_
  refine aw_iload_n 2 dX8_fraction_35 rfl ?_
  refine aw_iload_n 3 dX8_fraction_36 rfl ?_
  refine aw_idiv dX8_fraction_37 hf (fun hf => ?_)
  refine aw_i2l dX8_fraction_38 ?_
  refine aw_pJ fp_RX8_23 dX8_fraction_39 hf (fun h3 hf => ?_)
  obtain rfl := so1 hf
  exact aw_vret dX8_fraction_42 rfl rfl
set_option maxRecDepth 100000 in
set_option maxHeartbeats 4000000 in
theorem l_X8_odds_19 (g : Gx) {res : Option Value × Hea} : ∀ (n : Nat) (h : Hea) (y0 : Nat) (y1 : Int32) (y2 : Int32) (y3 : Int32) (o2 : Int32) (ho : Hea) (hf : f_X8_odds_19 n h y0 y1 y2 y3 = some (o2, ho)) (kk : AW g RX8 cX8_odds (4, some .int, "odds", 5, 0, 0) res 51 [(0, .ref y0), (2, .int o2)] [] ho 0 0), AW g RX8 cX8_odds (4, some .int, "odds", 5, 0, 0) res 19 [(0, .ref y0), (1, .int y1), (2, .int y2), (3, .int y3)] [] h 0 0 := by
  intro n
  induction n with
  | zero =>
    intro h y0 y1 y2 y3 o2 ho hf kk
    rw [f_X8_odds_19] at hf
    cases hf
  | succ n ih =>
    intro h y0 y1 y2 y3 o2 ho hf kk
    rw [f_X8_odds_19] at hf
    refine aw_iload_n 3 dX8_odds_19 rfl ?_
    refine aw_bipush (v := 26) dX8_odds_20 rfl ?_
    refine aw_icmp_ge (tgt := 51) dX8_odds_22 rfl (fun hc => ?_) (fun hc => ?_)
    · have hf := itp0 hc hf
      obtain ⟨rfl, rfl⟩ := so2 hf
      exact aw_pick [0, 2] rfl kk
    · have hf := itn0 hc hf
      refine aw_aload_n 0 dX8_odds_25 rfl ?_
      refine aw_cV_v (st := []) [] wV_RX8_150 (ci := 8) rfl (fun hr er => c_X8_layHand g h y0 hr er) dX8_odds_26 rfl rfl (Nat.le_of_ble_eq_true rfl) (Nat.le_of_ble_eq_true rfl) (Nat.le_of_ble_eq_true rfl) (Nat.le_of_ble_eq_true rfl) hf (fun h1 hf => ?_)
      refine aw_aload_n 0 dX8_odds_29 rfl ?_
      refine aw_iload_n 3 dX8_odds_30 rfl ?_
      refine aw_pI fp_RX8_116 dX8_odds_31 hf (fun h2 hf => ?_)
      refine aw_iload_n 2 dX8_odds_34 rfl ?_
      refine aw_aload_n 0 dX8_odds_35 rfl ?_
      refine aw_cV_wi (st := [.int y2]) [] wV_RX8_162 (ci := 8) rfl (fun xr hr er => c_X8_goTill g h2 y0 xr hr er) dX8_odds_36 rfl rfl (Nat.le_of_ble_eq_true rfl) (Nat.le_of_ble_eq_true rfl) (Nat.le_of_ble_eq_true rfl) (Nat.le_of_ble_eq_true rfl) hf (fun x3 h4 hf => ?_)
      refine aw_iload_n 1 dX8_odds_39 rfl ?_
      refine aw_ishr dX8_odds_40 ?_
      refine aw_iconst (v := 1) dX8_odds_41 rfl ?_
      refine aw_iand dX8_odds_42 ?_
      refine aw_iadd dX8_odds_43 ?_
      refine aw_istore_n [(2, .int (y2 + ((x3 >>> (y1 &&& 31)) &&& 1))), (0, .ref y0), (1, .int y1), (3, .int y3)] dX8_odds_44 (Nat.le_of_ble_eq_true rfl) rfl ?_
      refine aw_iinc (y3 + 1) [(3, .int (y3 + 1)), (2, .int (y2 + ((x3 >>> (y1 &&& 31)) &&& 1))), (0, .ref y0), (1, .int y1)] 3 dX8_odds_45 rfl rfl (Nat.le_of_ble_eq_true rfl) rfl ?_
      refine aw_goto (tgt := 19) dX8_odds_48 rfl ?_
      refine aw_pick [2, 3, 1, 0] rfl ?_
      exact ih h4 y0 y1 (y2 + ((x3 >>> (y1 &&& 31)) &&& 1)) (y3 + 1) o2 ho hf kk
set_option maxRecDepth 100000 in
set_option maxHeartbeats 4000000 in
theorem c_X8_odds (g : Gx) (h : Hea) (a0 : Nat) (a1 : Int32) (o : Int32) (hz : Hea) (hf : f_X8_odds h a0 a1 = some (o, hz)) : MC g yX8_odds cX8_odds 4 (some .int) 5 0 0 [.ref a0, .int a1] h (some (.int o), hz) := by
  refine MC_of (own := RX8) (nm := "odds") [(0, .ref a0), (1, .int a1)] rfl rfl pn_RX8 (Nat.le_of_ble_eq_true rfl) rfl ?_
  rw [f_X8_odds] at hf
  refine aw_aload_n 0 dX8_odds_0 rfl ?_
  refine aw_iload_n 1 dX8_odds_1 rfl ?_
  refine aw_cV_i (st := []) [.int a1] wV_RX8_137 (ci := 8) rfl (fun xr er => c_X8_isHeir g h a0 a1 xr er) dX8_odds_2 rfl rfl (Nat.le_of_ble_eq_true rfl) (Nat.le_of_ble_eq_true rfl) (Nat.le_of_ble_eq_true rfl) (Nat.le_of_ble_eq_true rfl) hf (fun x1 hf => ?_)
  refine aw_if_ne (tgt := 15) dX8_odds_5 rfl (fun hc => ?_) (fun hc => ?_)
  · have hf := itn0 hc hf
    refine aw_iconst (v := 0) dX8_odds_15 rfl ?_
    refine aw_istore_n [(2, .int 0), (0, .ref a0), (1, .int a1)] dX8_odds_16 (Nat.le_of_ble_eq_true rfl) rfl ?_
    refine aw_iconst (v := 1) dX8_odds_17 rfl ?_
    refine aw_istore_n [(3, .int 1), (2, .int 0), (0, .ref a0), (1, .int a1)] dX8_odds_18 (Nat.le_of_ble_eq_true rfl) rfl ?_
    refine aw_pick [2, 3, 1, 0] rfl ?_
    refine reg2 (fun (v2 : Int32) (h3 : Hea) => AW g RX8 cX8_odds (4, some .int, "odds", 5, 0, 0) (some (.int o), hz) 51 [(0, .ref a0), (2, .int v2)] [] h3 0 0) hf (fun v2 h3 hf => ?_) (fun v2 h3 hf hJ => l_X8_odds_19 g  lots h a0 a1 0 1 v2 h3 hf hJ)
    refine aw_aload_n 0 dX8_odds_51 rfl ?_
    refine aw_iload_n 1 dX8_odds_52 rfl ?_
    refine aw_bipush (v := 25) dX8_odds_53 rfl ?_
    refine aw_cV_v (st := []) [.int v2, .int 25] wV_RX8_186 (ci := 8) rfl (fun hr er => c_X8_fraction g h3 a0 v2 25 hr er) dX8_odds_55 rfl rfl (Nat.le_of_ble_eq_true rfl) (Nat.le_of_ble_eq_true rfl) (Nat.le_of_ble_eq_true rfl) (Nat.le_of_ble_eq_true rfl) hf (fun h4 hf => ?_)
    refine aw_iconst (v := 1) dX8_odds_58 rfl ?_
    obtain ⟨rfl, rfl⟩ := so2 hf
    exact aw_iret dX8_odds_59 rfl rfl
  · have hf := itp0 hc hf
    refine aw_aload_n 0 dX8_odds_8 rfl ?_
    refine aw_bipush (v := (-2)) dX8_odds_9 rfl ?_
    refine aw_cV_wi (st := []) [.int (-2)] wV_RX8_86 (ci := 8) rfl (fun xr hr er => c_X8_bad g h a0 (-2) xr hr er) dX8_odds_11 rfl rfl (Nat.le_of_ble_eq_true rfl) (Nat.le_of_ble_eq_true rfl) (Nat.le_of_ble_eq_true rfl) (Nat.le_of_ble_eq_true rfl) hf (fun x5 h6 hf => ?_)
    obtain ⟨rfl, rfl⟩ := so2 hf
    exact aw_iret dX8_odds_14 rfl rfl
set_option maxRecDepth 100000 in
set_option maxHeartbeats 4000000 in
theorem c_X8_seen (g : Gx) (h : Hea) (a0 : Nat) (a1 : Int32) (a2 : Int32) (a3 : Int32) (o : Int32) (hz : Hea) (hf : f_X8_seen h a0 a1 a2 a3 = some (o, hz)) : MC g yX8_seen cX8_seen 5 (some .int) 2 0 0 [.ref a0, .int a1, .int a2, .int a3] h (some (.int o), hz) := by
  refine MC_of (own := RX8) (nm := "seen") [(0, .ref a0), (1, .int a1), (2, .int a2), (3, .int a3)] rfl rfl pn_RX8 (Nat.le_of_ble_eq_true rfl) rfl ?_
  rw [f_X8_seen] at hf
  refine aw_iload_n 1 dX8_seen_0 rfl ?_
  refine aw_cS_i (st := []) [.int a1] wS_RX8_90 (fun xr er => c_X8_isRoom g h a1 xr er) dX8_seen_1 rfl rfl (Nat.le_of_ble_eq_true rfl) (Nat.le_of_ble_eq_true rfl) (Nat.le_of_ble_eq_true rfl) (Nat.le_of_ble_eq_true rfl) hf (fun x1 hf => ?_)
  refine aw_if_eq (tgt := 29) dX8_seen_4 rfl (fun hc => ?_) (fun hc => ?_)
  · have hf := itp0 hc hf
    refine aw_aload_n 0 dX8_seen_29 rfl ?_
    refine aw_bipush (v := (-2)) dX8_seen_30 rfl ?_
    refine aw_cV_wi (st := []) [.int (-2)] wV_RX8_86 (ci := 8) rfl (fun xr hr er => c_X8_bad g h a0 (-2) xr hr er) dX8_seen_32 rfl rfl (Nat.le_of_ble_eq_true rfl) (Nat.le_of_ble_eq_true rfl) (Nat.le_of_ble_eq_true rfl) (Nat.le_of_ble_eq_true rfl) hf (fun x2 h3 hf => ?_)
    obtain ⟨rfl, rfl⟩ := so2 hf
    exact aw_iret dX8_seen_35 rfl rfl
  · have hf := itn0 hc hf
    refine aw_iload_n 2 dX8_seen_7 rfl ?_
    refine aw_i2l dX8_seen_8 ?_
    refine aw_lconst (v := 0) dX8_seen_9 rfl ?_
    refine aw_ldc2 (v := 12) kc_RX8_189 dX8_seen_10 ?_
    refine aw_cS_i (st := []) [.long a2.toInt64, .long 0, .long 12] wS_RX8_78 (fun xr er => c_X8_in g h a2.toInt64 0 12 xr er) dX8_seen_13 rfl rfl (Nat.le_of_ble_eq_true rfl) (Nat.le_of_ble_eq_true rfl) (Nat.le_of_ble_eq_true rfl) (Nat.le_of_ble_eq_true rfl) hf (fun x4 hf => ?_)
    refine aw_if_eq (tgt := 29) dX8_seen_16 rfl (fun hc => ?_) (fun hc => ?_)
    · have hf := itp0 hc hf
      refine aw_aload_n 0 dX8_seen_29 rfl ?_
      refine aw_bipush (v := (-2)) dX8_seen_30 rfl ?_
      refine aw_cV_wi (st := []) [.int (-2)] wV_RX8_86 (ci := 8) rfl (fun xr hr er => c_X8_bad g h a0 (-2) xr hr er) dX8_seen_32 rfl rfl (Nat.le_of_ble_eq_true rfl) (Nat.le_of_ble_eq_true rfl) (Nat.le_of_ble_eq_true rfl) (Nat.le_of_ble_eq_true rfl) hf (fun x5 h6 hf => ?_)
      obtain ⟨rfl, rfl⟩ := so2 hf
      exact aw_iret dX8_seen_35 rfl rfl
    · have hf := itn0 hc hf
      refine aw_iload_n 3 dX8_seen_19 rfl ?_
      refine aw_i2l dX8_seen_20 ?_
      refine aw_lconst (v := 0) dX8_seen_21 rfl ?_
      refine aw_lconst (v := 1) dX8_seen_22 rfl ?_
      refine aw_cS_i (st := []) [.long a3.toInt64, .long 0, .long 1] wS_RX8_78 (fun xr er => c_X8_in g h a3.toInt64 0 1 xr er) dX8_seen_23 rfl rfl (Nat.le_of_ble_eq_true rfl) (Nat.le_of_ble_eq_true rfl) (Nat.le_of_ble_eq_true rfl) (Nat.le_of_ble_eq_true rfl) hf (fun x7 hf => ?_)
      refine aw_if_ne (tgt := 36) dX8_seen_26 rfl (fun hc => ?_) (fun hc => ?_)
      · have hf := itn0 hc hf
        refine aw_aload_n 0 dX8_seen_36 rfl ?_
        refine aw_gR fl_RX8_7 dX8_seen_37 hf (fun x8 hf => ?_)
        refine aw_iconst (v := 5) dX8_seen_40 rfl ?_
        refine aw_ldI dX8_seen_41 hf (fun x9 hf => ?_)
        refine aw_bipush (v := 6) dX8_seen_42 rfl ?_
        refine aw_icmp_ne (tgt := 52) dX8_seen_44 rfl (fun hc => ?_) (fun hc => ?_)
        · have hf := itn0 hc hf
          refine aw_sipush (v := 133) dX8_seen_52 rfl ?_
          refine aw_iconst (v := 3) dX8_seen_55 rfl ?_
          refine aw_aload_n 0 dX8_seen_56 rfl ?_
          refine aw_gR fl_RX8_7 dX8_seen_57 hf (fun x10 hf => ?_)
          refine aw_iconst (v := 5) dX8_seen_60 rfl ?_
          refine aw_ldI dX8_seen_61 hf (fun x11 hf => ?_)
          refine aw_imul dX8_seen_62 ?_
          refine aw_iadd dX8_seen_63 ?_
          refine aw_istore [(4, .int (133 + (3 * x11))), (0, .ref a0), (1, .int a1), (2, .int a2), (3, .int a3)] dX8_seen_64 (Nat.le_of_ble_eq_true rfl) rfl ?_
          refine aw_aload_n 1 dX8_seen_66 rfl ?_
          refine aw_gR fl_RX8_7 dX8_seen_67 hf (fun x12 hf => ?_)
          refine aw_iload 0 dX8_seen_70 rfl ?_
          refine aw_iload_n 2 dX8_seen_72 rfl ?_
          refine aw_stI dX8_seen_73 hf (fun h13 hf => ?_)
          refine aw_aload_n 1 dX8_seen_74 rfl ?_
          refine aw_gR fl_RX8_7 dX8_seen_75 hf (fun x14 hf => ?_)
          refine aw_iload 0 dX8_seen_78 rfl ?_
          refine aw_iconst (v := 1) dX8_seen_80 rfl ?_
          refine aw_iadd dX8_seen_81 ?_
          refine aw_iload_n 3 dX8_seen_82 rfl ?_
          refine aw_stI dX8_seen_83 hf (fun h15 hf => ?_)
          refine aw_aload_n 1 dX8_seen_84 rfl ?_
          refine aw_gR fl_RX8_7 dX8_seen_85 hf (fun x16 hf => ?_)
          refine aw_iload 0 dX8_seen_88 rfl ?_
          refine aw_iconst (v := 2) dX8_seen_90 rfl ?_
          refine aw_iadd dX8_seen_91 ?_
          refine aw_iload_n 4 dX8_seen_92 rfl ?_
          refine aw_stI dX8_seen_93 hf (fun h17 hf => ?_)
          refine aw_aload_n 1 dX8_seen_94 rfl ?_
          refine aw_gR fl_RX8_7 dX8_seen_95 hf (fun x18 hf => ?_)
          refine aw_iconst (v := 5) dX8_seen_98 rfl ?_
          refine aw_dup2 dX8_seen_99 rfl rfl ?_
          refine aw_ldI dX8_seen_100 hf (fun x19 hf => ?_)
          refine aw_iconst (v := 1) dX8_seen_101 rfl ?_
          refine aw_iadd dX8_seen_102 ?_
          refine aw_stI dX8_seen_103 hf (fun h20 hf => ?_)
          refine aw_aload_n 1 dX8_seen_104 rfl ?_
          refine aw_gR fl_RX8_7 dX8_seen_105 hf (fun x21 hf => ?_)
          refine aw_iconst (v := 5) dX8_seen_108 rfl ?_
          refine aw_ldI dX8_seen_109 hf (fun x22 hf => ?_)
          obtain ⟨rfl, rfl⟩ := so2 hf
          exact aw_iret dX8_seen_110 rfl rfl
        · have hf := itp0 hc hf
          refine aw_aload_n 0 dX8_seen_47 rfl ?_
          refine aw_cV_wi (st := []) [] wV_RX8_104 (ci := 8) rfl (fun xr hr er => c_X8_full g h a0 xr hr er) dX8_seen_48 rfl rfl (Nat.le_of_ble_eq_true rfl) (Nat.le_of_ble_eq_true rfl) (Nat.le_of_ble_eq_true rfl) (Nat.le_of_ble_eq_true rfl) hf (fun x23 h24 hf => ?_)
          obtain ⟨rfl, rfl⟩ := so2 hf
          exact aw_iret dX8_seen_51 rfl rfl
      · have hf := itp0 hc hf
        refine aw_aload_n 0 dX8_seen_29 rfl ?_
        refine aw_bipush (v := (-2)) dX8_seen_30 rfl ?_
        refine aw_cV_wi (st := []) [.int (-2)] wV_RX8_86 (ci := 8) rfl (fun xr hr er => c_X8_bad g h a0 (-2) xr hr er) dX8_seen_32 rfl rfl (Nat.le_of_ble_eq_true rfl) (Nat.le_of_ble_eq_true rfl) (Nat.le_of_ble_eq_true rfl) (Nat.le_of_ble_eq_true rfl) hf (fun x25 h26 hf => ?_)
        obtain ⟨rfl, rfl⟩ := so2 hf
        exact aw_iret dX8_seen_35 rfl rfl
set_option maxRecDepth 100000 in
set_option maxHeartbeats 4000000 in
theorem c_X8_forget (g : Gx) (h : Hea) (a0 : Nat) (o : Int32) (hz : Hea) (hf : f_X8_forget h a0 = some (o, hz)) : MC g yX8_forget cX8_forget 2 (some .int) 0 0 0 [.ref a0] h (some (.int o), hz) := by
  refine MC_of (own := RX8) (nm := "forget") [(0, .ref a0)] rfl rfl pn_RX8 (Nat.le_of_ble_eq_true rfl) rfl ?_
  rw [f_X8_forget] at hf
  refine aw_aload_n 0 dX8_forget_0 rfl ?_
  refine aw_gR fl_RX8_7 dX8_forget_1 hf (fun x1 hf => ?_)
  refine aw_iconst (v := 5) dX8_forget_4 rfl ?_
  refine aw_ldI dX8_forget_5 hf (fun x2 hf => ?_)
  refine aw_istore_n [(1, .int x2), (0, .ref a0)] dX8_forget_6 (Nat.le_of_ble_eq_true rfl) rfl ?_
  refine aw_aload_n 1 dX8_forget_7 rfl ?_
  refine aw_gR fl_RX8_7 dX8_forget_8 hf (fun x3 hf => ?_)
  refine aw_iconst (v := 5) dX8_forget_11 rfl ?_
  refine aw_iconst (v := 0) dX8_forget_12 rfl ?_
  refine aw_stI dX8_forget_13 hf (fun h4 hf => ?_)
  refine aw_iload_n 0 dX8_forget_14 rfl ?_
  obtain ⟨rfl, rfl⟩ := so2 hf
  exact aw_iret dX8_forget_15 rfl rfl
set_option maxRecDepth 100000 in
set_option maxHeartbeats 4000000 in
theorem l_X8_mayBe_5 (g : Gx) {res : Option Value × Hea} : ∀ (n : Nat) (h : Hea) (y0 : Nat) (y1 : Int32) (y2 : Int32) (y3 : Int32) (y4 : Int32) (o3 : Int32) (hf : f_X8_mayBe_5 n h y0 y1 y2 y3 y4 = some o3) (kk : AW g RX8 cX8_mayBe (6, some .boolean, "mayBe", 0, 0, 0) res 92 [(3, .int o3)] [] h 0 0), AW g RX8 cX8_mayBe (6, some .boolean, "mayBe", 0, 0, 0) res 5 [(0, .ref y0), (1, .int y1), (2, .int y2), (3, .int y3), (4, .int y4)] [] h 0 0 := by
  intro n
  induction n with
  | zero =>
    intro h y0 y1 y2 y3 y4 o3 hf kk
    rw [f_X8_mayBe_5] at hf
    cases hf
  | succ n ih =>
    intro h y0 y1 y2 y3 y4 o3 hf kk
    rw [f_X8_mayBe_5] at hf
    refine aw_iload 4 dX8_mayBe_5 rfl ?_
    refine aw_aload_n 0 dX8_mayBe_7 rfl ?_
    refine aw_gR fl_RX8_7 dX8_mayBe_8 hf (fun x1 hf => ?_)
    refine aw_iconst (v := 5) dX8_mayBe_11 rfl ?_
    refine aw_ldI dX8_mayBe_12 hf (fun x2 hf => ?_)
    refine aw_icmp_ge (tgt := 92) dX8_mayBe_13 rfl (fun hc => ?_) (fun hc => ?_)
    · have hf := itp0 hc hf
      obtain rfl := so1 hf
      exact aw_pick [3] rfl kk
    · have hf := itn0 hc hf
      refine aw_sipush (v := 133) dX8_mayBe_16 rfl ?_
      refine aw_iconst (v := 3) dX8_mayBe_19 rfl ?_
      refine aw_iload 4 dX8_mayBe_20 rfl ?_
      refine aw_imul dX8_mayBe_22 ?_
      refine aw_iadd dX8_mayBe_23 ?_
      refine aw_istore [(5, .int (133 + (3 * y4))), (0, .ref y0), (1, .int y1), (2, .int y2), (3, .int y3), (4, .int y4)] dX8_mayBe_24 (Nat.le_of_ble_eq_true rfl) rfl ?_
      refine aw_iload_n 4 dX8_mayBe_26 rfl ?_
      refine reg1 (fun (v3 : Int32) => AW g RX8 cX8_mayBe (6, some .boolean, "mayBe", 0, 0, 0) res 85 [(0, .ref y0), (1, .int y1), (2, .int y2), (4, .int y4)] [.int v3] h 0 0) hf (fun v3 hf => ?_) (fun v3 hf hJ85 => ?_)
      · refine aw_istore_n [(3, .int v3), (0, .ref y0), (1, .int y1), (2, .int y2), (4, .int y4)] dX8_mayBe_85 (Nat.le_of_ble_eq_true rfl) rfl ?_
        refine aw_iinc (y4 + 1) [(4, .int (y4 + 1)), (3, .int v3), (0, .ref y0), (1, .int y1), (2, .int y2)] 4 dX8_mayBe_86 rfl rfl (Nat.le_of_ble_eq_true rfl) rfl ?_
        refine aw_goto (tgt := 5) dX8_mayBe_89 rfl ?_
        refine aw_pick [2, 3, 4, 1, 0] rfl ?_
        exact ih h y0 y1 y2 v3 (y4 + 1) o3 hf kk
      · refine aw_if_eq (tgt := 84) dX8_mayBe_27 rfl (fun hc => ?_) (fun hc => ?_)
        · have hf := itp0 hc hf
          refine aw_iconst (v := 0) dX8_mayBe_84 rfl ?_
          obtain rfl := so1 hf
          exact aw_pick [1, 2, 3, 5] rfl hJ85
        · have hf := itn0 hc hf
          refine aw_aload_n 1 dX8_mayBe_30 rfl ?_
          refine aw_gR fl_RX8_7 dX8_mayBe_31 hf (fun x4 hf => ?_)
          refine aw_iload 0 dX8_mayBe_34 rfl ?_
          refine aw_iconst (v := 1) dX8_mayBe_36 rfl ?_
          refine aw_iadd dX8_mayBe_37 ?_
          refine aw_ldI dX8_mayBe_38 hf (fun x5 hf => ?_)
          refine aw_iload_n 3 dX8_mayBe_39 rfl ?_
          refine aw_icmp_ne (tgt := 80) dX8_mayBe_40 rfl (fun hc => ?_) (fun hc => ?_)
          · have hf := itn0 hc hf
            refine aw_iconst (v := 1) dX8_mayBe_80 rfl ?_
            refine aw_goto (tgt := 85) dX8_mayBe_81 rfl ?_
            obtain rfl := so1 hf
            exact aw_pick [1, 2, 3, 5] rfl hJ85
          · have hf := itp0 hc hf
            refine aw_aload_n 1 dX8_mayBe_43 rfl ?_
            refine aw_gR fl_RX8_7 dX8_mayBe_44 hf (fun x6 hf => ?_)
            refine aw_iload 0 dX8_mayBe_47 rfl ?_
            refine aw_ldI dX8_mayBe_49 hf (fun x7 hf => ?_)
            refine aw_iload_n 2 dX8_mayBe_50 rfl ?_
            refine reg1 (fun (v8 : Int32) => AW g RX8 cX8_mayBe (6, some .boolean, "mayBe", 0, 0, 0) res 59 [(0, .ref y0), (1, .int y1), (2, .int y2), (4, .int y4), (5, .int (133 + (3 * y4)))] [.int v8] h 0 0) hf (fun v8 hf => ?_) (fun v8 hf hJ59 => ?_)
            · refine aw_aload_n 0 dX8_mayBe_59 rfl ?_
              refine aw_gR fl_RX8_7 dX8_mayBe_60 hf (fun x9 hf => ?_)
              refine aw_iload 4 dX8_mayBe_63 rfl ?_
              refine aw_iconst (v := 2) dX8_mayBe_65 rfl ?_
              refine aw_iadd dX8_mayBe_66 ?_
              refine aw_ldI dX8_mayBe_67 hf (fun x10 hf => ?_)
              refine aw_iconst (v := 1) dX8_mayBe_68 rfl ?_
              refine reg1 (fun (v11 : Int32) => AW g RX8 cX8_mayBe (6, some .boolean, "mayBe", 0, 0, 0) res 77 [(0, .ref y0), (1, .int y1), (2, .int y2), (4, .int y4)] [.int v11, .int v8] h 0 0) hf (fun v11 hf => ?_) (fun v11 hf hJ77 => ?_)
              · refine aw_icmp_ne (tgt := 84) dX8_mayBe_77 rfl (fun hc => ?_) (fun hc => ?_)
                · have hf := itn0 hc hf
                  refine aw_iconst (v := 0) dX8_mayBe_84 rfl ?_
                  obtain rfl := so1 hf
                  exact aw_pick [0, 1, 2, 3] rfl hJ85
                · have hf := itp0 hc hf
                  refine aw_iconst (v := 1) dX8_mayBe_80 rfl ?_
                  refine aw_goto (tgt := 85) dX8_mayBe_81 rfl ?_
                  obtain rfl := so1 hf
                  exact aw_pick [0, 1, 2, 3] rfl hJ85
              · refine aw_icmp_ne (tgt := 76) dX8_mayBe_69 rfl (fun hc => ?_) (fun hc => ?_)
                · have hf := itn0 hc hf
                  refine aw_iconst (v := 0) dX8_mayBe_76 rfl ?_
                  obtain rfl := so1 hf
                  exact aw_pick [0, 1, 2, 3] rfl hJ77
                · have hf := itp0 hc hf
                  refine aw_iconst (v := 1) dX8_mayBe_72 rfl ?_
                  refine aw_goto (tgt := 77) dX8_mayBe_73 rfl ?_
                  obtain rfl := so1 hf
                  exact aw_pick [0, 1, 2, 3] rfl hJ77
            · refine aw_icmp_ne (tgt := 58) dX8_mayBe_51 rfl (fun hc => ?_) (fun hc => ?_)
              · have hf := itn0 hc hf
                refine aw_iconst (v := 0) dX8_mayBe_58 rfl ?_
                obtain rfl := so1 hf
                exact aw_pick [1, 2, 3, 5, 0] rfl hJ59
              · have hf := itp0 hc hf
                refine aw_iconst (v := 1) dX8_mayBe_54 rfl ?_
                refine aw_goto (tgt := 59) dX8_mayBe_55 rfl ?_
                obtain rfl := so1 hf
                exact aw_pick [1, 2, 3, 5, 0] rfl hJ59
set_option maxRecDepth 100000 in
set_option maxHeartbeats 4000000 in
theorem c_X8_mayBe (g : Gx) (h : Hea) (a0 : Nat) (a1 : Int32) (a2 : Int32) (o : Int32) (hf : f_X8_mayBe h a0 a1 a2 = some o) : MC g yX8_mayBe cX8_mayBe 6 (some .boolean) 0 0 0 [.ref a0, .int a1, .int a2] h (some (.int o), h) := by
  refine MC_of (own := RX8) (nm := "mayBe") [(0, .ref a0), (1, .int a1), (2, .int a2)] rfl rfl pn_RX8 (Nat.le_of_ble_eq_true rfl) rfl ?_
  rw [f_X8_mayBe] at hf
  refine aw_iconst (v := 1) dX8_mayBe_0 rfl ?_
  refine aw_istore_n [(3, .int 1), (0, .ref a0), (1, .int a1), (2, .int a2)] dX8_mayBe_1 (Nat.le_of_ble_eq_true rfl) rfl ?_
  refine aw_iconst (v := 0) dX8_mayBe_2 rfl ?_
  refine aw_istore [(4, .int 0), (3, .int 1), (0, .ref a0), (1, .int a1), (2, .int a2)] dX8_mayBe_3 (Nat.le_of_ble_eq_true rfl) rfl ?_
  refine aw_pick [2, 3, 4, 1, 0] rfl ?_
  refine reg1 (fun (v1 : Int32) => AW g RX8 cX8_mayBe (6, some .boolean, "mayBe", 0, 0, 0) (some (.int o), h) 92 [(3, .int v1)] [] h 0 0) hf (fun v1 hf => ?_) (fun v1 hf hJ => l_X8_mayBe_5 g  lots h a0 a1 a2 1 0 v1 hf hJ)
  refine aw_iload_n 0 dX8_mayBe_92 rfl ?_
  exact aw_zretb dX8_mayBe_93 rfl hf rfl
set_option maxRecDepth 100000 in
set_option maxHeartbeats 4000000 in
theorem c_X8_isStep (g : Gx) (h : Hea) (a0 : Nat) (a1 : Int32) (a2 : Int32) (o : Int32) (hf : f_X8_isStep h a0 a1 a2 = some o) : MC g yX8_isStep cX8_isStep 3 (some .boolean) 1 0 0 [.ref a0, .int a1, .int a2] h (some (.int o), h) := by
  refine MC_of (own := RX8) (nm := "isStep") [(0, .ref a0), (1, .int a1), (2, .int a2)] rfl rfl pn_RX8 (Nat.le_of_ble_eq_true rfl) rfl ?_
  rw [f_X8_isStep] at hf
  refine aw_iload_n 1 dX8_isStep_0 rfl ?_
  refine aw_iload_n 2 dX8_isStep_1 rfl ?_
  refine reg1 (fun (v1 : Int32) => AW g RX8 cX8_isStep (3, some .boolean, "isStep", 1, 0, 0) (some (.int o), h) 19 [] [.int v1] h 0 0) hf (fun v1 hf => ?_) (fun v1 hf hJ19 => ?_)
  · exact aw_zretb dX8_isStep_19 rfl hf rfl
  · refine aw_icmp_eq (tgt := 14) dX8_isStep_2 rfl (fun hc => ?_) (fun hc => ?_)
    · have hf := itp0 hc hf
      refine aw_iconst (v := 1) dX8_isStep_14 rfl ?_
      refine aw_goto (tgt := 19) dX8_isStep_15 rfl ?_
      obtain rfl := so1 hf
      exact aw_pick [] rfl hJ19
    · have hf := itn0 hc hf
      refine aw_aload_n 0 dX8_isStep_5 rfl ?_
      refine aw_iload_n 1 dX8_isStep_6 rfl ?_
      refine aw_iload_n 2 dX8_isStep_7 rfl ?_
      refine aw_cV_i (st := []) [.int a1, .int a2] wV_RX8_96 (ci := 8) rfl (fun xr er => c_X8_creaks g h a0 a1 a2 xr er) dX8_isStep_8 rfl rfl (Nat.le_of_ble_eq_true rfl) (Nat.le_of_ble_eq_true rfl) (Nat.le_of_ble_eq_true rfl) (Nat.le_of_ble_eq_true rfl) hf (fun x2 hf => ?_)
      refine aw_if_le (tgt := 18) dX8_isStep_11 rfl (fun hc => ?_) (fun hc => ?_)
      · have hf := itp0 hc hf
        refine aw_iconst (v := 0) dX8_isStep_18 rfl ?_
        obtain rfl := so1 hf
        exact aw_pick [] rfl hJ19
      · have hf := itn0 hc hf
        refine aw_iconst (v := 1) dX8_isStep_14 rfl ?_
        refine aw_goto (tgt := 19) dX8_isStep_15 rfl ?_
        obtain rfl := so1 hf
        exact aw_pick [] rfl hJ19
set_option maxRecDepth 100000 in
set_option maxHeartbeats 4000000 in
theorem l_X8_layWays_29 (g : Gx) {res : Option Value × Hea} : ∀ (n : Nat) (h : Hea) (y0 : Nat) (y1 : Int32) (y2 : Int32) (y3 : Int64) (y5 : Int32) (o3 : Int64) (hf : f_X8_layWays_29 n h y0 y1 y2 y3 y5 = some o3) (kk : AW g RX8 cX8_layWays (6, none, "layWays", 2, 0, 0) res 77 [(0, .ref y0), (1, .int y1), (2, .int y2), (3, .long o3)] [] h 0 0), AW g RX8 cX8_layWays (6, none, "layWays", 2, 0, 0) res 29 [(0, .ref y0), (1, .int y1), (2, .int y2), (3, .long y3), (5, .int y5)] [] h 0 0 := by
  intro n
  induction n with
  | zero =>
    intro h y0 y1 y2 y3 y5 o3 hf kk
    rw [f_X8_layWays_29] at hf
    cases hf
  | succ n ih =>
    intro h y0 y1 y2 y3 y5 o3 hf kk
    rw [f_X8_layWays_29] at hf
    refine aw_iload 4 dX8_layWays_29 rfl ?_
    refine aw_bipush (v := 8) dX8_layWays_31 rfl ?_
    refine aw_icmp_ge (tgt := 77) dX8_layWays_33 rfl (fun hc => ?_) (fun hc => ?_)
    · have hf := itp0 hc hf
      obtain rfl := so1 hf
      exact aw_pick [0, 1, 2, 3] rfl kk
    · have hf := itn0 hc hf
      refine aw_iload_n 1 dX8_layWays_36 rfl ?_
      refine aw_if_le (tgt := 77) dX8_layWays_37 rfl (fun hc => ?_) (fun hc => ?_)
      · have hf := itp0 hc hf
        obtain rfl := so1 hf
        exact aw_pick [0, 1, 2, 3] rfl kk
      · have hf := itn0 hc hf
        refine aw_lload_n 3 dX8_layWays_40 rfl ?_
        refine aw_aload_n 0 dX8_layWays_41 rfl ?_
        refine aw_iload 4 dX8_layWays_42 rfl ?_
        refine aw_iload_n 2 dX8_layWays_44 rfl ?_
        refine aw_cV_i (st := [.long y3]) [.int y5, .int y2] wV_RX8_191 (ci := 8) rfl (fun xr er => c_X8_isStep g h y0 y5 y2 xr er) dX8_layWays_45 rfl rfl (Nat.le_of_ble_eq_true rfl) (Nat.le_of_ble_eq_true rfl) (Nat.le_of_ble_eq_true rfl) (Nat.le_of_ble_eq_true rfl) hf (fun x1 hf => ?_)
        refine reg1 (fun (v2 : Int64) => AW g RX8 cX8_layWays (6, none, "layWays", 2, 0, 0) res 69 [(0, .ref y0), (1, .int y1), (2, .int y2), (5, .int y5)] [.long v2, .long y3] h 0 0) hf (fun v2 hf => ?_) (fun v2 hf hJ69 => ?_)
        · refine aw_ladd dX8_layWays_69 ?_
          refine aw_lstore_n [(3, .long (y3 + v2)), (0, .ref y0), (1, .int y1), (2, .int y2), (5, .int y5)] dX8_layWays_70 (Nat.le_of_ble_eq_true rfl) rfl ?_
          refine aw_iinc (y5 + 1) [(5, .int (y5 + 1)), (3, .long (y3 + v2)), (0, .ref y0), (1, .int y1), (2, .int y2)] 4 dX8_layWays_71 rfl rfl (Nat.le_of_ble_eq_true rfl) rfl ?_
          refine aw_goto (tgt := 29) dX8_layWays_74 rfl ?_
          refine aw_pick [2, 3, 4, 1, 0] rfl ?_
          exact ih h y0 y1 y2 (y3 + v2) (y5 + 1) o3 hf kk
        · refine aw_if_eq (tgt := 68) dX8_layWays_48 rfl (fun hc => ?_) (fun hc => ?_)
          · have hf := itp0 hc hf
            refine aw_lconst (v := 0) dX8_layWays_68 rfl ?_
            obtain rfl := so1 hf
            exact aw_pick [0, 1, 2, 4] rfl hJ69
          · have hf := itn0 hc hf
            refine aw_aload_n 0 dX8_layWays_51 rfl ?_
            refine aw_gR fl_RX8_54 dX8_layWays_52 hf (fun x3 hf => ?_)
            refine aw_bipush (v := 8) dX8_layWays_55 rfl ?_
            refine aw_iload_n 1 dX8_layWays_57 rfl ?_
            refine aw_iconst (v := 1) dX8_layWays_58 rfl ?_
            refine aw_isub dX8_layWays_59 ?_
            refine aw_imul dX8_layWays_60 ?_
            refine aw_iload 4 dX8_layWays_61 rfl ?_
            refine aw_iadd dX8_layWays_63 ?_
            refine aw_ldJ dX8_layWays_64 hf (fun x4 hf => ?_)
            refine aw_goto (tgt := 69) dX8_layWays_65 rfl ?_
            obtain rfl := so1 hf
            exact aw_pick [0, 1, 2, 4] rfl hJ69
set_option maxRecDepth 100000 in
set_option maxHeartbeats 4000000 in
theorem l_X8_layWays_10 (g : Gx) {res : Option Value × Hea} : ∀ (n : Nat) (h : Hea) (y0 : Nat) (y1 : Int32) (y2 : Int32) (ho : Hea) (hf : f_X8_layWays_10 n h y0 y1 y2 = some ho) (kk : AW g RX8 cX8_layWays (6, none, "layWays", 2, 0, 0) res 108 [(0, .ref y0), (1, .int y1)] [] ho 0 0), AW g RX8 cX8_layWays (6, none, "layWays", 2, 0, 0) res 10 [(0, .ref y0), (1, .int y1), (2, .int y2)] [] h 0 0 := by
  intro n
  induction n with
  | zero =>
    intro h y0 y1 y2 ho hf kk
    rw [f_X8_layWays_10] at hf
    cases hf
  | succ n ih =>
    intro h y0 y1 y2 ho hf kk
    rw [f_X8_layWays_10] at hf
    refine aw_iload_n 2 dX8_layWays_10 rfl ?_
    refine aw_bipush (v := 8) dX8_layWays_11 rfl ?_
    refine aw_icmp_ge (tgt := 108) dX8_layWays_13 rfl (fun hc => ?_) (fun hc => ?_)
    · have hf := itp0 hc hf
      obtain rfl := so1 hf
      exact aw_pick [0, 1] rfl kk
    · have hf := itn0 hc hf
      refine aw_iload_n 1 dX8_layWays_16 rfl ?_
      refine reg1 (fun (v1 : Int64) => AW g RX8 cX8_layWays (6, none, "layWays", 2, 0, 0) res 25 [(0, .ref y0), (1, .int y1), (2, .int y2)] [.long v1] h 0 0) hf (fun v1 hf => ?_) (fun v1 hf hJ25 => ?_)
      · refine aw_lstore_n [(3, .long v1), (0, .ref y0), (1, .int y1), (2, .int y2)] dX8_layWays_25 (Nat.le_of_ble_eq_true rfl) rfl ?_
        refine aw_iconst (v := 0) dX8_layWays_26 rfl ?_
        refine aw_istore [(5, .int 0), (3, .long v1), (0, .ref y0), (1, .int y1), (2, .int y2)] dX8_layWays_27 (Nat.le_of_ble_eq_true rfl) rfl ?_
        refine aw_pick [2, 3, 4, 1, 0] rfl ?_
        refine reg1 (fun (v2 : Int64) => AW g RX8 cX8_layWays (6, none, "layWays", 2, 0, 0) res 77 [(0, .ref y0), (1, .int y1), (2, .int y2), (3, .long v2)] [] h 0 0) hf (fun v2 hf => ?_) (fun v2 hf hJ => l_X8_layWays_29 g  lots h y0 y1 y2 v1 0 v2 hf hJ)
        refine aw_aload_n 0 dX8_layWays_77 rfl ?_
        refine aw_gR fl_RX8_54 dX8_layWays_78 hf (fun x3 hf => ?_)
        refine aw_bipush (v := 8) dX8_layWays_81 rfl ?_
        refine aw_iload_n 1 dX8_layWays_83 rfl ?_
        refine aw_imul dX8_layWays_84 ?_
        refine aw_iload_n 2 dX8_layWays_85 rfl ?_
        refine aw_iadd dX8_layWays_86 ?_
        refine aw_aload_n 0 dX8_layWays_87 rfl ?_
        refine aw_iload_n 2 dX8_layWays_88 rfl ?_
        refine aw_iload_n 1 dX8_layWays_89 rfl ?_
        refine aw_cV_i (st := [.int ((8 * y1) + y2), .ref x3]) [.int y2, .int y1] wV_RX8_195 (ci := 8) rfl (fun xr er => c_X8_mayBe g h y0 y2 y1 xr er) dX8_layWays_90 rfl rfl (Nat.le_of_ble_eq_true rfl) (Nat.le_of_ble_eq_true rfl) (Nat.le_of_ble_eq_true rfl) (Nat.le_of_ble_eq_true rfl) hf (fun x4 hf => ?_)
        refine reg1 (fun (v5 : Int64) => AW g RX8 cX8_layWays (6, none, "layWays", 2, 0, 0) res 101 [(0, .ref y0), (1, .int y1), (2, .int y2)] [.long v5, .int ((8 * y1) + y2), .ref x3] h 0 0) hf (fun v5 hf => ?_) (fun v5 hf hJ101 => ?_)
        · refine aw_stJ dX8_layWays_101 hf (fun h6 hf => ?_)
          refine aw_iinc (y2 + 1) [(2, .int (y2 + 1)), (0, .ref y0), (1, .int y1)] 2 dX8_layWays_102 rfl rfl (Nat.le_of_ble_eq_true rfl) rfl ?_
          refine aw_goto (tgt := 10) dX8_layWays_105 rfl ?_
          refine aw_pick [1, 2, 0] rfl ?_
          exact ih h6 y0 y1 (y2 + 1) ho hf kk
        · refine aw_if_eq (tgt := 100) dX8_layWays_93 rfl (fun hc => ?_) (fun hc => ?_)
          · have hf := itp0 hc hf
            refine aw_lconst (v := 0) dX8_layWays_100 rfl ?_
            obtain rfl := so1 hf
            exact aw_pick [0, 1, 2] rfl hJ101
          · have hf := itn0 hc hf
            refine aw_lload_n 3 dX8_layWays_96 rfl ?_
            refine aw_goto (tgt := 101) dX8_layWays_97 rfl ?_
            obtain rfl := so1 hf
            exact aw_pick [0, 1, 2] rfl hJ101
      · refine aw_if_ne (tgt := 24) dX8_layWays_17 rfl (fun hc => ?_) (fun hc => ?_)
        · have hf := itn0 hc hf
          refine aw_lconst (v := 0) dX8_layWays_24 rfl ?_
          obtain rfl := so1 hf
          exact aw_pick [0, 1, 2] rfl hJ25
        · have hf := itp0 hc hf
          refine aw_lconst (v := 1) dX8_layWays_20 rfl ?_
          refine aw_goto (tgt := 25) dX8_layWays_21 rfl ?_
          obtain rfl := so1 hf
          exact aw_pick [0, 1, 2] rfl hJ25
set_option maxRecDepth 100000 in
set_option maxHeartbeats 4000000 in
theorem l_X8_layWays_2 (g : Gx) {res : Option Value × Hea} : ∀ (n : Nat) (h : Hea) (y0 : Nat) (y1 : Int32) (ho : Hea) (hf : f_X8_layWays_2 n h y0 y1 = some ho) (kk : AW g RX8 cX8_layWays (6, none, "layWays", 2, 0, 0) res 114 [(0, .ref y0)] [] ho 0 0), AW g RX8 cX8_layWays (6, none, "layWays", 2, 0, 0) res 2 [(0, .ref y0), (1, .int y1)] [] h 0 0 := by
  intro n
  induction n with
  | zero =>
    intro h y0 y1 ho hf kk
    rw [f_X8_layWays_2] at hf
    cases hf
  | succ n ih =>
    intro h y0 y1 ho hf kk
    rw [f_X8_layWays_2] at hf
    refine aw_iload_n 1 dX8_layWays_2 rfl ?_
    refine aw_bipush (v := 12) dX8_layWays_3 rfl ?_
    refine aw_icmp_gt (tgt := 114) dX8_layWays_5 rfl (fun hc => ?_) (fun hc => ?_)
    · have hf := itp0 hc hf
      obtain rfl := so1 hf
      exact aw_pick [0] rfl kk
    · have hf := itn0 hc hf
      refine aw_iconst (v := 0) dX8_layWays_8 rfl ?_
      refine aw_istore_n [(2, .int 0), (0, .ref y0), (1, .int y1)] dX8_layWays_9 (Nat.le_of_ble_eq_true rfl) rfl ?_
      refine aw_pick [1, 2, 0] rfl ?_
      refine reg1 (fun (h1 : Hea) => AW g RX8 cX8_layWays (6, none, "layWays", 2, 0, 0) res 108 [(0, .ref y0), (1, .int y1)] [] h1 0 0) hf (fun h1 hf => ?_) (fun h1 hf hJ => l_X8_layWays_10 g  lots h y0 y1 0 h1 hf hJ)
      refine aw_iinc (y1 + 1) [(1, .int (y1 + 1)), (0, .ref y0)] 1 dX8_layWays_108 rfl rfl (Nat.le_of_ble_eq_true rfl) rfl ?_
      refine aw_goto (tgt := 2) dX8_layWays_111 rfl ?_
      refine aw_pick [1, 0] rfl ?_
      exact ih h1 y0 (y1 + 1) ho hf kk
set_option maxRecDepth 100000 in
set_option maxHeartbeats 4000000 in
theorem l_X8_layWays_144 (g : Gx) {res : Option Value × Hea} : ∀ (n : Nat) (h : Hea) (y0 : Nat) (y1 : Int32) (y2 : Int32) (y3 : Int64) (y5 : Int32) (o3 : Int64) (hf : f_X8_layWays_144 n h y0 y1 y2 y3 y5 = some o3) (kk : AW g RX8 cX8_layWays (6, none, "layWays", 2, 0, 0) res 206 [(0, .ref y0), (1, .int y1), (2, .int y2), (3, .long o3)] [] h 0 0), AW g RX8 cX8_layWays (6, none, "layWays", 2, 0, 0) res 144 [(0, .ref y0), (1, .int y1), (2, .int y2), (3, .long y3), (5, .int y5)] [] h 0 0 := by
  intro n
  induction n with
  | zero =>
    intro h y0 y1 y2 y3 y5 o3 hf kk
    rw [f_X8_layWays_144] at hf
    cases hf
  | succ n ih =>
    intro h y0 y1 y2 y3 y5 o3 hf kk
    rw [f_X8_layWays_144] at hf
    refine aw_iload 4 dX8_layWays_144 rfl ?_
    refine aw_bipush (v := 8) dX8_layWays_146 rfl ?_
    refine aw_icmp_ge (tgt := 206) dX8_layWays_148 rfl (fun hc => ?_) (fun hc => ?_)
    · have hf := itp0 hc hf
      obtain rfl := so1 hf
      exact aw_pick [0, 1, 2, 3] rfl kk
    · have hf := itn0 hc hf
      refine aw_iload_n 1 dX8_layWays_151 rfl ?_
      refine aw_bipush (v := 12) dX8_layWays_152 rfl ?_
      refine aw_icmp_ge (tgt := 206) dX8_layWays_154 rfl (fun hc => ?_) (fun hc => ?_)
      · have hf := itp0 hc hf
        obtain rfl := so1 hf
        exact aw_pick [0, 1, 2, 3] rfl kk
      · have hf := itn0 hc hf
        refine aw_lload_n 3 dX8_layWays_157 rfl ?_
        refine aw_aload_n 0 dX8_layWays_158 rfl ?_
        refine aw_iload_n 2 dX8_layWays_159 rfl ?_
        refine aw_iload 4 dX8_layWays_160 rfl ?_
        refine aw_cV_i (st := [.long y3]) [.int y2, .int y5] wV_RX8_191 (ci := 8) rfl (fun xr er => c_X8_isStep g h y0 y2 y5 xr er) dX8_layWays_162 rfl rfl (Nat.le_of_ble_eq_true rfl) (Nat.le_of_ble_eq_true rfl) (Nat.le_of_ble_eq_true rfl) (Nat.le_of_ble_eq_true rfl) hf (fun x1 hf => ?_)
        refine reg1 (fun (v2 : Int64) => AW g RX8 cX8_layWays (6, none, "layWays", 2, 0, 0) res 198 [(0, .ref y0), (1, .int y1), (2, .int y2), (5, .int y5)] [.long v2, .long y3] h 0 0) hf (fun v2 hf => ?_) (fun v2 hf hJ198 => ?_)
        · refine aw_ladd dX8_layWays_198 ?_
          refine aw_lstore_n [(3, .long (y3 + v2)), (0, .ref y0), (1, .int y1), (2, .int y2), (5, .int y5)] dX8_layWays_199 (Nat.le_of_ble_eq_true rfl) rfl ?_
          refine aw_iinc (y5 + 1) [(5, .int (y5 + 1)), (3, .long (y3 + v2)), (0, .ref y0), (1, .int y1), (2, .int y2)] 4 dX8_layWays_200 rfl rfl (Nat.le_of_ble_eq_true rfl) rfl ?_
          refine aw_goto (tgt := 144) dX8_layWays_203 rfl ?_
          refine aw_pick [2, 3, 4, 1, 0] rfl ?_
          exact ih h y0 y1 y2 (y3 + v2) (y5 + 1) o3 hf kk
        · refine aw_if_eq (tgt := 197) dX8_layWays_165 rfl (fun hc => ?_) (fun hc => ?_)
          · have hf := itp0 hc hf
            refine aw_lconst (v := 0) dX8_layWays_197 rfl ?_
            obtain rfl := so1 hf
            exact aw_pick [0, 1, 2, 4] rfl hJ198
          · have hf := itn0 hc hf
            refine aw_aload_n 0 dX8_layWays_168 rfl ?_
            refine aw_iload 4 dX8_layWays_169 rfl ?_
            refine aw_iload_n 1 dX8_layWays_171 rfl ?_
            refine aw_iconst (v := 1) dX8_layWays_172 rfl ?_
            refine aw_iadd dX8_layWays_173 ?_
            refine aw_cV_i (st := [.long y3]) [.int y5, .int (y1 + 1)] wV_RX8_195 (ci := 8) rfl (fun xr er => c_X8_mayBe g h y0 y5 (y1 + 1) xr er) dX8_layWays_174 rfl rfl (Nat.le_of_ble_eq_true rfl) (Nat.le_of_ble_eq_true rfl) (Nat.le_of_ble_eq_true rfl) (Nat.le_of_ble_eq_true rfl) hf (fun x3 hf => ?_)
            refine aw_if_eq (tgt := 197) dX8_layWays_177 rfl (fun hc => ?_) (fun hc => ?_)
            · have hf := itp0 hc hf
              refine aw_lconst (v := 0) dX8_layWays_197 rfl ?_
              obtain rfl := so1 hf
              exact aw_pick [0, 1, 2, 4] rfl hJ198
            · have hf := itn0 hc hf
              refine aw_aload_n 0 dX8_layWays_180 rfl ?_
              refine aw_gR fl_RX8_58 dX8_layWays_181 hf (fun x4 hf => ?_)
              refine aw_bipush (v := 8) dX8_layWays_184 rfl ?_
              refine aw_iload_n 1 dX8_layWays_186 rfl ?_
              refine aw_iconst (v := 1) dX8_layWays_187 rfl ?_
              refine aw_iadd dX8_layWays_188 ?_
              refine aw_imul dX8_layWays_189 ?_
              refine aw_iload 4 dX8_layWays_190 rfl ?_
              refine aw_iadd dX8_layWays_192 ?_
              refine aw_ldJ dX8_layWays_193 hf (fun x5 hf => ?_)
              refine aw_goto (tgt := 198) dX8_layWays_194 rfl ?_
              obtain rfl := so1 hf
              exact aw_pick [0, 1, 2, 4] rfl hJ198
set_option maxRecDepth 100000 in
set_option maxHeartbeats 4000000 in
theorem l_X8_layWays_123 (g : Gx) {res : Option Value × Hea} : ∀ (n : Nat) (h : Hea) (y0 : Nat) (y1 : Int32) (y2 : Int32) (ho : Hea) (hf : f_X8_layWays_123 n h y0 y1 y2 = some ho) (kk : AW g RX8 cX8_layWays (6, none, "layWays", 2, 0, 0) res 224 [(0, .ref y0), (1, .int y1)] [] ho 0 0), AW g RX8 cX8_layWays (6, none, "layWays", 2, 0, 0) res 123 [(0, .ref y0), (1, .int y1), (2, .int y2)] [] h 0 0 := by
  intro n
  induction n with
  | zero =>
    intro h y0 y1 y2 ho hf kk
    rw [f_X8_layWays_123] at hf
    cases hf
  | succ n ih =>
    intro h y0 y1 y2 ho hf kk
    rw [f_X8_layWays_123] at hf
    refine aw_iload_n 2 dX8_layWays_123 rfl ?_
    refine aw_bipush (v := 8) dX8_layWays_124 rfl ?_
    refine aw_icmp_ge (tgt := 224) dX8_layWays_126 rfl (fun hc => ?_) (fun hc => ?_)
    · have hf := itp0 hc hf
      obtain rfl := so1 hf
      exact aw_pick [0, 1] rfl kk
    · have hf := itn0 hc hf
      refine aw_iload_n 1 dX8_layWays_129 rfl ?_
      refine aw_bipush (v := 12) dX8_layWays_130 rfl ?_
      refine reg1 (fun (v1 : Int64) => AW g RX8 cX8_layWays (6, none, "layWays", 2, 0, 0) res 140 [(0, .ref y0), (1, .int y1), (2, .int y2)] [.long v1] h 0 0) hf (fun v1 hf => ?_) (fun v1 hf hJ140 => ?_)
      · refine aw_lstore_n [(3, .long v1), (0, .ref y0), (1, .int y1), (2, .int y2)] dX8_layWays_140 (Nat.le_of_ble_eq_true rfl) rfl ?_
        refine aw_iconst (v := 0) dX8_layWays_141 rfl ?_
        refine aw_istore [(5, .int 0), (3, .long v1), (0, .ref y0), (1, .int y1), (2, .int y2)] dX8_layWays_142 (Nat.le_of_ble_eq_true rfl) rfl ?_
        refine aw_pick [2, 3, 4, 1, 0] rfl ?_
        refine reg1 (fun (v2 : Int64) => AW g RX8 cX8_layWays (6, none, "layWays", 2, 0, 0) res 206 [(0, .ref y0), (1, .int y1), (2, .int y2), (3, .long v2)] [] h 0 0) hf (fun v2 hf => ?_) (fun v2 hf hJ => l_X8_layWays_144 g  lots h y0 y1 y2 v1 0 v2 hf hJ)
        refine aw_aload_n 0 dX8_layWays_206 rfl ?_
        refine aw_gR fl_RX8_58 dX8_layWays_207 hf (fun x3 hf => ?_)
        refine aw_bipush (v := 8) dX8_layWays_210 rfl ?_
        refine aw_iload_n 1 dX8_layWays_212 rfl ?_
        refine aw_imul dX8_layWays_213 ?_
        refine aw_iload_n 2 dX8_layWays_214 rfl ?_
        refine aw_iadd dX8_layWays_215 ?_
        refine aw_lload_n 3 dX8_layWays_216 rfl ?_
        refine aw_stJ dX8_layWays_217 hf (fun h4 hf => ?_)
        refine aw_iinc (y2 + 1) [(2, .int (y2 + 1)), (0, .ref y0), (1, .int y1), (3, .long v2)] 2 dX8_layWays_218 rfl rfl (Nat.le_of_ble_eq_true rfl) rfl ?_
        refine aw_goto (tgt := 123) dX8_layWays_221 rfl ?_
        refine aw_pick [1, 2, 0] rfl ?_
        exact ih h4 y0 y1 (y2 + 1) ho hf kk
      · refine aw_icmp_ne (tgt := 139) dX8_layWays_132 rfl (fun hc => ?_) (fun hc => ?_)
        · have hf := itn0 hc hf
          refine aw_lconst (v := 0) dX8_layWays_139 rfl ?_
          obtain rfl := so1 hf
          exact aw_pick [0, 1, 2] rfl hJ140
        · have hf := itp0 hc hf
          refine aw_lconst (v := 1) dX8_layWays_135 rfl ?_
          refine aw_goto (tgt := 140) dX8_layWays_136 rfl ?_
          obtain rfl := so1 hf
          exact aw_pick [0, 1, 2] rfl hJ140
set_option maxRecDepth 100000 in
set_option maxHeartbeats 4000000 in
theorem l_X8_layWays_117 (g : Gx) {res : Option Value × Hea} : ∀ (n : Nat) (h : Hea) (y0 : Nat) (y1 : Int32) (ho : Hea) (hf : f_X8_layWays_117 n h y0 y1 = some ho) (kk : AW g RX8 cX8_layWays (6, none, "layWays", 2, 0, 0) res 230 [] [] ho 0 0), AW g RX8 cX8_layWays (6, none, "layWays", 2, 0, 0) res 117 [(0, .ref y0), (1, .int y1)] [] h 0 0 := by
  intro n
  induction n with
  | zero =>
    intro h y0 y1 ho hf kk
    rw [f_X8_layWays_117] at hf
    cases hf
  | succ n ih =>
    intro h y0 y1 ho hf kk
    rw [f_X8_layWays_117] at hf
    refine aw_iload_n 1 dX8_layWays_117 rfl ?_
    refine aw_if_lt (tgt := 230) dX8_layWays_118 rfl (fun hc => ?_) (fun hc => ?_)
    · have hf := itp0 hc hf
      obtain rfl := so1 hf
      exact aw_pick [] rfl kk
    · have hf := itn0 hc hf
      refine aw_iconst (v := 0) dX8_layWays_121 rfl ?_
      refine aw_istore_n [(2, .int 0), (0, .ref y0), (1, .int y1)] dX8_layWays_122 (Nat.le_of_ble_eq_true rfl) rfl ?_
      refine aw_pick [1, 2, 0] rfl ?_
      refine reg1 (fun (h1 : Hea) => AW g RX8 cX8_layWays (6, none, "layWays", 2, 0, 0) res 224 [(0, .ref y0), (1, .int y1)] [] h1 0 0) hf (fun h1 hf => ?_) (fun h1 hf hJ => l_X8_layWays_123 g  lots h y0 y1 0 h1 hf hJ)
      refine aw_iinc (y1 + (-1)) [(1, .int (y1 + (-1))), (0, .ref y0)] 1 dX8_layWays_224 rfl rfl (Nat.le_of_ble_eq_true rfl) rfl ?_
      refine aw_goto (tgt := 117) dX8_layWays_227 rfl ?_
      refine aw_pick [1, 0] rfl ?_
      exact ih h1 y0 (y1 + (-1)) ho hf kk
set_option maxRecDepth 100000 in
set_option maxHeartbeats 4000000 in
theorem c_X8_layWays (g : Gx) (h : Hea) (a0 : Nat) (o : Hea) (hf : f_X8_layWays h a0 = some o) : MC g yX8_layWays cX8_layWays 6 none 2 0 0 [.ref a0] h (none, o) := by
  refine MC_of (own := RX8) (nm := "layWays") [(0, .ref a0)] rfl rfl pn_RX8 (Nat.le_of_ble_eq_true rfl) rfl ?_
  rw [f_X8_layWays] at hf
  refine aw_iconst (v := 0) dX8_layWays_0 rfl ?_
  refine aw_istore_n [(1, .int 0), (0, .ref a0)] dX8_layWays_1 (Nat.le_of_ble_eq_true rfl) rfl ?_
  refine aw_pick [1, 0] rfl ?_
  refine reg1 (fun (h1 : Hea) => AW g RX8 cX8_layWays (6, none, "layWays", 2, 0, 0) (none, o) 114 [(0, .ref a0)] [] h1 0 0) hf (fun h1 hf => ?_) (fun h1 hf hJ => l_X8_layWays_2 g  lots h a0 0 h1 hf hJ)
  refine aw_bipush (v := 12) dX8_layWays_114 rfl ?_
  refine aw_istore_n [(1, .int 12), (0, .ref a0)] dX8_layWays_116 (Nat.le_of_ble_eq_true rfl) rfl ?_
  refine aw_pick [1, 0] rfl ?_
  refine reg1 (fun (h2 : Hea) => AW g RX8 cX8_layWays (6, none, "layWays", 2, 0, 0) (none, o) 230 [] [] h2 0 0) hf (fun h2 hf => ?_) (fun h2 hf hJ => l_X8_layWays_117 g  lots h1 a0 12 h2 hf hJ)
  obtain rfl := so1 hf
  exact aw_vret dX8_layWays_230 rfl rfl
set_option maxRecDepth 100000 in
set_option maxHeartbeats 4000000 in
theorem c_X8_waysBy (g : Gx) (h : Hea) (a0 : Nat) (a1 : Int32) (a2 : Int32) (o : Int64) (hf : f_X8_waysBy h a0 a1 a2 = some o) : MC g yX8_waysBy cX8_waysBy 3 (some .long) 0 0 0 [.ref a0, .int a1, .int a2] h (some (.long o), h) := by
  refine MC_of (own := RX8) (nm := "waysBy") [(0, .ref a0), (1, .int a1), (2, .int a2)] rfl rfl pn_RX8 (Nat.le_of_ble_eq_true rfl) rfl ?_
  rw [f_X8_waysBy] at hf
  refine aw_aload_n 0 dX8_waysBy_0 rfl ?_
  refine aw_gR fl_RX8_54 dX8_waysBy_1 hf (fun x1 hf => ?_)
  refine aw_bipush (v := 8) dX8_waysBy_4 rfl ?_
  refine aw_iload_n 1 dX8_waysBy_6 rfl ?_
  refine aw_imul dX8_waysBy_7 ?_
  refine aw_iload_n 2 dX8_waysBy_8 rfl ?_
  refine aw_iadd dX8_waysBy_9 ?_
  refine aw_ldJ dX8_waysBy_10 hf (fun x2 hf => ?_)
  refine aw_aload_n 0 dX8_waysBy_11 rfl ?_
  refine aw_gR fl_RX8_58 dX8_waysBy_12 hf (fun x3 hf => ?_)
  refine aw_bipush (v := 8) dX8_waysBy_15 rfl ?_
  refine aw_iload_n 1 dX8_waysBy_17 rfl ?_
  refine aw_imul dX8_waysBy_18 ?_
  refine aw_iload_n 2 dX8_waysBy_19 rfl ?_
  refine aw_iadd dX8_waysBy_20 ?_
  refine aw_ldJ dX8_waysBy_21 hf (fun x4 hf => ?_)
  refine aw_lmul dX8_waysBy_22 ?_
  obtain rfl := so1 hf
  exact aw_lret dX8_waysBy_23 rfl rfl
set_option maxRecDepth 100000 in
set_option maxHeartbeats 4000000 in
theorem l_X8_allWays_4 (g : Gx) {res : Option Value × Hea} : ∀ (n : Nat) (h : Hea) (y0 : Nat) (y1 : Int64) (y3 : Int32) (o1 : Int64) (hf : f_X8_allWays_4 n h y0 y1 y3 = some o1) (kk : AW g RX8 cX8_allWays (4, some .long, "allWays", 1, 0, 0) res 25 [(1, .long o1)] [] h 0 0), AW g RX8 cX8_allWays (4, some .long, "allWays", 1, 0, 0) res 4 [(0, .ref y0), (1, .long y1), (3, .int y3)] [] h 0 0 := by
  intro n
  induction n with
  | zero =>
    intro h y0 y1 y3 o1 hf kk
    rw [f_X8_allWays_4] at hf
    cases hf
  | succ n ih =>
    intro h y0 y1 y3 o1 hf kk
    rw [f_X8_allWays_4] at hf
    refine aw_iload_n 2 dX8_allWays_4 rfl ?_
    refine aw_bipush (v := 8) dX8_allWays_5 rfl ?_
    refine aw_icmp_ge (tgt := 25) dX8_allWays_7 rfl (fun hc => ?_) (fun hc => ?_)
    · have hf := itp0 hc hf
      obtain rfl := so1 hf
      exact aw_pick [1] rfl kk
    · have hf := itn0 hc hf
      refine aw_lload_n 1 dX8_allWays_10 rfl ?_
      refine aw_aload_n 0 dX8_allWays_11 rfl ?_
      refine aw_iconst (v := 0) dX8_allWays_12 rfl ?_
      refine aw_iload_n 2 dX8_allWays_13 rfl ?_
      refine aw_cV_l (st := [.long y1]) [.int 0, .int y3] wV_RX8_198 (ci := 8) rfl (fun xr er => c_X8_waysBy g h y0 0 y3 xr er) dX8_allWays_14 rfl rfl (Nat.le_of_ble_eq_true rfl) (Nat.le_of_ble_eq_true rfl) (Nat.le_of_ble_eq_true rfl) (Nat.le_of_ble_eq_true rfl) hf (fun x1 hf => ?_)
      refine aw_ladd dX8_allWays_17 ?_
      refine aw_lstore_n [(1, .long (y1 + x1)), (0, .ref y0), (3, .int y3)] dX8_allWays_18 (Nat.le_of_ble_eq_true rfl) rfl ?_
      refine aw_iinc (y3 + 1) [(3, .int (y3 + 1)), (1, .long (y1 + x1)), (0, .ref y0)] 2 dX8_allWays_19 rfl rfl (Nat.le_of_ble_eq_true rfl) rfl ?_
      refine aw_goto (tgt := 4) dX8_allWays_22 rfl ?_
      refine aw_pick [2, 1, 0] rfl ?_
      exact ih h y0 (y1 + x1) (y3 + 1) o1 hf kk
set_option maxRecDepth 100000 in
set_option maxHeartbeats 4000000 in
theorem c_X8_allWays (g : Gx) (h : Hea) (a0 : Nat) (o : Int64) (hf : f_X8_allWays h a0 = some o) : MC g yX8_allWays cX8_allWays 4 (some .long) 1 0 0 [.ref a0] h (some (.long o), h) := by
  refine MC_of (own := RX8) (nm := "allWays") [(0, .ref a0)] rfl rfl pn_RX8 (Nat.le_of_ble_eq_true rfl) rfl ?_
  rw [f_X8_allWays] at hf
  refine aw_lconst (v := 0) dX8_allWays_0 rfl ?_
  refine aw_lstore_n [(1, .long 0), (0, .ref a0)] dX8_allWays_1 (Nat.le_of_ble_eq_true rfl) rfl ?_
  refine aw_iconst (v := 0) dX8_allWays_2 rfl ?_
  refine aw_istore_n [(3, .int 0), (1, .long 0), (0, .ref a0)] dX8_allWays_3 (Nat.le_of_ble_eq_true rfl) rfl ?_
  refine aw_pick [2, 1, 0] rfl ?_
  refine reg1 (fun (v1 : Int64) => AW g RX8 cX8_allWays (4, some .long, "allWays", 1, 0, 0) (some (.long o), h) 25 [(1, .long v1)] [] h 0 0) hf (fun v1 hf => ?_) (fun v1 hf hJ => l_X8_allWays_4 g  lots h a0 0 0 v1 hf hJ)
  refine aw_lload_n 0 dX8_allWays_25 rfl ?_
  obtain rfl := so1 hf
  exact aw_lret dX8_allWays_26 rfl rfl
set_option maxRecDepth 100000 in
set_option maxHeartbeats 4000000 in
theorem l_X8_may_27 (g : Gx) {res : Option Value × Hea} : ∀ (n : Nat) (h : Hea) (y0 : Nat) (y1 : Int32) (y2 : Int32) (y3 : Int32) (o2 : Int32) (hf : f_X8_may_27 n h y0 y1 y2 y3 = some o2) (kk : AW g RX8 cX8_may (4, some .int, "may", 3, 0, 0) res 60 [(2, .int o2)] [] h 0 0), AW g RX8 cX8_may (4, some .int, "may", 3, 0, 0) res 27 [(0, .ref y0), (1, .int y1), (2, .int y2), (3, .int y3)] [] h 0 0 := by
  intro n
  induction n with
  | zero =>
    intro h y0 y1 y2 y3 o2 hf kk
    rw [f_X8_may_27] at hf
    cases hf
  | succ n ih =>
    intro h y0 y1 y2 y3 o2 hf kk
    rw [f_X8_may_27] at hf
    refine aw_iload_n 3 dX8_may_27 rfl ?_
    refine aw_bipush (v := 8) dX8_may_28 rfl ?_
    refine aw_icmp_ge (tgt := 60) dX8_may_30 rfl (fun hc => ?_) (fun hc => ?_)
    · have hf := itp0 hc hf
      obtain rfl := so1 hf
      exact aw_pick [2] rfl kk
    · have hf := itn0 hc hf
      refine aw_iload_n 2 dX8_may_33 rfl ?_
      refine aw_aload_n 0 dX8_may_34 rfl ?_
      refine aw_iload_n 1 dX8_may_35 rfl ?_
      refine aw_iload_n 3 dX8_may_36 rfl ?_
      refine aw_cV_l (st := [.int y2]) [.int y1, .int y3] wV_RX8_198 (ci := 8) rfl (fun xr er => c_X8_waysBy g h y0 y1 y3 xr er) dX8_may_37 rfl rfl (Nat.le_of_ble_eq_true rfl) (Nat.le_of_ble_eq_true rfl) (Nat.le_of_ble_eq_true rfl) (Nat.le_of_ble_eq_true rfl) hf (fun x1 hf => ?_)
      refine aw_lconst (v := 0) dX8_may_40 rfl ?_
      refine aw_lcmp dX8_may_41 ?_
      refine reg1 (fun (v2 : Int32) => AW g RX8 cX8_may (4, some .int, "may", 3, 0, 0) res 52 [(0, .ref y0), (1, .int y1), (3, .int y3)] [.int v2, .int y2] h 0 0) hf (fun v2 hf => ?_) (fun v2 hf hJ52 => ?_)
      · refine aw_ior dX8_may_52 ?_
        refine aw_istore_n [(2, .int (y2 ||| v2)), (0, .ref y0), (1, .int y1), (3, .int y3)] dX8_may_53 (Nat.le_of_ble_eq_true rfl) rfl ?_
        refine aw_iinc (y3 + 1) [(3, .int (y3 + 1)), (2, .int (y2 ||| v2)), (0, .ref y0), (1, .int y1)] 3 dX8_may_54 rfl rfl (Nat.le_of_ble_eq_true rfl) rfl ?_
        refine aw_goto (tgt := 27) dX8_may_57 rfl ?_
        refine aw_pick [2, 3, 1, 0] rfl ?_
        exact ih h y0 y1 (y2 ||| v2) (y3 + 1) o2 hf kk
      · refine aw_if_le (tgt := 51) dX8_may_42 rfl (fun hc => ?_) (fun hc => ?_)
        · have hf := itp0 hc hf
          refine aw_iconst (v := 0) dX8_may_51 rfl ?_
          obtain rfl := so1 hf
          exact aw_pick [0, 1, 3] rfl hJ52
        · have hf := itn0 hc hf
          refine aw_iconst (v := 1) dX8_may_45 rfl ?_
          refine aw_iload_n 3 dX8_may_46 rfl ?_
          refine aw_ishl dX8_may_47 ?_
          refine aw_goto (tgt := 52) dX8_may_48 rfl ?_
          obtain rfl := so1 hf
          exact aw_pick [0, 1, 3] rfl hJ52
set_option maxRecDepth 100000 in
set_option maxHeartbeats 4000000 in
theorem c_X8_may (g : Gx) (h : Hea) (a0 : Nat) (a1 : Int32) (o : Int32) (hz : Hea) (hf : f_X8_may h a0 a1 = some (o, hz)) : MC g yX8_may cX8_may 4 (some .int) 3 0 0 [.ref a0, .int a1] h (some (.int o), hz) := by
  refine MC_of (own := RX8) (nm := "may") [(0, .ref a0), (1, .int a1)] rfl rfl pn_RX8 (Nat.le_of_ble_eq_true rfl) rfl ?_
  rw [f_X8_may] at hf
  refine aw_iload_n 1 dX8_may_0 rfl ?_
  refine aw_i2l dX8_may_1 ?_
  refine aw_lconst (v := 0) dX8_may_2 rfl ?_
  refine aw_ldc2 (v := 12) kc_RX8_189 dX8_may_3 ?_
  refine aw_cS_i (st := []) [.long a1.toInt64, .long 0, .long 12] wS_RX8_78 (fun xr er => c_X8_in g h a1.toInt64 0 12 xr er) dX8_may_6 rfl rfl (Nat.le_of_ble_eq_true rfl) (Nat.le_of_ble_eq_true rfl) (Nat.le_of_ble_eq_true rfl) (Nat.le_of_ble_eq_true rfl) hf (fun x1 hf => ?_)
  refine aw_if_ne (tgt := 19) dX8_may_9 rfl (fun hc => ?_) (fun hc => ?_)
  · have hf := itn0 hc hf
    refine aw_aload_n 0 dX8_may_19 rfl ?_
    refine aw_cV_v (st := []) [] wV_RX8_202 (ci := 8) rfl (fun hr er => c_X8_layWays g h a0 hr er) dX8_may_20 rfl rfl (Nat.le_of_ble_eq_true rfl) (Nat.le_of_ble_eq_true rfl) (Nat.le_of_ble_eq_true rfl) (Nat.le_of_ble_eq_true rfl) hf (fun h2 hf => ?_)
    refine aw_iconst (v := 0) dX8_may_23 rfl ?_
    refine aw_istore_n [(2, .int 0), (0, .ref a0), (1, .int a1)] dX8_may_24 (Nat.le_of_ble_eq_true rfl) rfl ?_
    refine aw_iconst (v := 0) dX8_may_25 rfl ?_
    refine aw_istore_n [(3, .int 0), (2, .int 0), (0, .ref a0), (1, .int a1)] dX8_may_26 (Nat.le_of_ble_eq_true rfl) rfl ?_
    refine aw_pick [2, 3, 1, 0] rfl ?_
    refine reg1 (fun (v3 : Int32) => AW g RX8 cX8_may (4, some .int, "may", 3, 0, 0) (some (.int o), hz) 60 [(2, .int v3)] [] h2 0 0) hf (fun v3 hf => ?_) (fun v3 hf hJ => l_X8_may_27 g  lots h2 a0 a1 0 0 v3 hf hJ)
    refine aw_iload_n 0 dX8_may_60 rfl ?_
    obtain ⟨rfl, rfl⟩ := so2 hf
    exact aw_iret dX8_may_61 rfl rfl
  · have hf := itp0 hc hf
    refine aw_aload_n 0 dX8_may_12 rfl ?_
    refine aw_bipush (v := (-2)) dX8_may_13 rfl ?_
    refine aw_cV_wi (st := []) [.int (-2)] wV_RX8_86 (ci := 8) rfl (fun xr hr er => c_X8_bad g h a0 (-2) xr hr er) dX8_may_15 rfl rfl (Nat.le_of_ble_eq_true rfl) (Nat.le_of_ble_eq_true rfl) (Nat.le_of_ble_eq_true rfl) (Nat.le_of_ble_eq_true rfl) hf (fun x4 h5 hf => ?_)
    obtain ⟨rfl, rfl⟩ := so2 hf
    exact aw_iret dX8_may_18 rfl rfl
set_option maxRecDepth 100000 in
set_option maxHeartbeats 4000000 in
theorem c_X8_ways (g : Gx) (h : Hea) (a0 : Nat) (o : Int64) (hz : Hea) (hf : f_X8_ways h a0 = some (o, hz)) : MC g yX8_ways cX8_ways 1 (some .long) 3 0 0 [.ref a0] h (some (.long o), hz) := by
  refine MC_of (own := RX8) (nm := "ways") [(0, .ref a0)] rfl rfl pn_RX8 (Nat.le_of_ble_eq_true rfl) rfl ?_
  rw [f_X8_ways] at hf
  refine aw_aload_n 0 dX8_ways_0 rfl ?_
  refine aw_cV_v (st := []) [] wV_RX8_202 (ci := 8) rfl (fun hr er => c_X8_layWays g h a0 hr er) dX8_ways_1 rfl rfl (Nat.le_of_ble_eq_true rfl) (Nat.le_of_ble_eq_true rfl) (Nat.le_of_ble_eq_true rfl) (Nat.le_of_ble_eq_true rfl) hf (fun h1 hf => ?_)
  refine aw_aload_n 0 dX8_ways_4 rfl ?_
  refine aw_cV_l (st := []) [] wV_RX8_205 (ci := 8) rfl (fun xr er => c_X8_allWays g h1 a0 xr er) dX8_ways_5 rfl rfl (Nat.le_of_ble_eq_true rfl) (Nat.le_of_ble_eq_true rfl) (Nat.le_of_ble_eq_true rfl) (Nat.le_of_ble_eq_true rfl) hf (fun x2 hf => ?_)
  obtain ⟨rfl, rfl⟩ := so2 hf
  exact aw_lret dX8_ways_8 rfl rfl
set_option maxRecDepth 100000 in
set_option maxHeartbeats 4000000 in
theorem l_X8_peek_37 (g : Gx) {res : Option Value × Hea} : ∀ (n : Nat) (h : Hea) (y0 : Nat) (y1 : Int32) (y2 : Int64) (y4 : Int32) (y5 : Int64) (y7 : Int32) (o4 : Int32) (hf : f_X8_peek_37 n h y0 y1 y2 y4 y5 y7 = some o4) (kk : AW g RX8 cX8_peek (13, some .int, "peek", 3, 0, 0) res 135 [(4, .int o4)] [] h 0 0), AW g RX8 cX8_peek (13, some .int, "peek", 3, 0, 0) res 37 [(0, .ref y0), (1, .int y1), (2, .long y2), (4, .int y4), (5, .long y5), (7, .int y7)] [] h 0 0 := by
  intro n
  induction n with
  | zero =>
    intro h y0 y1 y2 y4 y5 y7 o4 hf kk
    rw [f_X8_peek_37] at hf
    cases hf
  | succ n ih =>
    intro h y0 y1 y2 y4 y5 y7 o4 hf kk
    rw [f_X8_peek_37] at hf
    refine aw_iload 5 dX8_peek_37 rfl ?_
    refine aw_bipush (v := 8) dX8_peek_39 rfl ?_
    refine aw_icmp_ge (tgt := 135) dX8_peek_41 rfl (fun hc => ?_) (fun hc => ?_)
    · have hf := itp0 hc hf
      obtain rfl := so1 hf
      exact aw_pick [3] rfl kk
    · have hf := itn0 hc hf
      refine aw_lload_n 2 dX8_peek_44 rfl ?_
      refine aw_lconst (v := 0) dX8_peek_45 rfl ?_
      refine aw_lcmp dX8_peek_46 ?_
      refine aw_if_le (tgt := 135) dX8_peek_47 rfl (fun hc => ?_) (fun hc => ?_)
      · have hf := itp0 hc hf
        obtain rfl := so1 hf
        exact aw_pick [3] rfl kk
      · have hf := itn0 hc hf
        refine aw_aload_n 0 dX8_peek_50 rfl ?_
        refine aw_iload_n 1 dX8_peek_51 rfl ?_
        refine aw_iload 5 dX8_peek_52 rfl ?_
        refine aw_cV_l (st := []) [.int y1, .int y7] wV_RX8_198 (ci := 8) rfl (fun xr er => c_X8_waysBy g h y0 y1 y7 xr er) dX8_peek_54 rfl rfl (Nat.le_of_ble_eq_true rfl) (Nat.le_of_ble_eq_true rfl) (Nat.le_of_ble_eq_true rfl) (Nat.le_of_ble_eq_true rfl) hf (fun x1 hf => ?_)
        refine aw_lstore [(8, .long x1), (0, .ref y0), (1, .int y1), (2, .long y2), (4, .int y4), (5, .long y5), (7, .int y7)] dX8_peek_57 (Nat.le_of_ble_eq_true rfl) rfl ?_
        refine aw_lload 0 dX8_peek_59 rfl ?_
        refine aw_lload_n 3 dX8_peek_61 rfl ?_
        refine aw_lload 0 dX8_peek_62 rfl ?_
        refine aw_lsub dX8_peek_64 ?_
        refine aw_lcmp dX8_peek_65 ?_
        refine reg1 (fun (v2 : Int64) => AW g RX8 cX8_peek (13, some .int, "peek", 3, 0, 0) res 78 [(0, .ref y0), (1, .int y1), (2, .long y2), (4, .int y4), (5, .long y5), (7, .int y7)] [.long v2] h 0 0) hf (fun v2 hf => ?_) (fun v2 hf hJ78 => ?_)
        · refine aw_lstore [(10, .long v2), (0, .ref y0), (1, .int y1), (2, .long y2), (4, .int y4), (5, .long y5), (7, .int y7)] dX8_peek_78 (Nat.le_of_ble_eq_true rfl) rfl ?_
          refine aw_iload 4 dX8_peek_80 rfl ?_
          refine aw_iconst (v := (-1)) dX8_peek_82 rfl ?_
          refine reg1 (fun (v3 : Int32) => AW g RX8 cX8_peek (13, some .int, "peek", 3, 0, 0) res 99 [(0, .ref y0), (1, .int y1), (2, .long y2), (4, .int y4), (5, .long y5), (7, .int y7), (10, .long v2)] [.int v3] h 0 0) hf (fun v3 hf => ?_) (fun v3 hf hJ99 => ?_)
          · refine aw_istore [(12, .int v3), (0, .ref y0), (1, .int y1), (2, .long y2), (4, .int y4), (5, .long y5), (7, .int y7), (10, .long v2)] dX8_peek_99 (Nat.le_of_ble_eq_true rfl) rfl ?_
            refine aw_iload 0 dX8_peek_101 rfl ?_
            refine reg1 (fun (v4 : Int32) => AW g RX8 cX8_peek (13, some .int, "peek", 3, 0, 0) res 113 [(0, .ref y0), (1, .int y1), (2, .long y2), (5, .long y5), (7, .int y7), (10, .long v2), (12, .int v3)] [.int v4] h 0 0) hf (fun v4 hf => ?_) (fun v4 hf hJ113 => ?_)
            · refine aw_istore [(4, .int v4), (0, .ref y0), (1, .int y1), (2, .long y2), (5, .long y5), (7, .int y7), (10, .long v2), (12, .int v3)] dX8_peek_113 (Nat.le_of_ble_eq_true rfl) rfl ?_
              refine aw_iload 7 dX8_peek_115 rfl ?_
              refine reg1 (fun (v5 : Int64) => AW g RX8 cX8_peek (13, some .int, "peek", 3, 0, 0) res 127 [(0, .ref y0), (1, .int y1), (2, .long y2), (4, .int v4), (7, .int y7)] [.long v5] h 0 0) hf (fun v5 hf => ?_) (fun v5 hf hJ127 => ?_)
              · refine aw_lstore [(5, .long v5), (0, .ref y0), (1, .int y1), (2, .long y2), (4, .int v4), (7, .int y7)] dX8_peek_127 (Nat.le_of_ble_eq_true rfl) rfl ?_
                refine aw_iinc (y7 + 1) [(7, .int (y7 + 1)), (5, .long v5), (0, .ref y0), (1, .int y1), (2, .long y2), (4, .int v4)] 5 dX8_peek_129 rfl rfl (Nat.le_of_ble_eq_true rfl) rfl ?_
                refine aw_goto (tgt := 37) dX8_peek_132 rfl ?_
                refine aw_pick [2, 3, 4, 5, 1, 0] rfl ?_
                exact ih h y0 y1 y2 v4 v5 (y7 + 1) o4 hf kk
              · refine aw_if_eq (tgt := 125) dX8_peek_117 rfl (fun hc => ?_) (fun hc => ?_)
                · have hf := itp0 hc hf
                  refine aw_lload 4 dX8_peek_125 rfl ?_
                  obtain rfl := so1 hf
                  exact aw_pick [1, 2, 3, 0, 5] rfl hJ127
                · have hf := itn0 hc hf
                  refine aw_lload 6 dX8_peek_120 rfl ?_
                  refine aw_goto (tgt := 127) dX8_peek_122 rfl ?_
                  obtain rfl := so1 hf
                  exact aw_pick [1, 2, 3, 0, 5] rfl hJ127
            · refine aw_if_eq (tgt := 111) dX8_peek_103 rfl (fun hc => ?_) (fun hc => ?_)
              · have hf := itp0 hc hf
                refine aw_iload 4 dX8_peek_111 rfl ?_
                obtain rfl := so1 hf
                exact aw_pick [1, 2, 3, 5, 6, 7, 0] rfl hJ113
              · have hf := itn0 hc hf
                refine aw_iload 6 dX8_peek_106 rfl ?_
                refine aw_goto (tgt := 113) dX8_peek_108 rfl ?_
                obtain rfl := so1 hf
                exact aw_pick [1, 2, 3, 5, 6, 7, 0] rfl hJ113
          · refine aw_icmp_eq (tgt := 94) dX8_peek_83 rfl (fun hc => ?_) (fun hc => ?_)
            · have hf := itp0 hc hf
              refine aw_iconst (v := 1) dX8_peek_94 rfl ?_
              refine aw_goto (tgt := 99) dX8_peek_95 rfl ?_
              obtain rfl := so1 hf
              exact aw_pick [1, 2, 3, 4, 5, 6, 0] rfl hJ99
            · have hf := itn0 hc hf
              refine aw_lload 0 dX8_peek_86 rfl ?_
              refine aw_lload 5 dX8_peek_88 rfl ?_
              refine aw_lcmp dX8_peek_90 ?_
              refine aw_if_ge (tgt := 98) dX8_peek_91 rfl (fun hc => ?_) (fun hc => ?_)
              · have hf := itp0 hc hf
                refine aw_iconst (v := 0) dX8_peek_98 rfl ?_
                obtain rfl := so1 hf
                exact aw_pick [1, 2, 3, 4, 5, 6, 0] rfl hJ99
              · have hf := itn0 hc hf
                refine aw_iconst (v := 1) dX8_peek_94 rfl ?_
                refine aw_goto (tgt := 99) dX8_peek_95 rfl ?_
                obtain rfl := so1 hf
                exact aw_pick [1, 2, 3, 4, 5, 6, 0] rfl hJ99
        · refine aw_if_le (tgt := 74) dX8_peek_66 rfl (fun hc => ?_) (fun hc => ?_)
          · have hf := itp0 hc hf
            refine aw_lload_n 3 dX8_peek_74 rfl ?_
            refine aw_lload 0 dX8_peek_75 rfl ?_
            refine aw_lsub dX8_peek_77 ?_
            obtain rfl := so1 hf
            exact aw_pick [1, 2, 3, 4, 5, 6] rfl hJ78
          · have hf := itn0 hc hf
            refine aw_lload 0 dX8_peek_69 rfl ?_
            refine aw_goto (tgt := 78) dX8_peek_71 rfl ?_
            obtain rfl := so1 hf
            exact aw_pick [1, 2, 3, 4, 5, 6] rfl hJ78
set_option maxRecDepth 100000 in
set_option maxHeartbeats 4000000 in
theorem c_X8_peek (g : Gx) (h : Hea) (a0 : Nat) (a1 : Int32) (o : Int32) (hz : Hea) (hf : f_X8_peek h a0 a1 = some (o, hz)) : MC g yX8_peek cX8_peek 13 (some .int) 3 0 0 [.ref a0, .int a1] h (some (.int o), hz) := by
  refine MC_of (own := RX8) (nm := "peek") [(0, .ref a0), (1, .int a1)] rfl rfl pn_RX8 (Nat.le_of_ble_eq_true rfl) rfl ?_
  rw [f_X8_peek] at hf
  refine aw_iload_n 1 dX8_peek_0 rfl ?_
  refine aw_i2l dX8_peek_1 ?_
  refine aw_lconst (v := 0) dX8_peek_2 rfl ?_
  refine aw_ldc2 (v := 12) kc_RX8_189 dX8_peek_3 ?_
  refine aw_cS_i (st := []) [.long a1.toInt64, .long 0, .long 12] wS_RX8_78 (fun xr er => c_X8_in g h a1.toInt64 0 12 xr er) dX8_peek_6 rfl rfl (Nat.le_of_ble_eq_true rfl) (Nat.le_of_ble_eq_true rfl) (Nat.le_of_ble_eq_true rfl) (Nat.le_of_ble_eq_true rfl) hf (fun x1 hf => ?_)
  refine aw_if_ne (tgt := 19) dX8_peek_9 rfl (fun hc => ?_) (fun hc => ?_)
  · have hf := itn0 hc hf
    refine aw_aload_n 0 dX8_peek_19 rfl ?_
    refine aw_cV_v (st := []) [] wV_RX8_202 (ci := 8) rfl (fun hr er => c_X8_layWays g h a0 hr er) dX8_peek_20 rfl rfl (Nat.le_of_ble_eq_true rfl) (Nat.le_of_ble_eq_true rfl) (Nat.le_of_ble_eq_true rfl) (Nat.le_of_ble_eq_true rfl) hf (fun h2 hf => ?_)
    refine aw_aload_n 0 dX8_peek_23 rfl ?_
    refine aw_cV_l (st := []) [] wV_RX8_205 (ci := 8) rfl (fun xr er => c_X8_allWays g h2 a0 xr er) dX8_peek_24 rfl rfl (Nat.le_of_ble_eq_true rfl) (Nat.le_of_ble_eq_true rfl) (Nat.le_of_ble_eq_true rfl) (Nat.le_of_ble_eq_true rfl) hf (fun x3 hf => ?_)
    refine aw_lstore_n [(2, .long x3), (0, .ref a0), (1, .int a1)] dX8_peek_27 (Nat.le_of_ble_eq_true rfl) rfl ?_
    refine aw_iconst (v := (-1)) dX8_peek_28 rfl ?_
    refine aw_istore [(4, .int (-1)), (2, .long x3), (0, .ref a0), (1, .int a1)] dX8_peek_29 (Nat.le_of_ble_eq_true rfl) rfl ?_
    refine aw_lload_n 1 dX8_peek_31 rfl ?_
    refine aw_lstore [(5, .long x3), (4, .int (-1)), (2, .long x3), (0, .ref a0), (1, .int a1)] dX8_peek_32 (Nat.le_of_ble_eq_true rfl) rfl ?_
    refine aw_iconst (v := 0) dX8_peek_34 rfl ?_
    refine aw_istore [(7, .int 0), (5, .long x3), (4, .int (-1)), (2, .long x3), (0, .ref a0), (1, .int a1)] dX8_peek_35 (Nat.le_of_ble_eq_true rfl) rfl ?_
    refine aw_pick [4, 5, 3, 2, 1, 0] rfl ?_
    refine reg1 (fun (v4 : Int32) => AW g RX8 cX8_peek (13, some .int, "peek", 3, 0, 0) (some (.int o), hz) 135 [(4, .int v4)] [] h2 0 0) hf (fun v4 hf => ?_) (fun v4 hf hJ => l_X8_peek_37 g  lots h2 a0 a1 x3 (-1) x3 0 v4 hf hJ)
    refine aw_iload 0 dX8_peek_135 rfl ?_
    obtain ⟨rfl, rfl⟩ := so2 hf
    exact aw_iret dX8_peek_137 rfl rfl
  · have hf := itp0 hc hf
    refine aw_aload_n 0 dX8_peek_12 rfl ?_
    refine aw_bipush (v := (-2)) dX8_peek_13 rfl ?_
    refine aw_cV_wi (st := []) [.int (-2)] wV_RX8_86 (ci := 8) rfl (fun xr hr er => c_X8_bad g h a0 (-2) xr hr er) dX8_peek_15 rfl rfl (Nat.le_of_ble_eq_true rfl) (Nat.le_of_ble_eq_true rfl) (Nat.le_of_ble_eq_true rfl) (Nat.le_of_ble_eq_true rfl) hf (fun x5 h6 hf => ?_)
    obtain ⟨rfl, rfl⟩ := so2 hf
    exact aw_iret dX8_peek_18 rfl rfl
set_option maxRecDepth 100000 in
set_option maxHeartbeats 4000000 in
theorem l_X8_nights_50 (g : Gx) {res : Option Value × Hea} : ∀ (n : Nat) (h : Hea) (y0 : Nat) (y2 : Int32) (y3 : Int64) (y5 : Int32) (y6 : Int32) (o3 : Int64) (ho : Hea) (hf : f_X8_nights_50 n h y0 y3 y6 = some (o3, ho)) (kk : AW g RX8 cX8_nights (8, some .int, "nights", 4, 0, 0) res 134 [(0, .ref y0), (2, .int y2), (3, .long o3), (5, .int y5)] [] ho 0 0), AW g RX8 cX8_nights (8, some .int, "nights", 4, 0, 0) res 50 [(0, .ref y0), (2, .int y2), (3, .long y3), (5, .int y5), (6, .int y6)] [] h 0 0 := by
  intro n
  induction n with
  | zero =>
    intro h y0 y2 y3 y5 y6 o3 ho hf kk
    rw [f_X8_nights_50] at hf
    cases hf
  | succ n ih =>
    intro h y0 y2 y3 y5 y6 o3 ho hf kk
    rw [f_X8_nights_50] at hf
    refine aw_iload 4 dX8_nights_50 rfl ?_
    refine aw_aload_n 0 dX8_nights_52 rfl ?_
    refine aw_cV_i (st := [.int y6]) [] wV_RX8_74 (ci := 8) rfl (fun xr er => c_X8_heirs g h y0 xr er) dX8_nights_53 rfl rfl (Nat.le_of_ble_eq_true rfl) (Nat.le_of_ble_eq_true rfl) (Nat.le_of_ble_eq_true rfl) (Nat.le_of_ble_eq_true rfl) hf (fun x1 hf => ?_)
    refine aw_icmp_ge (tgt := 134) dX8_nights_56 rfl (fun hc => ?_) (fun hc => ?_)
    · have hf := itp0 hc hf
      obtain ⟨rfl, rfl⟩ := so2 hf
      exact aw_pick [0, 1, 2, 3] rfl kk
    · have hf := itn0 hc hf
      refine aw_lload_n 2 dX8_nights_59 rfl ?_
      refine aw_ldc2 (v := 1103515245) kc_RX8_213 dX8_nights_60 ?_
      refine aw_lmul dX8_nights_63 ?_
      refine aw_ldc2 (v := 12345) kc_RX8_215 dX8_nights_64 ?_
      refine aw_ladd dX8_nights_67 ?_
      refine aw_ldc2 (v := 2147483648) kc_RX8_217 dX8_nights_68 ?_
      refine aw_lrem0 dX8_nights_71 (by decide) ?_
      refine aw_lstore_n [(3, .long (((y3 * 1103515245) + 12345) - ((y3 * 1103515245) + 12345) / 2147483648 * 2147483648)), (0, .ref y0), (2, .int y2), (5, .int y5), (6, .int y6)] dX8_nights_72 (Nat.le_of_ble_eq_true rfl) rfl ?_
      refine aw_lload_n 0 dX8_nights_73 rfl ?_
      refine aw_ldc2 (v := 65536) kc_RX8_219 dX8_nights_74 ?_
      refine aw_ldiv0 dX8_nights_77 (by decide) ?_
      refine aw_ldc2 (v := 8) kc_RX8_221 dX8_nights_78 ?_
      refine aw_lrem0 dX8_nights_81 (by decide) ?_
      refine aw_l2i dX8_nights_82 ?_
      refine aw_istore [(7, .int ((((((y3 * 1103515245) + 12345) - ((y3 * 1103515245) + 12345) / 2147483648 * 2147483648) / 65536) - ((((y3 * 1103515245) + 12345) - ((y3 * 1103515245) + 12345) / 2147483648 * 2147483648) / 65536) / 8 * 8).toInt32)), (3, .long (((y3 * 1103515245) + 12345) - ((y3 * 1103515245) + 12345) / 2147483648 * 2147483648)), (0, .ref y0), (2, .int y2), (5, .int y5), (6, .int y6)] dX8_nights_83 (Nat.le_of_ble_eq_true rfl) rfl ?_
      refine aw_aload_n 2 dX8_nights_85 rfl ?_
      refine aw_gR fl_RX8_33 dX8_nights_86 hf (fun x2 hf => ?_)
      refine aw_iload 5 dX8_nights_89 rfl ?_
      refine aw_ldI dX8_nights_91 hf (fun x3 hf => ?_)
      refine reg1 (fun (h4 : Hea) => AW g RX8 cX8_nights (8, some .int, "nights", 4, 0, 0) res 128 [(0, .ref y0), (2, .int y2), (3, .long (((y3 * 1103515245) + 12345) - ((y3 * 1103515245) + 12345) / 2147483648 * 2147483648)), (5, .int y5), (6, .int y6)] [] h4 0 0) hf (fun h4 hf => ?_) (fun h4 hf hJ128 => ?_)
      · refine aw_iinc (y6 + 1) [(6, .int (y6 + 1)), (0, .ref y0), (2, .int y2), (3, .long (((y3 * 1103515245) + 12345) - ((y3 * 1103515245) + 12345) / 2147483648 * 2147483648)), (5, .int y5)] 4 dX8_nights_128 rfl rfl (Nat.le_of_ble_eq_true rfl) rfl ?_
        refine aw_goto (tgt := 50) dX8_nights_131 rfl ?_
        refine aw_pick [1, 2, 3, 4, 0] rfl ?_
        exact ih h4 y0 y2 (((y3 * 1103515245) + 12345) - ((y3 * 1103515245) + 12345) / 2147483648 * 2147483648) y5 (y6 + 1) o3 ho hf kk
      · refine aw_if_ne (tgt := 128) dX8_nights_92 rfl (fun hc => ?_) (fun hc => ?_)
        · have hf := itn0 hc hf
          obtain rfl := so1 hf
          exact aw_pick [2, 3, 1, 4, 5] rfl hJ128
        · have hf := itp0 hc hf
          refine aw_aload_n 2 dX8_nights_95 rfl ?_
          refine aw_aload_n 2 dX8_nights_96 rfl ?_
          refine aw_gR fl_RX8_27 dX8_nights_97 hf (fun x5 hf => ?_)
          refine aw_iload 5 dX8_nights_100 rfl ?_
          refine aw_ldI dX8_nights_102 hf (fun x6 hf => ?_)
          refine aw_iload 0 dX8_nights_103 rfl ?_
          refine aw_cV_i (st := []) [.int x6, .int ((((((y3 * 1103515245) + 12345) - ((y3 * 1103515245) + 12345) / 2147483648 * 2147483648) / 65536) - ((((y3 * 1103515245) + 12345) - ((y3 * 1103515245) + 12345) / 2147483648 * 2147483648) / 65536) / 8 * 8).toInt32)] wV_RX8_96 (ci := 8) rfl (fun xr er => c_X8_creaks g h y0 x6 ((((((y3 * 1103515245) + 12345) - ((y3 * 1103515245) + 12345) / 2147483648 * 2147483648) / 65536) - ((((y3 * 1103515245) + 12345) - ((y3 * 1103515245) + 12345) / 2147483648 * 2147483648) / 65536) / 8 * 8).toInt32) xr er) dX8_nights_105 rfl rfl (Nat.le_of_ble_eq_true rfl) (Nat.le_of_ble_eq_true rfl) (Nat.le_of_ble_eq_true rfl) (Nat.le_of_ble_eq_true rfl) hf (fun x7 hf => ?_)
          refine aw_if_le (tgt := 128) dX8_nights_108 rfl (fun hc => ?_) (fun hc => ?_)
          · have hf := itp0 hc hf
            obtain rfl := so1 hf
            exact aw_pick [2, 3, 1, 4, 5] rfl hJ128
          · have hf := itn0 hc hf
            refine aw_aload_n 2 dX8_nights_111 rfl ?_
            refine aw_gR fl_RX8_27 dX8_nights_112 hf (fun x8 hf => ?_)
            refine aw_iload 5 dX8_nights_115 rfl ?_
            refine aw_iload 0 dX8_nights_117 rfl ?_
            refine aw_stI dX8_nights_119 hf (fun h9 hf => ?_)
            refine aw_aload_n 2 dX8_nights_120 rfl ?_
            refine aw_gR fl_RX8_30 dX8_nights_121 hf (fun x10 hf => ?_)
            refine aw_iload 5 dX8_nights_124 rfl ?_
            refine aw_iconst (v := 0) dX8_nights_126 rfl ?_
            refine aw_stI dX8_nights_127 hf (fun h11 hf => ?_)
            obtain rfl := so1 hf
            exact aw_pick [2, 3, 1, 4, 5] rfl hJ128
set_option maxRecDepth 100000 in
set_option maxHeartbeats 4000000 in
theorem l_X8_nights_41 (g : Gx) {res : Option Value × Hea} : ∀ (n : Nat) (h : Hea) (y0 : Nat) (y2 : Int32) (y3 : Int64) (y5 : Int32) (ho : Hea) (hf : f_X8_nights_41 n h y0 y2 y3 y5 = some ho) (kk : AW g RX8 cX8_nights (8, some .int, "nights", 4, 0, 0) res 146 [(0, .ref y0)] [] ho 0 0), AW g RX8 cX8_nights (8, some .int, "nights", 4, 0, 0) res 41 [(0, .ref y0), (2, .int y2), (3, .long y3), (5, .int y5)] [] h 0 0 := by
  intro n
  induction n with
  | zero =>
    intro h y0 y2 y3 y5 ho hf kk
    rw [f_X8_nights_41] at hf
    cases hf
  | succ n ih =>
    intro h y0 y2 y3 y5 ho hf kk
    rw [f_X8_nights_41] at hf
    refine aw_iload 3 dX8_nights_41 rfl ?_
    refine aw_iload_n 1 dX8_nights_43 rfl ?_
    refine aw_icmp_ge (tgt := 146) dX8_nights_44 rfl (fun hc => ?_) (fun hc => ?_)
    · have hf := itp0 hc hf
      obtain rfl := so1 hf
      exact aw_pick [0] rfl kk
    · have hf := itn0 hc hf
      refine aw_iconst (v := 0) dX8_nights_47 rfl ?_
      refine aw_istore [(6, .int 0), (0, .ref y0), (2, .int y2), (3, .long y3), (5, .int y5)] dX8_nights_48 (Nat.le_of_ble_eq_true rfl) rfl ?_
      refine aw_pick [1, 2, 3, 4, 0] rfl ?_
      refine reg2 (fun (v1 : Int64) (h2 : Hea) => AW g RX8 cX8_nights (8, some .int, "nights", 4, 0, 0) res 134 [(0, .ref y0), (2, .int y2), (3, .long v1), (5, .int y5)] [] h2 0 0) hf (fun v1 h2 hf => ?_) (fun v1 h2 hf hJ => l_X8_nights_50 g  lots h y0 y2 y3 y5 0 v1 h2 hf hJ)
      refine aw_aload_n 0 dX8_nights_134 rfl ?_
      refine aw_cV_wi (st := []) [] wV_RX8_153 (ci := 8) rfl (fun xr hr er => c_X8_goNight g h2 y0 xr hr er) dX8_nights_135 rfl rfl (Nat.le_of_ble_eq_true rfl) (Nat.le_of_ble_eq_true rfl) (Nat.le_of_ble_eq_true rfl) (Nat.le_of_ble_eq_true rfl) hf (fun x3 h4 hf => ?_)
      refine aw_istore [(6, .int x3), (0, .ref y0), (2, .int y2), (3, .long v1), (5, .int y5)] dX8_nights_138 (Nat.le_of_ble_eq_true rfl) rfl ?_
      refine aw_iinc (y5 + 1) [(5, .int (y5 + 1)), (6, .int x3), (0, .ref y0), (2, .int y2), (3, .long v1)] 4 dX8_nights_140 rfl rfl (Nat.le_of_ble_eq_true rfl) rfl ?_
      refine aw_goto (tgt := 41) dX8_nights_143 rfl ?_
      refine aw_pick [2, 3, 4, 0] rfl ?_
      exact ih h4 y0 y2 v1 (y5 + 1) ho hf kk
set_option maxRecDepth 100000 in
set_option maxHeartbeats 4000000 in
theorem l_X8_nights_152 (g : Gx) {res : Option Value × Hea} : ∀ (n : Nat) (h : Hea) (y0 : Nat) (y5 : Int32) (y6 : Int32) (o5 : Int32) (hf : f_X8_nights_152 n h y0 y5 y6 = some o5) (kk : AW g RX8 cX8_nights (8, some .int, "nights", 4, 0, 0) res 188 [(5, .int o5)] [] h 0 0), AW g RX8 cX8_nights (8, some .int, "nights", 4, 0, 0) res 152 [(0, .ref y0), (5, .int y5), (6, .int y6)] [] h 0 0 := by
  intro n
  induction n with
  | zero =>
    intro h y0 y5 y6 o5 hf kk
    rw [f_X8_nights_152] at hf
    cases hf
  | succ n ih =>
    intro h y0 y5 y6 o5 hf kk
    rw [f_X8_nights_152] at hf
    refine aw_iload 2 dX8_nights_152 rfl ?_
    refine aw_aload_n 0 dX8_nights_154 rfl ?_
    refine aw_cV_i (st := [.int y6]) [] wV_RX8_74 (ci := 8) rfl (fun xr er => c_X8_heirs g h y0 xr er) dX8_nights_155 rfl rfl (Nat.le_of_ble_eq_true rfl) (Nat.le_of_ble_eq_true rfl) (Nat.le_of_ble_eq_true rfl) (Nat.le_of_ble_eq_true rfl) hf (fun x1 hf => ?_)
    refine aw_icmp_ge (tgt := 188) dX8_nights_158 rfl (fun hc => ?_) (fun hc => ?_)
    · have hf := itp0 hc hf
      obtain rfl := so1 hf
      exact aw_pick [1] rfl kk
    · have hf := itn0 hc hf
      refine aw_iload 1 dX8_nights_161 rfl ?_
      refine aw_aload_n 0 dX8_nights_163 rfl ?_
      refine aw_gR fl_RX8_33 dX8_nights_164 hf (fun x2 hf => ?_)
      refine aw_iload 2 dX8_nights_167 rfl ?_
      refine aw_ldI dX8_nights_169 hf (fun x3 hf => ?_)
      refine aw_iconst (v := 2) dX8_nights_170 rfl ?_
      refine reg1 (fun (v4 : Int32) => AW g RX8 cX8_nights (8, some .int, "nights", 4, 0, 0) res 179 [(0, .ref y0), (6, .int y6)] [.int v4, .int y5] h 0 0) hf (fun v4 hf => ?_) (fun v4 hf hJ179 => ?_)
      · refine aw_iadd dX8_nights_179 ?_
        refine aw_istore [(5, .int (y5 + v4)), (0, .ref y0), (6, .int y6)] dX8_nights_180 (Nat.le_of_ble_eq_true rfl) rfl ?_
        refine aw_iinc (y6 + 1) [(6, .int (y6 + 1)), (5, .int (y5 + v4)), (0, .ref y0)] 2 dX8_nights_182 rfl rfl (Nat.le_of_ble_eq_true rfl) rfl ?_
        refine aw_goto (tgt := 152) dX8_nights_185 rfl ?_
        refine aw_pick [2, 1, 0] rfl ?_
        exact ih h y0 (y5 + v4) (y6 + 1) o5 hf kk
      · refine aw_icmp_ne (tgt := 178) dX8_nights_171 rfl (fun hc => ?_) (fun hc => ?_)
        · have hf := itn0 hc hf
          refine aw_iconst (v := 0) dX8_nights_178 rfl ?_
          obtain rfl := so1 hf
          exact aw_pick [0, 2] rfl hJ179
        · have hf := itp0 hc hf
          refine aw_iconst (v := 1) dX8_nights_174 rfl ?_
          refine aw_goto (tgt := 179) dX8_nights_175 rfl ?_
          obtain rfl := so1 hf
          exact aw_pick [0, 2] rfl hJ179
set_option maxRecDepth 100000 in
set_option maxHeartbeats 4000000 in
theorem c_X8_nights (g : Gx) (h : Hea) (a0 : Nat) (a1 : Int32) (a2 : Int32) (o : Int32) (hz : Hea) (hf : f_X8_nights h a0 a1 a2 = some (o, hz)) : MC g yX8_nights cX8_nights 8 (some .int) 4 0 0 [.ref a0, .int a1, .int a2] h (some (.int o), hz) := by
  refine MC_of (own := RX8) (nm := "nights") [(0, .ref a0), (1, .int a1), (2, .int a2)] rfl rfl pn_RX8 (Nat.le_of_ble_eq_true rfl) rfl ?_
  rw [f_X8_nights] at hf
  refine aw_iload_n 1 dX8_nights_0 rfl ?_
  refine aw_i2l dX8_nights_1 ?_
  refine aw_lconst (v := 0) dX8_nights_2 rfl ?_
  refine aw_ldc2 (v := 999999) kc_RX8_209 dX8_nights_3 ?_
  refine aw_cS_i (st := []) [.long a1.toInt64, .long 0, .long 999999] wS_RX8_78 (fun xr er => c_X8_in g h a1.toInt64 0 999999 xr er) dX8_nights_6 rfl rfl (Nat.le_of_ble_eq_true rfl) (Nat.le_of_ble_eq_true rfl) (Nat.le_of_ble_eq_true rfl) (Nat.le_of_ble_eq_true rfl) hf (fun x1 hf => ?_)
  refine aw_if_eq (tgt := 24) dX8_nights_9 rfl (fun hc => ?_) (fun hc => ?_)
  · have hf := itp0 hc hf
    refine aw_aload_n 0 dX8_nights_24 rfl ?_
    refine aw_bipush (v := (-2)) dX8_nights_25 rfl ?_
    refine aw_cV_wi (st := []) [.int (-2)] wV_RX8_86 (ci := 8) rfl (fun xr hr er => c_X8_bad g h a0 (-2) xr hr er) dX8_nights_27 rfl rfl (Nat.le_of_ble_eq_true rfl) (Nat.le_of_ble_eq_true rfl) (Nat.le_of_ble_eq_true rfl) (Nat.le_of_ble_eq_true rfl) hf (fun x2 h3 hf => ?_)
    obtain ⟨rfl, rfl⟩ := so2 hf
    exact aw_iret dX8_nights_30 rfl rfl
  · have hf := itn0 hc hf
    refine aw_iload_n 2 dX8_nights_12 rfl ?_
    refine aw_i2l dX8_nights_13 ?_
    refine aw_lconst (v := 0) dX8_nights_14 rfl ?_
    refine aw_ldc2 (v := 30) kc_RX8_211 dX8_nights_15 ?_
    refine aw_cS_i (st := []) [.long a2.toInt64, .long 0, .long 30] wS_RX8_78 (fun xr er => c_X8_in g h a2.toInt64 0 30 xr er) dX8_nights_18 rfl rfl (Nat.le_of_ble_eq_true rfl) (Nat.le_of_ble_eq_true rfl) (Nat.le_of_ble_eq_true rfl) (Nat.le_of_ble_eq_true rfl) hf (fun x4 hf => ?_)
    refine aw_if_ne (tgt := 31) dX8_nights_21 rfl (fun hc => ?_) (fun hc => ?_)
    · have hf := itn0 hc hf
      refine aw_iload_n 1 dX8_nights_31 rfl ?_
      refine aw_i2l dX8_nights_32 ?_
      refine aw_lstore_n [(3, .long a1.toInt64), (0, .ref a0), (1, .int a1), (2, .int a2)] dX8_nights_33 (Nat.le_of_ble_eq_true rfl) rfl ?_
      refine aw_aload_n 1 dX8_nights_34 rfl ?_
      refine aw_cV_v (st := []) [] wV_RX8_150 (ci := 8) rfl (fun hr er => c_X8_layHand g h a0 hr er) dX8_nights_35 rfl rfl (Nat.le_of_ble_eq_true rfl) (Nat.le_of_ble_eq_true rfl) (Nat.le_of_ble_eq_true rfl) (Nat.le_of_ble_eq_true rfl) hf (fun h5 hf => ?_)
      refine aw_iconst (v := 0) dX8_nights_38 rfl ?_
      refine aw_istore [(5, .int 0), (3, .long a1.toInt64), (0, .ref a0), (1, .int a1), (2, .int a2)] dX8_nights_39 (Nat.le_of_ble_eq_true rfl) rfl ?_
      refine aw_pick [2, 4, 1, 0] rfl ?_
      refine reg1 (fun (h6 : Hea) => AW g RX8 cX8_nights (8, some .int, "nights", 4, 0, 0) (some (.int o), hz) 146 [(0, .ref a0)] [] h6 0 0) hf (fun h6 hf => ?_) (fun h6 hf hJ => l_X8_nights_41 g  lots h5 a0 a2 a1.toInt64 0 h6 hf hJ)
      refine aw_iconst (v := 0) dX8_nights_146 rfl ?_
      refine aw_istore [(5, .int 0), (0, .ref a0)] dX8_nights_147 (Nat.le_of_ble_eq_true rfl) rfl ?_
      refine aw_iconst (v := 0) dX8_nights_149 rfl ?_
      refine aw_istore [(6, .int 0), (5, .int 0), (0, .ref a0)] dX8_nights_150 (Nat.le_of_ble_eq_true rfl) rfl ?_
      refine aw_pick [2, 1, 0] rfl ?_
      refine reg1 (fun (v7 : Int32) => AW g RX8 cX8_nights (8, some .int, "nights", 4, 0, 0) (some (.int o), hz) 188 [(5, .int v7)] [] h6 0 0) hf (fun v7 hf => ?_) (fun v7 hf hJ => l_X8_nights_152 g  lots h6 a0 0 0 v7 hf hJ)
      refine aw_iload 0 dX8_nights_188 rfl ?_
      obtain ⟨rfl, rfl⟩ := so2 hf
      exact aw_iret dX8_nights_190 rfl rfl
    · have hf := itp0 hc hf
      refine aw_aload_n 0 dX8_nights_24 rfl ?_
      refine aw_bipush (v := (-2)) dX8_nights_25 rfl ?_
      refine aw_cV_wi (st := []) [.int (-2)] wV_RX8_86 (ci := 8) rfl (fun xr hr er => c_X8_bad g h a0 (-2) xr hr er) dX8_nights_27 rfl rfl (Nat.le_of_ble_eq_true rfl) (Nat.le_of_ble_eq_true rfl) (Nat.le_of_ble_eq_true rfl) (Nat.le_of_ble_eq_true rfl) hf (fun x8 h9 hf => ?_)
      obtain ⟨rfl, rfl⟩ := so2 hf
      exact aw_iret dX8_nights_30 rfl rfl
set_option maxRecDepth 100000 in
set_option maxHeartbeats 4000000 in
theorem c_X8_type (g : Gx) (h : Hea) (a0 : Nat) (a1 : Int32) (o : Int32) (hz : Hea) (hf : f_X8_type h a0 a1 = some (o, hz)) : MC g yX8_type cX8_type 2 (some .int) 1 0 0 [.ref a0, .int a1] h (some (.int o), hz) := by
  refine MC_of (own := RX8) (nm := "type") [(0, .ref a0), (1, .int a1)] rfl rfl pn_RX8 (Nat.le_of_ble_eq_true rfl) rfl ?_
  rw [f_X8_type] at hf
  refine aw_iload_n 1 dX8_type_0 rfl ?_
  refine aw_i2l dX8_type_1 ?_
  refine aw_lconst (v := 0) dX8_type_2 rfl ?_
  refine aw_ldc2 (v := 127) kc_RX8_223 dX8_type_3 ?_
  refine aw_cS_i (st := []) [.long a1.toInt64, .long 0, .long 127] wS_RX8_78 (fun xr er => c_X8_in g h a1.toInt64 0 127 xr er) dX8_type_6 rfl rfl (Nat.le_of_ble_eq_true rfl) (Nat.le_of_ble_eq_true rfl) (Nat.le_of_ble_eq_true rfl) (Nat.le_of_ble_eq_true rfl) hf (fun x1 hf => ?_)
  refine aw_if_ne (tgt := 19) dX8_type_9 rfl (fun hc => ?_) (fun hc => ?_)
  · have hf := itn0 hc hf
    refine aw_aload_n 0 dX8_type_19 rfl ?_
    refine aw_gI fl_RX8_225 dX8_type_20 hf (fun x2 hf => ?_)
    refine aw_sipush (v := 150) dX8_type_23 rfl ?_
    refine aw_icmp_ne (tgt := 34) dX8_type_26 rfl (fun hc => ?_) (fun hc => ?_)
    · have hf := itn0 hc hf
      refine aw_aload_n 0 dX8_type_34 rfl ?_
      refine aw_gR fl_RX8_61 dX8_type_35 hf (fun x3 hf => ?_)
      refine aw_aload_n 0 dX8_type_38 rfl ?_
      refine aw_gI fl_RX8_225 dX8_type_39 hf (fun x4 hf => ?_)
      refine aw_iload_n 1 dX8_type_42 rfl ?_
      refine aw_stI dX8_type_43 hf (fun h5 hf => ?_)
      refine aw_aload_n 0 dX8_type_44 rfl ?_
      refine aw_dup dX8_type_45 rfl ?_
      refine aw_gI fl_RX8_225 dX8_type_46 hf (fun x6 hf => ?_)
      refine aw_iconst (v := 1) dX8_type_49 rfl ?_
      refine aw_iadd dX8_type_50 ?_
      refine aw_pI fp_RX8_225 dX8_type_51 hf (fun h7 hf => ?_)
      refine aw_aload_n 0 dX8_type_54 rfl ?_
      refine aw_gI fl_RX8_225 dX8_type_55 hf (fun x8 hf => ?_)
      obtain ⟨rfl, rfl⟩ := so2 hf
      exact aw_iret dX8_type_58 rfl rfl
    · have hf := itp0 hc hf
      refine aw_aload_n 0 dX8_type_29 rfl ?_
      refine aw_cV_wi (st := []) [] wV_RX8_104 (ci := 8) rfl (fun xr hr er => c_X8_full g h a0 xr hr er) dX8_type_30 rfl rfl (Nat.le_of_ble_eq_true rfl) (Nat.le_of_ble_eq_true rfl) (Nat.le_of_ble_eq_true rfl) (Nat.le_of_ble_eq_true rfl) hf (fun x9 h10 hf => ?_)
      obtain ⟨rfl, rfl⟩ := so2 hf
      exact aw_iret dX8_type_33 rfl rfl
  · have hf := itp0 hc hf
    refine aw_aload_n 0 dX8_type_12 rfl ?_
    refine aw_bipush (v := (-2)) dX8_type_13 rfl ?_
    refine aw_cV_wi (st := []) [.int (-2)] wV_RX8_86 (ci := 8) rfl (fun xr hr er => c_X8_bad g h a0 (-2) xr hr er) dX8_type_15 rfl rfl (Nat.le_of_ble_eq_true rfl) (Nat.le_of_ble_eq_true rfl) (Nat.le_of_ble_eq_true rfl) (Nat.le_of_ble_eq_true rfl) hf (fun x11 h12 hf => ?_)
    obtain ⟨rfl, rfl⟩ := so2 hf
    exact aw_iret dX8_type_18 rfl rfl
set_option maxRecDepth 100000 in
set_option maxHeartbeats 4000000 in
theorem c_X8_clear (g : Gx) (h : Hea) (a0 : Nat) (o : Int32) (hz : Hea) (hf : f_X8_clear h a0 = some (o, hz)) : MC g yX8_clear cX8_clear 2 (some .int) 0 0 0 [.ref a0] h (some (.int o), hz) := by
  refine MC_of (own := RX8) (nm := "clear") [(0, .ref a0)] rfl rfl pn_RX8 (Nat.le_of_ble_eq_true rfl) rfl ?_
  rw [f_X8_clear] at hf
  refine aw_aload_n 0 dX8_clear_0 rfl ?_
  refine aw_gI fl_RX8_225 dX8_clear_1 hf (fun x1 hf => ?_)
  refine aw_istore_n [(1, .int x1), (0, .ref a0)] dX8_clear_4 (Nat.le_of_ble_eq_true rfl) rfl ?_
  refine aw_aload_n 1 dX8_clear_5 rfl ?_
  refine aw_iconst (v := 0) dX8_clear_6 rfl ?_
  refine aw_pI fp_RX8_225 dX8_clear_7 hf (fun h2 hf => ?_)
  refine aw_iload_n 0 dX8_clear_10 rfl ?_
  obtain ⟨rfl, rfl⟩ := so2 hf
  exact aw_iret dX8_clear_11 rfl rfl
set_option maxRecDepth 100000 in
set_option maxHeartbeats 4000000 in
theorem c_X8_isSmall (g : Gx) (h : Hea) (a0 : Int32) (o : Int32) (hf : f_X8_isSmall a0 = some o) : MC g yX8_isSmall cX8_isSmall 1 (some .boolean) 1 0 0 [.int a0] h (some (.int o), h) := by
  refine MC_of (own := RX8) (nm := "isSmall") [(0, .int a0)] rfl rfl pn_RX8 (Nat.le_of_ble_eq_true rfl) rfl ?_
  rw [f_X8_isSmall] at hf
  refine aw_iload_n 0 dX8_isSmall_0 rfl ?_
  refine aw_i2l dX8_isSmall_1 ?_
  refine aw_ldc2 (v := 97) kc_RX8_228 dX8_isSmall_2 ?_
  refine aw_ldc2 (v := 122) kc_RX8_230 dX8_isSmall_5 ?_
  refine aw_cS_i (st := []) [.long a0.toInt64, .long 97, .long 122] wS_RX8_78 (fun xr er => c_X8_in g h a0.toInt64 97 122 xr er) dX8_isSmall_8 rfl rfl (Nat.le_of_ble_eq_true rfl) (Nat.le_of_ble_eq_true rfl) (Nat.le_of_ble_eq_true rfl) (Nat.le_of_ble_eq_true rfl) hf (fun x1 hf => ?_)
  exact aw_zretb dX8_isSmall_11 rfl hf rfl
set_option maxRecDepth 100000 in
set_option maxHeartbeats 4000000 in
theorem c_X8_isFigure (g : Gx) (h : Hea) (a0 : Int32) (o : Int32) (hf : f_X8_isFigure a0 = some o) : MC g yX8_isFigure cX8_isFigure 1 (some .boolean) 1 0 0 [.int a0] h (some (.int o), h) := by
  refine MC_of (own := RX8) (nm := "isFigure") [(0, .int a0)] rfl rfl pn_RX8 (Nat.le_of_ble_eq_true rfl) rfl ?_
  rw [f_X8_isFigure] at hf
  refine aw_iload_n 0 dX8_isFigure_0 rfl ?_
  refine aw_i2l dX8_isFigure_1 ?_
  refine aw_ldc2 (v := 48) kc_RX8_232 dX8_isFigure_2 ?_
  refine aw_ldc2 (v := 57) kc_RX8_234 dX8_isFigure_5 ?_
  refine aw_cS_i (st := []) [.long a0.toInt64, .long 48, .long 57] wS_RX8_78 (fun xr er => c_X8_in g h a0.toInt64 48 57 xr er) dX8_isFigure_8 rfl rfl (Nat.le_of_ble_eq_true rfl) (Nat.le_of_ble_eq_true rfl) (Nat.le_of_ble_eq_true rfl) (Nat.le_of_ble_eq_true rfl) hf (fun x1 hf => ?_)
  exact aw_zretb dX8_isFigure_11 rfl hf rfl
set_option maxRecDepth 100000 in
set_option maxHeartbeats 4000000 in
theorem l_X8_lookAt_5 (g : Gx) {res : Option Value × Hea} : ∀ (n : Nat) (h : Hea) (y0 : Nat) (ho : Hea) (hf : f_X8_lookAt_5 n h y0 = some ho) (kk : AW g RX8 cX8_lookAt (5, none, "lookAt", 2, 0, 0) res 43 [(0, .ref y0)] [] ho 0 0), AW g RX8 cX8_lookAt (5, none, "lookAt", 2, 0, 0) res 5 [(0, .ref y0)] [] h 0 0 := by
  intro n
  induction n with
  | zero =>
    intro h y0 ho hf kk
    rw [f_X8_lookAt_5] at hf
    cases hf
  | succ n ih =>
    intro h y0 ho hf kk
    rw [f_X8_lookAt_5] at hf
    refine aw_aload_n 0 dX8_lookAt_5 rfl ?_
    refine aw_gI fl_RX8_236 dX8_lookAt_6 hf (fun x1 hf => ?_)
    refine aw_aload_n 0 dX8_lookAt_9 rfl ?_
    refine aw_gI fl_RX8_225 dX8_lookAt_10 hf (fun x2 hf => ?_)
    refine aw_icmp_ge (tgt := 43) dX8_lookAt_13 rfl (fun hc => ?_) (fun hc => ?_)
    · have hf := itp0 hc hf
      obtain rfl := so1 hf
      exact aw_pick [0] rfl kk
    · have hf := itn0 hc hf
      refine aw_aload_n 0 dX8_lookAt_16 rfl ?_
      refine aw_gR fl_RX8_61 dX8_lookAt_17 hf (fun x3 hf => ?_)
      refine aw_aload_n 0 dX8_lookAt_20 rfl ?_
      refine aw_gI fl_RX8_236 dX8_lookAt_21 hf (fun x4 hf => ?_)
      refine aw_ldI dX8_lookAt_24 hf (fun x5 hf => ?_)
      refine aw_bipush (v := 32) dX8_lookAt_25 rfl ?_
      refine aw_icmp_ne (tgt := 43) dX8_lookAt_27 rfl (fun hc => ?_) (fun hc => ?_)
      · have hf := itn0 hc hf
        obtain rfl := so1 hf
        exact aw_pick [0] rfl kk
      · have hf := itp0 hc hf
        refine aw_aload_n 0 dX8_lookAt_30 rfl ?_
        refine aw_dup dX8_lookAt_31 rfl ?_
        refine aw_gI fl_RX8_236 dX8_lookAt_32 hf (fun x6 hf => ?_)
        refine aw_iconst (v := 1) dX8_lookAt_35 rfl ?_
        refine aw_iadd dX8_lookAt_36 ?_
        refine aw_pI fp_RX8_236 dX8_lookAt_37 hf (fun h7 hf => ?_)
        refine aw_goto (tgt := 5) dX8_lookAt_40 rfl ?_
        refine aw_pick [0] rfl ?_
        exact ih h7 y0 ho hf kk
set_option maxRecDepth 100000 in
set_option maxHeartbeats 4000000 in
theorem l_X8_lookAt_136 (g : Gx) {res : Option Value × Hea} : ∀ (n : Nat) (h : Hea) (y0 : Nat) (y3 : Int32) (ho : Hea) (hf : f_X8_lookAt_136 n h y0 y3 = some ho) (kk : AW g RX8 cX8_lookAt (5, none, "lookAt", 2, 0, 0) res 215 [(0, .ref y0)] [] ho 0 0), AW g RX8 cX8_lookAt (5, none, "lookAt", 2, 0, 0) res 136 [(0, .ref y0), (3, .int y3)] [] h 0 0 := by
  intro n
  induction n with
  | zero =>
    intro h y0 y3 ho hf kk
    rw [f_X8_lookAt_136] at hf
    cases hf
  | succ n ih =>
    intro h y0 y3 ho hf kk
    rw [f_X8_lookAt_136] at hf
    refine aw_iload_n 1 dX8_lookAt_136 rfl ?_
    refine aw_if_eq (tgt := 215) dX8_lookAt_137 rfl (fun hc => ?_) (fun hc => ?_)
    · have hf := itp0 hc hf
      obtain rfl := so1 hf
      exact aw_pick [0] rfl kk
    · have hf := itn0 hc hf
      refine aw_aload_n 0 dX8_lookAt_140 rfl ?_
      refine aw_gI fl_RX8_236 dX8_lookAt_141 hf (fun x1 hf => ?_)
      refine aw_aload_n 0 dX8_lookAt_144 rfl ?_
      refine aw_gI fl_RX8_239 dX8_lookAt_145 hf (fun x2 hf => ?_)
      refine aw_iadd dX8_lookAt_148 ?_
      refine aw_aload_n 0 dX8_lookAt_149 rfl ?_
      refine aw_gI fl_RX8_225 dX8_lookAt_150 hf (fun x3 hf => ?_)
      refine aw_icmp_ge (tgt := 215) dX8_lookAt_153 rfl (fun hc => ?_) (fun hc => ?_)
      · have hf := itp0 hc hf
        obtain rfl := so1 hf
        exact aw_pick [0] rfl kk
      · have hf := itn0 hc hf
        refine aw_aload_n 0 dX8_lookAt_156 rfl ?_
        refine aw_gR fl_RX8_61 dX8_lookAt_157 hf (fun x4 hf => ?_)
        refine aw_aload_n 0 dX8_lookAt_160 rfl ?_
        refine aw_gI fl_RX8_236 dX8_lookAt_161 hf (fun x5 hf => ?_)
        refine aw_aload_n 0 dX8_lookAt_164 rfl ?_
        refine aw_gI fl_RX8_239 dX8_lookAt_165 hf (fun x6 hf => ?_)
        refine aw_iadd dX8_lookAt_168 ?_
        refine aw_ldI dX8_lookAt_169 hf (fun x7 hf => ?_)
        refine aw_istore [(4, .int x7), (0, .ref y0), (3, .int y3)] dX8_lookAt_170 (Nat.le_of_ble_eq_true rfl) rfl ?_
        refine aw_aload_n 1 dX8_lookAt_172 rfl ?_
        refine aw_gI fl_RX8_242 dX8_lookAt_173 hf (fun x8 hf => ?_)
        refine aw_iconst (v := 1) dX8_lookAt_176 rfl ?_
        refine reg1 (fun (v9 : Int32) => AW g RX8 cX8_lookAt (5, none, "lookAt", 2, 0, 0) res 193 [(0, .ref y0)] [.int v9] h 0 0) hf (fun v9 hf => ?_) (fun v9 hf hJ193 => ?_)
        · refine aw_istore_n [(3, .int v9), (0, .ref y0)] dX8_lookAt_193 (Nat.le_of_ble_eq_true rfl) rfl ?_
          refine aw_aload_n 1 dX8_lookAt_194 rfl ?_
          refine aw_dup dX8_lookAt_195 rfl ?_
          refine aw_gI fl_RX8_239 dX8_lookAt_196 hf (fun x12 hf => ?_)
          refine aw_iload_n 0 dX8_lookAt_199 rfl ?_
          refine reg1 (fun (v13 : Int32) => AW g RX8 cX8_lookAt (5, none, "lookAt", 2, 0, 0) res 208 [(0, .ref y0), (3, .int v9)] [.int v13, .int x12, .ref y0] h 0 0) hf (fun v13 hf => ?_) (fun v13 hf hJ208 => ?_)
          · refine aw_iadd dX8_lookAt_208 ?_
            refine aw_pI fp_RX8_239 dX8_lookAt_209 hf (fun h14 hf => ?_)
            refine aw_goto (tgt := 136) dX8_lookAt_212 rfl ?_
            refine aw_pick [0, 1] rfl ?_
            exact ih h14 y0 v9 ho hf kk
          · refine aw_if_eq (tgt := 207) dX8_lookAt_200 rfl (fun hc => ?_) (fun hc => ?_)
            · have hf := itp0 hc hf
              refine aw_iconst (v := 0) dX8_lookAt_207 rfl ?_
              obtain rfl := so1 hf
              exact aw_pick [1, 0] rfl hJ208
            · have hf := itn0 hc hf
              refine aw_iconst (v := 1) dX8_lookAt_203 rfl ?_
              refine aw_goto (tgt := 208) dX8_lookAt_204 rfl ?_
              obtain rfl := so1 hf
              exact aw_pick [1, 0] rfl hJ208
        · refine aw_icmp_ne (tgt := 188) dX8_lookAt_177 rfl (fun hc => ?_) (fun hc => ?_)
          · have hf := itn0 hc hf
            refine aw_iload 0 dX8_lookAt_188 rfl ?_
            refine aw_cS_i (st := []) [.int x7] wS_RX8_251 (fun xr er => c_X8_isFigure g h x7 xr er) dX8_lookAt_190 rfl rfl (Nat.le_of_ble_eq_true rfl) (Nat.le_of_ble_eq_true rfl) (Nat.le_of_ble_eq_true rfl) (Nat.le_of_ble_eq_true rfl) hf (fun x10 hf => ?_)
            obtain rfl := so1 hf
            exact aw_pick [1] rfl hJ193
          · have hf := itp0 hc hf
            refine aw_iload 0 dX8_lookAt_180 rfl ?_
            refine aw_cS_i (st := []) [.int x7] wS_RX8_248 (fun xr er => c_X8_isSmall g h x7 xr er) dX8_lookAt_182 rfl rfl (Nat.le_of_ble_eq_true rfl) (Nat.le_of_ble_eq_true rfl) (Nat.le_of_ble_eq_true rfl) (Nat.le_of_ble_eq_true rfl) hf (fun x11 hf => ?_)
            refine aw_goto (tgt := 193) dX8_lookAt_185 rfl ?_
            obtain rfl := so1 hf
            exact aw_pick [1] rfl hJ193
set_option maxRecDepth 100000 in
set_option maxHeartbeats 4000000 in
theorem l_X8_lookAt_218 (g : Gx) {res : Option Value × Hea} : ∀ (n : Nat) (h : Hea) (y0 : Nat) (y4 : Int32) (ho : Hea) (hf : f_X8_lookAt_218 n h y0 y4 = some ho) (kk : AW g RX8 cX8_lookAt (5, none, "lookAt", 2, 0, 0) res 274 [(0, .ref y0)] [] ho 0 0), AW g RX8 cX8_lookAt (5, none, "lookAt", 2, 0, 0) res 218 [(0, .ref y0), (4, .int y4)] [] h 0 0 := by
  intro n
  induction n with
  | zero =>
    intro h y0 y4 ho hf kk
    rw [f_X8_lookAt_218] at hf
    cases hf
  | succ n ih =>
    intro h y0 y4 ho hf kk
    rw [f_X8_lookAt_218] at hf
    refine aw_iload 1 dX8_lookAt_218 rfl ?_
    refine aw_aload_n 0 dX8_lookAt_220 rfl ?_
    refine aw_gI fl_RX8_239 dX8_lookAt_221 hf (fun x1 hf => ?_)
    refine aw_icmp_ge (tgt := 274) dX8_lookAt_224 rfl (fun hc => ?_) (fun hc => ?_)
    · have hf := itp0 hc hf
      obtain rfl := so1 hf
      exact aw_pick [0] rfl kk
    · have hf := itn0 hc hf
      refine aw_iload 1 dX8_lookAt_227 rfl ?_
      refine aw_iconst (v := 2) dX8_lookAt_229 rfl ?_
      refine aw_icmp_ge (tgt := 274) dX8_lookAt_230 rfl (fun hc => ?_) (fun hc => ?_)
      · have hf := itp0 hc hf
        obtain rfl := so1 hf
        exact aw_pick [0] rfl kk
      · have hf := itn0 hc hf
        refine aw_aload_n 0 dX8_lookAt_233 rfl ?_
        refine aw_gI fl_RX8_242 dX8_lookAt_234 hf (fun x2 hf => ?_)
        refine aw_iconst (v := 2) dX8_lookAt_237 rfl ?_
        refine aw_icmp_ne (tgt := 274) dX8_lookAt_238 rfl (fun hc => ?_) (fun hc => ?_)
        · have hf := itn0 hc hf
          obtain rfl := so1 hf
          exact aw_pick [0] rfl kk
        · have hf := itp0 hc hf
          refine aw_aload_n 0 dX8_lookAt_241 rfl ?_
          refine aw_bipush (v := 10) dX8_lookAt_242 rfl ?_
          refine aw_aload_n 0 dX8_lookAt_244 rfl ?_
          refine aw_gI fl_RX8_245 dX8_lookAt_245 hf (fun x3 hf => ?_)
          refine aw_imul dX8_lookAt_248 ?_
          refine aw_aload_n 0 dX8_lookAt_249 rfl ?_
          refine aw_gR fl_RX8_61 dX8_lookAt_250 hf (fun x4 hf => ?_)
          refine aw_aload_n 0 dX8_lookAt_253 rfl ?_
          refine aw_gI fl_RX8_236 dX8_lookAt_254 hf (fun x5 hf => ?_)
          refine aw_iload 1 dX8_lookAt_257 rfl ?_
          refine aw_iadd dX8_lookAt_259 ?_
          refine aw_ldI dX8_lookAt_260 hf (fun x6 hf => ?_)
          refine aw_iadd dX8_lookAt_261 ?_
          refine aw_bipush (v := 48) dX8_lookAt_262 rfl ?_
          refine aw_isub dX8_lookAt_264 ?_
          refine aw_pI fp_RX8_245 dX8_lookAt_265 hf (fun h7 hf => ?_)
          refine aw_iinc (y4 + 1) [(4, .int (y4 + 1)), (0, .ref y0)] 1 dX8_lookAt_268 rfl rfl (Nat.le_of_ble_eq_true rfl) rfl ?_
          refine aw_goto (tgt := 218) dX8_lookAt_271 rfl ?_
          refine aw_pick [1, 0] rfl ?_
          exact ih h7 y0 (y4 + 1) ho hf kk
set_option maxRecDepth 100000 in
set_option maxHeartbeats 4000000 in
theorem c_X8_lookAt (g : Gx) (h : Hea) (a0 : Nat) (a1 : Int32) (o : Hea) (hf : f_X8_lookAt h a0 a1 = some o) : MC g yX8_lookAt cX8_lookAt 5 none 2 0 0 [.ref a0, .int a1] h (none, o) := by
  refine MC_of (own := RX8) (nm := "lookAt") [(0, .ref a0), (1, .int a1)] rfl rfl pn_RX8 (Nat.le_of_ble_eq_true rfl) rfl ?_
  rw [f_X8_lookAt] at hf
  refine aw_aload_n 0 dX8_lookAt_0 rfl ?_
  refine aw_iload_n 1 dX8_lookAt_1 rfl ?_
  refine aw_pI fp_RX8_236 dX8_lookAt_2 hf (fun h1 hf => ?_)
  refine aw_pick [0] rfl ?_
  refine reg1 (fun (h2 : Hea) => AW g RX8 cX8_lookAt (5, none, "lookAt", 2, 0, 0) (none, o) 43 [(0, .ref a0)] [] h2 0 0) hf (fun h2 hf => ?_) (fun h2 hf hJ => l_X8_lookAt_5 g  lots h1 a0 h2 hf hJ)
  refine aw_aload_n 0 dX8_lookAt_43 rfl ?_
  refine aw_iconst (v := 0) dX8_lookAt_44 rfl ?_
  refine aw_pI fp_RX8_239 dX8_lookAt_45 hf (fun h3 hf => ?_)
  refine aw_aload_n 0 dX8_lookAt_48 rfl ?_
  refine aw_iconst (v := 0) dX8_lookAt_49 rfl ?_
  refine aw_pI fp_RX8_242 dX8_lookAt_50 hf (fun h4 hf => ?_)
  refine aw_aload_n 0 dX8_lookAt_53 rfl ?_
  refine aw_iconst (v := 0) dX8_lookAt_54 rfl ?_
  refine aw_pI fp_RX8_245 dX8_lookAt_55 hf (fun h5 hf => ?_)
  refine aw_aload_n 0 dX8_lookAt_58 rfl ?_
  refine aw_gI fl_RX8_236 dX8_lookAt_59 hf (fun x6 hf => ?_)
  refine aw_aload_n 0 dX8_lookAt_62 rfl ?_
  refine aw_gI fl_RX8_225 dX8_lookAt_63 hf (fun x7 hf => ?_)
  refine aw_icmp_ne (tgt := 70) dX8_lookAt_66 rfl (fun hc => ?_) (fun hc => ?_)
  · have hf := itn0 hc hf
    refine aw_aload_n 0 dX8_lookAt_70 rfl ?_
    refine aw_gR fl_RX8_61 dX8_lookAt_71 hf (fun x8 hf => ?_)
    refine aw_aload_n 0 dX8_lookAt_74 rfl ?_
    refine aw_gI fl_RX8_236 dX8_lookAt_75 hf (fun x9 hf => ?_)
    refine aw_ldI dX8_lookAt_78 hf (fun x10 hf => ?_)
    refine aw_istore_n [(2, .int x10), (0, .ref a0)] dX8_lookAt_79 (Nat.le_of_ble_eq_true rfl) rfl ?_
    refine aw_aload_n 1 dX8_lookAt_80 rfl ?_
    refine aw_iload_n 0 dX8_lookAt_81 rfl ?_
    refine aw_cS_i (st := [.ref a0]) [.int x10] wS_RX8_248 (fun xr er => c_X8_isSmall g h5 x10 xr er) dX8_lookAt_82 rfl rfl (Nat.le_of_ble_eq_true rfl) (Nat.le_of_ble_eq_true rfl) (Nat.le_of_ble_eq_true rfl) (Nat.le_of_ble_eq_true rfl) hf (fun x11 hf => ?_)
    refine reg1 (fun (v12 : Int32) => AW g RX8 cX8_lookAt (5, none, "lookAt", 2, 0, 0) (none, o) 114 [(0, .ref a0)] [.int v12, .ref a0] h5 0 0) hf (fun v12 hf => ?_) (fun v12 hf hJ114 => ?_)
    · refine aw_pI fp_RX8_242 dX8_lookAt_114 hf (fun h14 hf => ?_)
      refine aw_aload_n 0 dX8_lookAt_117 rfl ?_
      refine aw_iconst (v := 1) dX8_lookAt_118 rfl ?_
      refine aw_pI fp_RX8_239 dX8_lookAt_119 hf (fun h15 hf => ?_)
      refine aw_aload_n 0 dX8_lookAt_122 rfl ?_
      refine aw_gI fl_RX8_242 dX8_lookAt_123 hf (fun x16 hf => ?_)
      refine aw_iconst (v := 3) dX8_lookAt_126 rfl ?_
      refine reg1 (fun (v17 : Int32) => AW g RX8 cX8_lookAt (5, none, "lookAt", 2, 0, 0) (none, o) 135 [(0, .ref a0)] [.int v17] h15 0 0) hf (fun v17 hf => ?_) (fun v17 hf hJ135 => ?_)
      · refine aw_istore_n [(3, .int v17), (0, .ref a0)] dX8_lookAt_135 (Nat.le_of_ble_eq_true rfl) rfl ?_
        refine aw_pick [1, 0] rfl ?_
        refine reg1 (fun (h18 : Hea) => AW g RX8 cX8_lookAt (5, none, "lookAt", 2, 0, 0) (none, o) 215 [(0, .ref a0)] [] h18 0 0) hf (fun h18 hf => ?_) (fun h18 hf hJ => l_X8_lookAt_136 g  lots h15 a0 v17 h18 hf hJ)
        refine aw_iconst (v := 0) dX8_lookAt_215 rfl ?_
        refine aw_istore [(4, .int 0), (0, .ref a0)] dX8_lookAt_216 (Nat.le_of_ble_eq_true rfl) rfl ?_
        refine aw_pick [1, 0] rfl ?_
        refine reg1 (fun (h19 : Hea) => AW g RX8 cX8_lookAt (5, none, "lookAt", 2, 0, 0) (none, o) 274 [(0, .ref a0)] [] h19 0 0) hf (fun h19 hf => ?_) (fun h19 hf hJ => l_X8_lookAt_218 g  lots h18 a0 0 h19 hf hJ)
        refine aw_aload_n 0 dX8_lookAt_274 rfl ?_
        refine aw_aload_n 0 dX8_lookAt_275 rfl ?_
        refine aw_gI fl_RX8_242 dX8_lookAt_276 hf (fun x20 hf => ?_)
        refine aw_iconst (v := 2) dX8_lookAt_279 rfl ?_
        refine reg1 (fun (v21 : Int32) => AW g RX8 cX8_lookAt (5, none, "lookAt", 2, 0, 0) (none, o) 299 [] [.int v21, .ref a0] h19 0 0) hf (fun v21 hf => ?_) (fun v21 hf hJ299 => ?_)
        · refine aw_pI fp_RX8_242 dX8_lookAt_299 hf (fun h25 hf => ?_)
          obtain rfl := so1 hf
          exact aw_vret dX8_lookAt_302 rfl rfl
        · refine aw_icmp_ne (tgt := 295) dX8_lookAt_280 rfl (fun hc => ?_) (fun hc => ?_)
          · have hf := itn0 hc hf
            refine aw_aload_n 0 dX8_lookAt_295 rfl ?_
            refine aw_gI fl_RX8_242 dX8_lookAt_296 hf (fun x22 hf => ?_)
            obtain rfl := so1 hf
            exact aw_pick [] rfl hJ299
          · have hf := itp0 hc hf
            refine aw_aload_n 0 dX8_lookAt_283 rfl ?_
            refine aw_gI fl_RX8_239 dX8_lookAt_284 hf (fun x23 hf => ?_)
            refine aw_iconst (v := 2) dX8_lookAt_287 rfl ?_
            refine aw_icmp_le (tgt := 295) dX8_lookAt_288 rfl (fun hc => ?_) (fun hc => ?_)
            · have hf := itp0 hc hf
              refine aw_aload_n 0 dX8_lookAt_295 rfl ?_
              refine aw_gI fl_RX8_242 dX8_lookAt_296 hf (fun x24 hf => ?_)
              obtain rfl := so1 hf
              exact aw_pick [] rfl hJ299
            · have hf := itn0 hc hf
              refine aw_iconst (v := 4) dX8_lookAt_291 rfl ?_
              refine aw_goto (tgt := 299) dX8_lookAt_292 rfl ?_
              obtain rfl := so1 hf
              exact aw_pick [] rfl hJ299
      · refine aw_icmp_ge (tgt := 134) dX8_lookAt_127 rfl (fun hc => ?_) (fun hc => ?_)
        · have hf := itp0 hc hf
          refine aw_iconst (v := 0) dX8_lookAt_134 rfl ?_
          obtain rfl := so1 hf
          exact aw_pick [0] rfl hJ135
        · have hf := itn0 hc hf
          refine aw_iconst (v := 1) dX8_lookAt_130 rfl ?_
          refine aw_goto (tgt := 135) dX8_lookAt_131 rfl ?_
          obtain rfl := so1 hf
          exact aw_pick [0] rfl hJ135
    · refine aw_if_eq (tgt := 92) dX8_lookAt_85 rfl (fun hc => ?_) (fun hc => ?_)
      · have hf := itp0 hc hf
        refine aw_iload_n 0 dX8_lookAt_92 rfl ?_
        refine aw_cS_i (st := [.ref a0]) [.int x10] wS_RX8_251 (fun xr er => c_X8_isFigure g h5 x10 xr er) dX8_lookAt_93 rfl rfl (Nat.le_of_ble_eq_true rfl) (Nat.le_of_ble_eq_true rfl) (Nat.le_of_ble_eq_true rfl) (Nat.le_of_ble_eq_true rfl) hf (fun x13 hf => ?_)
        refine aw_if_eq (tgt := 103) dX8_lookAt_96 rfl (fun hc => ?_) (fun hc => ?_)
        · have hf := itp0 hc hf
          refine aw_iload_n 0 dX8_lookAt_103 rfl ?_
          refine aw_bipush (v := 59) dX8_lookAt_104 rfl ?_
          refine aw_icmp_ne (tgt := 113) dX8_lookAt_106 rfl (fun hc => ?_) (fun hc => ?_)
          · have hf := itn0 hc hf
            refine aw_iconst (v := 4) dX8_lookAt_113 rfl ?_
            obtain rfl := so1 hf
            exact aw_pick [1] rfl hJ114
          · have hf := itp0 hc hf
            refine aw_iconst (v := 3) dX8_lookAt_109 rfl ?_
            refine aw_goto (tgt := 114) dX8_lookAt_110 rfl ?_
            obtain rfl := so1 hf
            exact aw_pick [1] rfl hJ114
        · have hf := itn0 hc hf
          refine aw_iconst (v := 2) dX8_lookAt_99 rfl ?_
          refine aw_goto (tgt := 114) dX8_lookAt_100 rfl ?_
          obtain rfl := so1 hf
          exact aw_pick [1] rfl hJ114
      · have hf := itn0 hc hf
        refine aw_iconst (v := 1) dX8_lookAt_88 rfl ?_
        refine aw_goto (tgt := 114) dX8_lookAt_89 rfl ?_
        obtain rfl := so1 hf
        exact aw_pick [1] rfl hJ114
  · have hf := itp0 hc hf
    obtain rfl := so1 hf
    exact aw_vret dX8_lookAt_69 rfl rfl
set_option maxRecDepth 100000 in
set_option maxHeartbeats 4000000 in
theorem c_X8_goBehind (g : Gx) (h : Hea) (a0 : Nat) (o : Hea) (hf : f_X8_goBehind h a0 = some o) : MC g yX8_goBehind cX8_goBehind 1 none 3 0 0 [.ref a0] h (none, o) := by
  refine MC_of (own := RX8) (nm := "goBehind") [(0, .ref a0)] rfl rfl pn_RX8 (Nat.le_of_ble_eq_true rfl) rfl ?_
  rw [f_X8_goBehind] at hf
  refine aw_aload_n 0 dX8_goBehind_0 rfl ?_
  refine aw_aload_n 0 dX8_goBehind_1 rfl ?_
  refine aw_gI fl_RX8_236 dX8_goBehind_2 hf (fun x1 hf => ?_)
  refine aw_aload_n 0 dX8_goBehind_5 rfl ?_
  refine aw_gI fl_RX8_239 dX8_goBehind_6 hf (fun x2 hf => ?_)
  refine aw_iadd dX8_goBehind_9 ?_
  refine aw_cV_v (st := []) [.int (x1 + x2)] wV_RX8_254 (ci := 8) rfl (fun hr er => c_X8_lookAt g h a0 (x1 + x2) hr er) dX8_goBehind_10 rfl rfl (Nat.le_of_ble_eq_true rfl) (Nat.le_of_ble_eq_true rfl) (Nat.le_of_ble_eq_true rfl) (Nat.le_of_ble_eq_true rfl) hf (fun h3 hf => ?_)
  obtain rfl := so1 hf
  exact aw_vret dX8_goBehind_13 rfl rfl
set_option maxRecDepth 100000 in
set_option maxHeartbeats 4000000 in
theorem l_X8_isWord_26 (g : Gx) {res : Option Value × Hea} : ∀ (n : Nat) (h : Hea) (y0 : Nat) (y1 : Int32) (y2 : Int32) (y3 : Int32) (y4 : Int32) (y5 : Int32) (y6 : Int32) (y7 : Int32) (y8 : Int32) (o7 : Int32) (hf : f_X8_isWord_26 n h y0 y1 y2 y3 y4 y5 y6 y7 y8 = some o7) (kk : AW g RX8 cX8_isWord (9, some .boolean, "isWord", 0, 0, 0) res 108 [(7, .int o7)] [] h 0 0), AW g RX8 cX8_isWord (9, some .boolean, "isWord", 0, 0, 0) res 26 [(0, .ref y0), (1, .int y1), (2, .int y2), (3, .int y3), (4, .int y4), (5, .int y5), (6, .int y6), (7, .int y7), (8, .int y8)] [] h 0 0 := by
  intro n
  induction n with
  | zero =>
    intro h y0 y1 y2 y3 y4 y5 y6 y7 y8 o7 hf kk
    rw [f_X8_isWord_26] at hf
    cases hf
  | succ n ih =>
    intro h y0 y1 y2 y3 y4 y5 y6 y7 y8 o7 hf kk
    rw [f_X8_isWord_26] at hf
    refine aw_iload 8 dX8_isWord_26 rfl ?_
    refine aw_iload_n 1 dX8_isWord_28 rfl ?_
    refine aw_icmp_ge (tgt := 108) dX8_isWord_29 rfl (fun hc => ?_) (fun hc => ?_)
    · have hf := itp0 hc hf
      obtain rfl := so1 hf
      exact aw_pick [7] rfl kk
    · have hf := itn0 hc hf
      refine aw_iload 7 dX8_isWord_32 rfl ?_
      refine aw_if_eq (tgt := 108) dX8_isWord_34 rfl (fun hc => ?_) (fun hc => ?_)
      · have hf := itp0 hc hf
        obtain rfl := so1 hf
        exact aw_pick [7] rfl kk
      · have hf := itn0 hc hf
        refine aw_aload_n 0 dX8_isWord_37 rfl ?_
        refine aw_gR fl_RX8_61 dX8_isWord_38 hf (fun x1 hf => ?_)
        refine aw_aload_n 0 dX8_isWord_41 rfl ?_
        refine aw_gI fl_RX8_236 dX8_isWord_42 hf (fun x2 hf => ?_)
        refine aw_iload 8 dX8_isWord_45 rfl ?_
        refine aw_iadd dX8_isWord_47 ?_
        refine aw_ldI dX8_isWord_48 hf (fun x3 hf => ?_)
        refine aw_iload 8 dX8_isWord_49 rfl ?_
        refine reg1 (fun (v4 : Int32) => AW g RX8 cX8_isWord (9, some .boolean, "isWord", 0, 0, 0) res 92 [(0, .ref y0), (1, .int y1), (2, .int y2), (3, .int y3), (4, .int y4), (5, .int y5), (6, .int y6), (8, .int y8)] [.int v4, .int x3] h 0 0) hf (fun v4 hf => ?_) (fun v4 hf hJ92 => ?_)
        · refine reg1 (fun (v5 : Int32) => AW g RX8 cX8_isWord (9, some .boolean, "isWord", 0, 0, 0) res 100 [(0, .ref y0), (1, .int y1), (2, .int y2), (3, .int y3), (4, .int y4), (5, .int y5), (6, .int y6), (8, .int y8)] [.int v5] h 0 0) hf (fun v5 hf => ?_) (fun v5 hf hJ100 => ?_)
          · refine aw_istore [(7, .int v5), (0, .ref y0), (1, .int y1), (2, .int y2), (3, .int y3), (4, .int y4), (5, .int y5), (6, .int y6), (8, .int y8)] dX8_isWord_100 (Nat.le_of_ble_eq_true rfl) rfl ?_
            refine aw_iinc (y8 + 1) [(8, .int (y8 + 1)), (7, .int v5), (0, .ref y0), (1, .int y1), (2, .int y2), (3, .int y3), (4, .int y4), (5, .int y5), (6, .int y6)] 8 dX8_isWord_102 rfl rfl (Nat.le_of_ble_eq_true rfl) rfl ?_
            refine aw_goto (tgt := 26) dX8_isWord_105 rfl ?_
            refine aw_pick [2, 3, 4, 5, 6, 7, 8, 1, 0] rfl ?_
            exact ih h y0 y1 y2 y3 y4 y5 y6 v5 (y8 + 1) o7 hf kk
          · refine aw_icmp_ne (tgt := 99) dX8_isWord_92 rfl (fun hc => ?_) (fun hc => ?_)
            · have hf := itn0 hc hf
              refine aw_iconst (v := 0) dX8_isWord_99 rfl ?_
              obtain rfl := so1 hf
              exact aw_pick [0, 1, 2, 3, 4, 5, 6, 7] rfl hJ100
            · have hf := itp0 hc hf
              refine aw_iconst (v := 1) dX8_isWord_95 rfl ?_
              refine aw_goto (tgt := 100) dX8_isWord_96 rfl ?_
              obtain rfl := so1 hf
              exact aw_pick [0, 1, 2, 3, 4, 5, 6, 7] rfl hJ100
        · refine aw_if_ne (tgt := 58) dX8_isWord_51 rfl (fun hc => ?_) (fun hc => ?_)
          · have hf := itn0 hc hf
            refine aw_iload 8 dX8_isWord_58 rfl ?_
            refine aw_iconst (v := 1) dX8_isWord_60 rfl ?_
            refine aw_icmp_ne (tgt := 68) dX8_isWord_61 rfl (fun hc => ?_) (fun hc => ?_)
            · have hf := itn0 hc hf
              refine aw_iload 8 dX8_isWord_68 rfl ?_
              refine aw_iconst (v := 2) dX8_isWord_70 rfl ?_
              refine aw_icmp_ne (tgt := 79) dX8_isWord_71 rfl (fun hc => ?_) (fun hc => ?_)
              · have hf := itn0 hc hf
                refine aw_iload 8 dX8_isWord_79 rfl ?_
                refine aw_iconst (v := 3) dX8_isWord_81 rfl ?_
                refine aw_icmp_ne (tgt := 90) dX8_isWord_82 rfl (fun hc => ?_) (fun hc => ?_)
                · have hf := itn0 hc hf
                  refine aw_iload 6 dX8_isWord_90 rfl ?_
                  obtain rfl := so1 hf
                  exact aw_pick [0, 1, 2, 3, 4, 5, 6, 8] rfl hJ92
                · have hf := itp0 hc hf
                  refine aw_iload 5 dX8_isWord_85 rfl ?_
                  refine aw_goto (tgt := 92) dX8_isWord_87 rfl ?_
                  obtain rfl := so1 hf
                  exact aw_pick [0, 1, 2, 3, 4, 5, 6, 8] rfl hJ92
              · have hf := itp0 hc hf
                refine aw_iload 4 dX8_isWord_74 rfl ?_
                refine aw_goto (tgt := 92) dX8_isWord_76 rfl ?_
                obtain rfl := so1 hf
                exact aw_pick [0, 1, 2, 3, 4, 5, 6, 8] rfl hJ92
            · have hf := itp0 hc hf
              refine aw_iload_n 3 dX8_isWord_64 rfl ?_
              refine aw_goto (tgt := 92) dX8_isWord_65 rfl ?_
              obtain rfl := so1 hf
              exact aw_pick [0, 1, 2, 3, 4, 5, 6, 8] rfl hJ92
          · have hf := itp0 hc hf
            refine aw_iload_n 2 dX8_isWord_54 rfl ?_
            refine aw_goto (tgt := 92) dX8_isWord_55 rfl ?_
            obtain rfl := so1 hf
            exact aw_pick [0, 1, 2, 3, 4, 5, 6, 8] rfl hJ92
set_option maxRecDepth 100000 in
set_option maxHeartbeats 4000000 in
theorem c_X8_isWord (g : Gx) (h : Hea) (a0 : Nat) (a1 : Int32) (a2 : Int32) (a3 : Int32) (a4 : Int32) (a5 : Int32) (a6 : Int32) (o : Int32) (hf : f_X8_isWord h a0 a1 a2 a3 a4 a5 a6 = some o) : MC g yX8_isWord cX8_isWord 9 (some .boolean) 0 0 0 [.ref a0, .int a1, .int a2, .int a3, .int a4, .int a5, .int a6] h (some (.int o), h) := by
  refine MC_of (own := RX8) (nm := "isWord") [(0, .ref a0), (1, .int a1), (2, .int a2), (3, .int a3), (4, .int a4), (5, .int a5), (6, .int a6)] rfl rfl pn_RX8 (Nat.le_of_ble_eq_true rfl) rfl ?_
  rw [f_X8_isWord] at hf
  refine aw_aload_n 0 dX8_isWord_0 rfl ?_
  refine aw_gI fl_RX8_242 dX8_isWord_1 hf (fun x1 hf => ?_)
  refine aw_iconst (v := 1) dX8_isWord_4 rfl ?_
  refine reg1 (fun (v2 : Int32) => AW g RX8 cX8_isWord (9, some .boolean, "isWord", 0, 0, 0) (some (.int o), h) 21 [(0, .ref a0), (1, .int a1), (2, .int a2), (3, .int a3), (4, .int a4), (5, .int a5), (6, .int a6)] [.int v2] h 0 0) hf (fun v2 hf => ?_) (fun v2 hf hJ21 => ?_)
  · refine aw_istore [(7, .int v2), (0, .ref a0), (1, .int a1), (2, .int a2), (3, .int a3), (4, .int a4), (5, .int a5), (6, .int a6)] dX8_isWord_21 (Nat.le_of_ble_eq_true rfl) rfl ?_
    refine aw_iconst (v := 0) dX8_isWord_23 rfl ?_
    refine aw_istore [(8, .int 0), (7, .int v2), (0, .ref a0), (1, .int a1), (2, .int a2), (3, .int a3), (4, .int a4), (5, .int a5), (6, .int a6)] dX8_isWord_24 (Nat.le_of_ble_eq_true rfl) rfl ?_
    refine aw_pick [2, 3, 4, 5, 6, 7, 8, 1, 0] rfl ?_
    refine reg1 (fun (v4 : Int32) => AW g RX8 cX8_isWord (9, some .boolean, "isWord", 0, 0, 0) (some (.int o), h) 108 [(7, .int v4)] [] h 0 0) hf (fun v4 hf => ?_) (fun v4 hf hJ => l_X8_isWord_26 g  lots h a0 a1 a2 a3 a4 a5 a6 v2 0 v4 hf hJ)
    refine aw_iload 0 dX8_isWord_108 rfl ?_
    exact aw_zretb dX8_isWord_110 rfl hf rfl
  · refine aw_icmp_ne (tgt := 20) dX8_isWord_5 rfl (fun hc => ?_) (fun hc => ?_)
    · have hf := itn0 hc hf
      refine aw_iconst (v := 0) dX8_isWord_20 rfl ?_
      obtain rfl := so1 hf
      exact aw_pick [0, 1, 2, 3, 4, 5, 6] rfl hJ21
    · have hf := itp0 hc hf
      refine aw_aload_n 0 dX8_isWord_8 rfl ?_
      refine aw_gI fl_RX8_239 dX8_isWord_9 hf (fun x3 hf => ?_)
      refine aw_iload_n 1 dX8_isWord_12 rfl ?_
      refine aw_icmp_ne (tgt := 20) dX8_isWord_13 rfl (fun hc => ?_) (fun hc => ?_)
      · have hf := itn0 hc hf
        refine aw_iconst (v := 0) dX8_isWord_20 rfl ?_
        obtain rfl := so1 hf
        exact aw_pick [0, 1, 2, 3, 4, 5, 6] rfl hJ21
      · have hf := itp0 hc hf
        refine aw_iconst (v := 1) dX8_isWord_16 rfl ?_
        refine aw_goto (tgt := 21) dX8_isWord_17 rfl ?_
        obtain rfl := so1 hf
        exact aw_pick [0, 1, 2, 3, 4, 5, 6] rfl hJ21
set_option maxRecDepth 100000 in
set_option maxHeartbeats 4000000 in
theorem c_X8_takes (g : Gx) (h : Hea) (a0 : Nat) (a1 : Int32) (a2 : Int32) (a3 : Int32) (o : Int32) (hz : Hea) (hf : f_X8_takes h a0 a1 a2 a3 = some (o, hz)) : MC g yX8_takes cX8_takes 4 (some .boolean) 4 0 0 [.ref a0, .int a1, .int a2, .int a3] h (some (.int o), hz) := by
  refine MC_of (own := RX8) (nm := "takes") [(0, .ref a0), (1, .int a1), (2, .int a2), (3, .int a3)] rfl rfl pn_RX8 (Nat.le_of_ble_eq_true rfl) rfl ?_
  rw [f_X8_takes] at hf
  refine aw_aload_n 0 dX8_takes_0 rfl ?_
  refine aw_gI fl_RX8_242 dX8_takes_1 hf (fun x1 hf => ?_)
  refine aw_iconst (v := 2) dX8_takes_4 rfl ?_
  refine aw_icmp_ne (tgt := 23) dX8_takes_5 rfl (fun hc => ?_) (fun hc => ?_)
  · have hf := itn0 hc hf
    refine aw_iconst (v := 0) dX8_takes_23 rfl ?_
    obtain ⟨rfl, rfl⟩ := so2 hf
    exact aw_zret dX8_takes_24 rfl rfl rfl
  · have hf := itp0 hc hf
    refine aw_aload_n 0 dX8_takes_8 rfl ?_
    refine aw_gI fl_RX8_245 dX8_takes_9 hf (fun x2 hf => ?_)
    refine aw_i2l dX8_takes_12 ?_
    refine aw_iload_n 2 dX8_takes_13 rfl ?_
    refine aw_i2l dX8_takes_14 ?_
    refine aw_iload_n 3 dX8_takes_15 rfl ?_
    refine aw_i2l dX8_takes_16 ?_
    refine aw_cS_i (st := []) [.long x2.toInt64, .long a2.toInt64, .long a3.toInt64] wS_RX8_78 (fun xr er => c_X8_in g h x2.toInt64 a2.toInt64 a3.toInt64 xr er) dX8_takes_17 rfl rfl (Nat.le_of_ble_eq_true rfl) (Nat.le_of_ble_eq_true rfl) (Nat.le_of_ble_eq_true rfl) (Nat.le_of_ble_eq_true rfl) hf (fun x3 hf => ?_)
    refine aw_if_ne (tgt := 25) dX8_takes_20 rfl (fun hc => ?_) (fun hc => ?_)
    · have hf := itn0 hc hf
      refine aw_aload_n 0 dX8_takes_25 rfl ?_
      refine aw_gR fl_RX8_67 dX8_takes_26 hf (fun x4 hf => ?_)
      refine aw_iload_n 1 dX8_takes_29 rfl ?_
      refine aw_aload_n 0 dX8_takes_30 rfl ?_
      refine aw_gI fl_RX8_245 dX8_takes_31 hf (fun x5 hf => ?_)
      refine aw_stI dX8_takes_34 hf (fun h6 hf => ?_)
      refine aw_aload_n 0 dX8_takes_35 rfl ?_
      refine aw_cV_v (st := []) [] wV_RX8_257 (ci := 8) rfl (fun hr er => c_X8_goBehind g h6 a0 hr er) dX8_takes_36 rfl rfl (Nat.le_of_ble_eq_true rfl) (Nat.le_of_ble_eq_true rfl) (Nat.le_of_ble_eq_true rfl) (Nat.le_of_ble_eq_true rfl) hf (fun h7 hf => ?_)
      refine aw_iconst (v := 1) dX8_takes_39 rfl ?_
      obtain ⟨rfl, rfl⟩ := so2 hf
      exact aw_zret dX8_takes_40 rfl rfl rfl
    · have hf := itp0 hc hf
      refine aw_iconst (v := 0) dX8_takes_23 rfl ?_
      obtain ⟨rfl, rfl⟩ := so2 hf
      exact aw_zret dX8_takes_24 rfl rfl rfl
set_option maxRecDepth 100000 in
set_option maxHeartbeats 4000000 in
theorem c_X8_takesFirst (g : Gx) (h : Hea) (a0 : Nat) (o : Int32) (hz : Hea) (hf : f_X8_takesFirst h a0 = some (o, hz)) : MC g yX8_takesFirst cX8_takesFirst 1 (some .boolean) 5 0 0 [.ref a0] h (some (.int o), hz) := by
  refine MC_of (own := RX8) (nm := "takesFirst") [(0, .ref a0)] rfl rfl pn_RX8 (Nat.le_of_ble_eq_true rfl) rfl ?_
  rw [f_X8_takesFirst] at hf
  refine aw_aload_n 0 dX8_takesFirst_0 rfl ?_
  refine aw_iconst (v := 5) dX8_takesFirst_1 rfl ?_
  refine aw_bipush (v := 104) dX8_takesFirst_2 rfl ?_
  refine aw_bipush (v := 111) dX8_takesFirst_4 rfl ?_
  refine aw_bipush (v := 117) dX8_takesFirst_6 rfl ?_
  refine aw_bipush (v := 115) dX8_takesFirst_8 rfl ?_
  refine aw_bipush (v := 101) dX8_takesFirst_10 rfl ?_
  refine aw_cV_i (st := []) [.int 5, .int 104, .int 111, .int 117, .int 115, .int 101] wV_RX8_260 (ci := 8) rfl (fun xr er => c_X8_isWord g h a0 5 104 111 117 115 101 xr er) dX8_takesFirst_12 rfl rfl (Nat.le_of_ble_eq_true rfl) (Nat.le_of_ble_eq_true rfl) (Nat.le_of_ble_eq_true rfl) (Nat.le_of_ble_eq_true rfl) hf (fun x1 hf => ?_)
  refine aw_if_ne (tgt := 20) dX8_takesFirst_15 rfl (fun hc => ?_) (fun hc => ?_)
  · have hf := itn0 hc hf
    refine aw_aload_n 0 dX8_takesFirst_20 rfl ?_
    refine aw_cV_v (st := []) [] wV_RX8_257 (ci := 8) rfl (fun hr er => c_X8_goBehind g h a0 hr er) dX8_takesFirst_21 rfl rfl (Nat.le_of_ble_eq_true rfl) (Nat.le_of_ble_eq_true rfl) (Nat.le_of_ble_eq_true rfl) (Nat.le_of_ble_eq_true rfl) hf (fun h2 hf => ?_)
    refine aw_aload_n 0 dX8_takesFirst_24 rfl ?_
    refine aw_iconst (v := 0) dX8_takesFirst_25 rfl ?_
    refine aw_iconst (v := 0) dX8_takesFirst_26 rfl ?_
    refine aw_bipush (v := 25) dX8_takesFirst_27 rfl ?_
    refine aw_cV_wi (st := []) [.int 0, .int 0, .int 25] wV_RX8_264 (ci := 8) rfl (fun xr hr er => c_X8_takes g h2 a0 0 0 25 xr hr er) dX8_takesFirst_29 rfl rfl (Nat.le_of_ble_eq_true rfl) (Nat.le_of_ble_eq_true rfl) (Nat.le_of_ble_eq_true rfl) (Nat.le_of_ble_eq_true rfl) hf (fun x3 h4 hf => ?_)
    refine aw_if_eq (tgt := 46) dX8_takesFirst_32 rfl (fun hc => ?_) (fun hc => ?_)
    · have hf := itp0 hc hf
      refine aw_iconst (v := 0) dX8_takesFirst_46 rfl ?_
      obtain ⟨rfl, rfl⟩ := so2 hf
      exact aw_zret dX8_takesFirst_47 rfl rfl rfl
    · have hf := itn0 hc hf
      refine aw_aload_n 0 dX8_takesFirst_35 rfl ?_
      refine aw_iconst (v := 1) dX8_takesFirst_36 rfl ?_
      refine aw_iconst (v := 0) dX8_takesFirst_37 rfl ?_
      refine aw_bipush (v := 25) dX8_takesFirst_38 rfl ?_
      refine aw_cV_wi (st := []) [.int 1, .int 0, .int 25] wV_RX8_264 (ci := 8) rfl (fun xr hr er => c_X8_takes g h4 a0 1 0 25 xr hr er) dX8_takesFirst_40 rfl rfl (Nat.le_of_ble_eq_true rfl) (Nat.le_of_ble_eq_true rfl) (Nat.le_of_ble_eq_true rfl) (Nat.le_of_ble_eq_true rfl) hf (fun x5 h6 hf => ?_)
      refine aw_if_ne (tgt := 48) dX8_takesFirst_43 rfl (fun hc => ?_) (fun hc => ?_)
      · have hf := itn0 hc hf
        refine aw_aload_n 0 dX8_takesFirst_48 rfl ?_
        refine aw_gR fl_RX8_64 dX8_takesFirst_49 hf (fun x7 hf => ?_)
        refine aw_aload_n 0 dX8_takesFirst_52 rfl ?_
        refine aw_gR fl_RX8_67 dX8_takesFirst_53 hf (fun x8 hf => ?_)
        refine aw_iconst (v := 0) dX8_takesFirst_56 rfl ?_
        refine aw_ldI dX8_takesFirst_57 hf (fun x9 hf => ?_)
        refine aw_aload_n 0 dX8_takesFirst_58 rfl ?_
        refine aw_gR fl_RX8_67 dX8_takesFirst_59 hf (fun x10 hf => ?_)
        refine aw_iconst (v := 1) dX8_takesFirst_62 rfl ?_
        refine aw_ldI dX8_takesFirst_63 hf (fun x11 hf => ?_)
        refine aw_cS_v (st := []) [.ref x7, .int x9, .int x11] wS_RX8_70 (fun hr er => c_X8_begin g h6 x7 x9 x11 hr er) dX8_takesFirst_64 rfl rfl (Nat.le_of_ble_eq_true rfl) (Nat.le_of_ble_eq_true rfl) (Nat.le_of_ble_eq_true rfl) (Nat.le_of_ble_eq_true rfl) hf (fun h12 hf => ?_)
        refine aw_aload_n 0 dX8_takesFirst_67 rfl ?_
        refine aw_gI fl_RX8_242 dX8_takesFirst_68 hf (fun x13 hf => ?_)
        refine aw_iconst (v := 3) dX8_takesFirst_71 rfl ?_
        refine reg1 (fun (v14 : Int32) => AW g RX8 cX8_takesFirst (1, some .boolean, "takesFirst", 5, 0, 0) (some (.int o), hz) 80 [] [.int v14] h12 0 0) hf (fun v14 hf => ?_) (fun v14 hf hJ80 => ?_)
        · exact aw_zretw dX8_takesFirst_80 rfl hf rfl
        · refine aw_icmp_ne (tgt := 79) dX8_takesFirst_72 rfl (fun hc => ?_) (fun hc => ?_)
          · have hf := itn0 hc hf
            refine aw_iconst (v := 0) dX8_takesFirst_79 rfl ?_
            obtain rfl := so1 hf
            exact aw_pick [] rfl hJ80
          · have hf := itp0 hc hf
            refine aw_iconst (v := 1) dX8_takesFirst_75 rfl ?_
            refine aw_goto (tgt := 80) dX8_takesFirst_76 rfl ?_
            obtain rfl := so1 hf
            exact aw_pick [] rfl hJ80
      · have hf := itp0 hc hf
        refine aw_iconst (v := 0) dX8_takesFirst_46 rfl ?_
        obtain ⟨rfl, rfl⟩ := so2 hf
        exact aw_zret dX8_takesFirst_47 rfl rfl rfl
  · have hf := itp0 hc hf
    refine aw_iconst (v := 0) dX8_takesFirst_18 rfl ?_
    obtain ⟨rfl, rfl⟩ := so2 hf
    exact aw_zret dX8_takesFirst_19 rfl rfl rfl
