/-! ===== contracts, by program: X1_witness .. X7_digest ===== -/
set_option maxRecDepth 100000 in
set_option maxHeartbeats 4000000 in
theorem c_X1_witness (g : Gx) (h : Hea) (a0 : Nat) (a1 : Int32) (a2 : Int32) (a3 : Int32) (o : Int32) (hz : Hea) (hf : f_X1_witness h a0 a1 a2 a3 = some (o, hz)) : MC g yX1_witness cX1_witness 4 (some .int) 0 0 0 [.ref a0, .int a1, .int a2, .int a3] h (some (.int o), hz) := by
  refine MC_of (own := RX1) (nm := "witness") [(0, .ref a0), (1, .int a1), (2, .int a2), (3, .int a3)] rfl rfl pn_RX1 (Nat.le_of_ble_eq_true rfl) rfl ?_
  rw [f_X1_witness] at hf
  refine aw_aload_n 0 dX1_witness_0 rfl ?_
  refine aw_gR fl_RX1_34 dX1_witness_1 hf (fun x1 hf => ?_)
  refine aw_aload_n 0 dX1_witness_4 rfl ?_
  refine aw_gI fl_RX1_63 dX1_witness_5 hf (fun x2 hf => ?_)
  refine aw_iload_n 1 dX1_witness_8 rfl ?_
  refine aw_stI dX1_witness_9 hf (fun h3 hf => ?_)
  refine aw_aload_n 0 dX1_witness_10 rfl ?_
  refine aw_gR fl_RX1_37 dX1_witness_11 hf (fun x4 hf => ?_)
  refine aw_aload_n 0 dX1_witness_14 rfl ?_
  refine aw_gI fl_RX1_63 dX1_witness_15 hf (fun x5 hf => ?_)
  refine aw_iload_n 2 dX1_witness_18 rfl ?_
  refine aw_stI dX1_witness_19 hf (fun h6 hf => ?_)
  refine aw_aload_n 0 dX1_witness_20 rfl ?_
  refine aw_gR fl_RX1_40 dX1_witness_21 hf (fun x7 hf => ?_)
  refine aw_aload_n 0 dX1_witness_24 rfl ?_
  refine aw_gI fl_RX1_63 dX1_witness_25 hf (fun x8 hf => ?_)
  refine aw_iload_n 3 dX1_witness_28 rfl ?_
  refine aw_stI dX1_witness_29 hf (fun h9 hf => ?_)
  refine aw_aload_n 0 dX1_witness_30 rfl ?_
  refine aw_dup dX1_witness_31 rfl ?_
  refine aw_gI fl_RX1_63 dX1_witness_32 hf (fun x10 hf => ?_)
  refine aw_iconst (v := 1) dX1_witness_35 rfl ?_
  refine aw_iadd dX1_witness_36 ?_
  refine aw_pI fp_RX1_63 dX1_witness_37 hf (fun h11 hf => ?_)
  refine aw_aload_n 0 dX1_witness_40 rfl ?_
  refine aw_gI fl_RX1_63 dX1_witness_41 hf (fun x12 hf => ?_)
  obtain ⟨rfl, rfl⟩ := so2 hf
  exact aw_iret dX1_witness_44 rfl rfl
set_option maxRecDepth 100000 in
set_option maxHeartbeats 4000000 in
theorem c_X7_seen (g : Gx) (h : Hea) (a0 : Nat) (a1 : Int32) (a2 : Int32) (a3 : Int32) (o : Int32) (hz : Hea) (hf : f_X7_seen h a0 a1 a2 a3 = some (o, hz)) : MC g yX7_seen cX7_seen 4 (some .int) 2 0 0 [.ref a0, .int a1, .int a2, .int a3] h (some (.int o), hz) := by
  refine MC_of (own := RX7) (nm := "seen") [(0, .ref a0), (1, .int a1), (2, .int a2), (3, .int a3)] rfl rfl pn_RX7 (Nat.le_of_ble_eq_true rfl) rfl ?_
  rw [f_X7_seen] at hf
  refine aw_iload_n 1 dX7_seen_0 rfl ?_
  refine aw_cS_i (st := []) [.int a1] wS_RX7_108 (fun xr er => c_X7_isRoom g h a1 xr er) dX7_seen_1 rfl rfl (Nat.le_of_ble_eq_true rfl) (Nat.le_of_ble_eq_true rfl) (Nat.le_of_ble_eq_true rfl) (Nat.le_of_ble_eq_true rfl) hf (fun x1 hf => ?_)
  refine aw_if_eq (tgt := 26) dX7_seen_4 rfl (fun hc => ?_) (fun hc => ?_)
  · have hf := itp0 hc hf
    refine aw_aload_n 0 dX7_seen_26 rfl ?_
    refine aw_cV_wi (st := []) [] wV_RX7_94 (ci := 7) rfl (fun xr hr er => c_X7_refuseBad g h a0 xr hr er) dX7_seen_27 rfl rfl (Nat.le_of_ble_eq_true rfl) (Nat.le_of_ble_eq_true rfl) (Nat.le_of_ble_eq_true rfl) (Nat.le_of_ble_eq_true rfl) hf (fun x2 h3 hf => ?_)
    obtain ⟨rfl, rfl⟩ := so2 hf
    exact aw_iret dX7_seen_30 rfl rfl
  · have hf := itn0 hc hf
    refine aw_iload_n 2 dX7_seen_7 rfl ?_
    refine aw_iconst (v := 0) dX7_seen_8 rfl ?_
    refine aw_bipush (v := 12) dX7_seen_9 rfl ?_
    refine aw_cS_i (st := []) [.int a2, .int 0, .int 12] wS_RX7_90 (fun xr er => c_X7_within g h a2 0 12 xr er) dX7_seen_11 rfl rfl (Nat.le_of_ble_eq_true rfl) (Nat.le_of_ble_eq_true rfl) (Nat.le_of_ble_eq_true rfl) (Nat.le_of_ble_eq_true rfl) hf (fun x4 hf => ?_)
    refine aw_if_eq (tgt := 26) dX7_seen_14 rfl (fun hc => ?_) (fun hc => ?_)
    · have hf := itp0 hc hf
      refine aw_aload_n 0 dX7_seen_26 rfl ?_
      refine aw_cV_wi (st := []) [] wV_RX7_94 (ci := 7) rfl (fun xr hr er => c_X7_refuseBad g h a0 xr hr er) dX7_seen_27 rfl rfl (Nat.le_of_ble_eq_true rfl) (Nat.le_of_ble_eq_true rfl) (Nat.le_of_ble_eq_true rfl) (Nat.le_of_ble_eq_true rfl) hf (fun x5 h6 hf => ?_)
      obtain ⟨rfl, rfl⟩ := so2 hf
      exact aw_iret dX7_seen_30 rfl rfl
    · have hf := itn0 hc hf
      refine aw_iload_n 3 dX7_seen_17 rfl ?_
      refine aw_iconst (v := 0) dX7_seen_18 rfl ?_
      refine aw_iconst (v := 1) dX7_seen_19 rfl ?_
      refine aw_cS_i (st := []) [.int a3, .int 0, .int 1] wS_RX7_90 (fun xr er => c_X7_within g h a3 0 1 xr er) dX7_seen_20 rfl rfl (Nat.le_of_ble_eq_true rfl) (Nat.le_of_ble_eq_true rfl) (Nat.le_of_ble_eq_true rfl) (Nat.le_of_ble_eq_true rfl) hf (fun x7 hf => ?_)
      refine aw_if_ne (tgt := 31) dX7_seen_23 rfl (fun hc => ?_) (fun hc => ?_)
      · have hf := itn0 hc hf
        refine aw_aload_n 0 dX7_seen_31 rfl ?_
        refine aw_gR fl_RX7_10 dX7_seen_32 hf (fun x8 hf => ?_)
        refine aw_gI fl_RX7_254 dX7_seen_35 hf (fun x9 hf => ?_)
        refine aw_bipush (v := 6) dX7_seen_38 rfl ?_
        refine aw_icmp_lt (tgt := 48) dX7_seen_40 rfl (fun hc => ?_) (fun hc => ?_)
        · have hf := itp0 hc hf
          refine aw_aload_n 0 dX7_seen_48 rfl ?_
          refine aw_gR fl_RX7_10 dX7_seen_49 hf (fun x10 hf => ?_)
          refine aw_iload_n 1 dX7_seen_52 rfl ?_
          refine aw_iload_n 2 dX7_seen_53 rfl ?_
          refine aw_iload_n 3 dX7_seen_54 rfl ?_
          refine aw_cV_wi (st := []) [.int a1, .int a2, .int a3] wV_RX7_257 (ci := 1) rfl (fun xr hr er => c_X1_witness g h x10 a1 a2 a3 xr hr er) dX7_seen_55 rfl rfl (Nat.le_of_ble_eq_true rfl) (Nat.le_of_ble_eq_true rfl) (Nat.le_of_ble_eq_true rfl) (Nat.le_of_ble_eq_true rfl) hf (fun x11 h12 hf => ?_)
          obtain ⟨rfl, rfl⟩ := so2 hf
          exact aw_iret dX7_seen_58 rfl rfl
        · have hf := itn0 hc hf
          refine aw_aload_n 0 dX7_seen_43 rfl ?_
          refine aw_cV_wi (st := []) [] wV_RX7_127 (ci := 7) rfl (fun xr hr er => c_X7_refuseFull g h a0 xr hr er) dX7_seen_44 rfl rfl (Nat.le_of_ble_eq_true rfl) (Nat.le_of_ble_eq_true rfl) (Nat.le_of_ble_eq_true rfl) (Nat.le_of_ble_eq_true rfl) hf (fun x13 h14 hf => ?_)
          obtain ⟨rfl, rfl⟩ := so2 hf
          exact aw_iret dX7_seen_47 rfl rfl
      · have hf := itp0 hc hf
        refine aw_aload_n 0 dX7_seen_26 rfl ?_
        refine aw_cV_wi (st := []) [] wV_RX7_94 (ci := 7) rfl (fun xr hr er => c_X7_refuseBad g h a0 xr hr er) dX7_seen_27 rfl rfl (Nat.le_of_ble_eq_true rfl) (Nat.le_of_ble_eq_true rfl) (Nat.le_of_ble_eq_true rfl) (Nat.le_of_ble_eq_true rfl) hf (fun x15 h16 hf => ?_)
        obtain ⟨rfl, rfl⟩ := so2 hf
        exact aw_iret dX7_seen_30 rfl rfl
set_option maxRecDepth 100000 in
set_option maxHeartbeats 4000000 in
theorem c_X7_forget (g : Gx) (h : Hea) (a0 : Nat) (o : Int32) (hz : Hea) (hf : f_X7_forget h a0 = some (o, hz)) : MC g yX7_forget cX7_forget 2 (some .int) 0 0 0 [.ref a0] h (some (.int o), hz) := by
  refine MC_of (own := RX7) (nm := "forget") [(0, .ref a0)] rfl rfl pn_RX7 (Nat.le_of_ble_eq_true rfl) rfl ?_
  rw [f_X7_forget] at hf
  refine aw_aload_n 0 dX7_forget_0 rfl ?_
  refine aw_gR fl_RX7_10 dX7_forget_1 hf (fun x1 hf => ?_)
  refine aw_gI fl_RX7_254 dX7_forget_4 hf (fun x2 hf => ?_)
  refine aw_istore_n [(1, .int x2), (0, .ref a0)] dX7_forget_7 (Nat.le_of_ble_eq_true rfl) rfl ?_
  refine aw_aload_n 1 dX7_forget_8 rfl ?_
  refine aw_gR fl_RX7_10 dX7_forget_9 hf (fun x3 hf => ?_)
  refine aw_iconst (v := 0) dX7_forget_12 rfl ?_
  refine aw_pI fp_RX7_254 dX7_forget_13 hf (fun h4 hf => ?_)
  refine aw_iload_n 0 dX7_forget_16 rfl ?_
  obtain ⟨rfl, rfl⟩ := so2 hf
  exact aw_iret dX7_forget_17 rfl rfl
set_option maxRecDepth 100000 in
set_option maxHeartbeats 4000000 in
theorem l_X5_fits_2 (g : Gx) : ∀ (n : Nat) (h : Hea) (y0 : Nat) (y1 : Int32) (y2 : Int32) (y3 : Int32) (o : Int32) (hf : f_X5_fits_2 n h y0 y1 y2 y3 = some o), AW g RX5 cX5_fits (5, some .boolean, "fits", 0, 0, 0) (some (.int o), h) 2 [(0, .ref y0), (1, .int y1), (2, .int y2), (3, .int y3)] [] h 0 0 := by
  intro n
  induction n with
  | zero =>
    intro h y0 y1 y2 y3 o hf
    rw [f_X5_fits_2] at hf
    cases hf
  | succ n ih =>
    intro h y0 y1 y2 y3 o hf
    rw [f_X5_fits_2] at hf
    refine aw_iload_n 3 dX5_fits_2 rfl ?_
    refine aw_aload_n 0 dX5_fits_3 rfl ?_
    refine aw_gI fl_RX5_51 dX5_fits_4 hf (fun x1 hf => ?_)
    refine aw_icmp_ge (tgt := 65) dX5_fits_7 rfl (fun hc => ?_) (fun hc => ?_)
    · have hf := itp0 hc hf
      refine aw_iconst (v := 1) dX5_fits_65 rfl ?_
      obtain rfl := so1 hf
      exact aw_zret dX5_fits_66 rfl rfl rfl
    · have hf := itn0 hc hf
      refine aw_aload_n 0 dX5_fits_10 rfl ?_
      refine aw_gR fl_RX5_55 dX5_fits_11 hf (fun x2 hf => ?_)
      refine aw_iload_n 3 dX5_fits_14 rfl ?_
      refine aw_ldI dX5_fits_15 hf (fun x3 hf => ?_)
      refine aw_iconst (v := 1) dX5_fits_16 rfl ?_
      refine reg1 (fun (v4 : Int32) => AW g RX5 cX5_fits (5, some .boolean, "fits", 0, 0, 0) (some (.int o), h) 25 [(0, .ref y0), (1, .int y1), (2, .int y2), (3, .int y3)] [.int v4] h 0 0) hf (fun v4 hf => ?_) (fun v4 hf hJ25 => ?_)
      · refine aw_istore [(4, .int v4), (0, .ref y0), (1, .int y1), (2, .int y2), (3, .int y3)] dX5_fits_25 (Nat.le_of_ble_eq_true rfl) rfl ?_
        refine aw_aload_n 1 dX5_fits_27 rfl ?_
        refine aw_gR fl_RX5_59 dX5_fits_28 hf (fun x5 hf => ?_)
        refine aw_iload_n 4 dX5_fits_31 rfl ?_
        refine aw_ldI dX5_fits_32 hf (fun x6 hf => ?_)
        refine aw_iload_n 2 dX5_fits_33 rfl ?_
        refine aw_icmp_ne (tgt := 59) dX5_fits_34 rfl (fun hc => ?_) (fun hc => ?_)
        · have hf := itn0 hc hf
          refine aw_iinc (y3 + 1) [(3, .int (y3 + 1)), (4, .int v4), (0, .ref y0), (1, .int y1), (2, .int y2)] 4 dX5_fits_59 rfl rfl (Nat.le_of_ble_eq_true rfl) rfl ?_
          refine aw_goto (tgt := 2) dX5_fits_62 rfl ?_
          refine aw_pick [2, 3, 4, 0] rfl ?_
          exact ih h y0 y1 y2 (y3 + 1) o hf
        · have hf := itp0 hc hf
          refine aw_aload_n 1 dX5_fits_37 rfl ?_
          refine aw_gR fl_RX5_62 dX5_fits_38 hf (fun x7 hf => ?_)
          refine aw_iload_n 4 dX5_fits_41 rfl ?_
          refine aw_ldI dX5_fits_42 hf (fun x8 hf => ?_)
          refine aw_iload_n 3 dX5_fits_43 rfl ?_
          refine reg1 (fun (v9 : Int32) => AW g RX5 cX5_fits (5, some .boolean, "fits", 0, 0, 0) (some (.int o), h) 52 [(0, .ref y0), (1, .int y1), (2, .int y2), (3, .int y3), (4, .int v4)] [.int v9] h 0 0) hf (fun v9 hf => ?_) (fun v9 hf hJ52 => ?_)
          · refine aw_iload 4 dX5_fits_52 rfl ?_
            refine aw_icmp_eq (tgt := 59) dX5_fits_54 rfl (fun hc => ?_) (fun hc => ?_)
            · have hf := itp0 hc hf
              refine aw_iinc (y3 + 1) [(3, .int (y3 + 1)), (0, .ref y0), (1, .int y1), (2, .int y2), (4, .int v4)] 3 dX5_fits_59 rfl rfl (Nat.le_of_ble_eq_true rfl) rfl ?_
              refine aw_goto (tgt := 2) dX5_fits_62 rfl ?_
              refine aw_pick [1, 2, 3, 0] rfl ?_
              exact ih h y0 y1 y2 (y3 + 1) o hf
            · have hf := itn0 hc hf
              refine aw_iconst (v := 0) dX5_fits_57 rfl ?_
              obtain rfl := so1 hf
              exact aw_zret dX5_fits_58 rfl rfl rfl
          · refine aw_icmp_ne (tgt := 51) dX5_fits_44 rfl (fun hc => ?_) (fun hc => ?_)
            · have hf := itn0 hc hf
              refine aw_iconst (v := 0) dX5_fits_51 rfl ?_
              obtain rfl := so1 hf
              exact aw_pick [1, 2, 3, 4, 0] rfl hJ52
            · have hf := itp0 hc hf
              refine aw_iconst (v := 1) dX5_fits_47 rfl ?_
              refine aw_goto (tgt := 52) dX5_fits_48 rfl ?_
              obtain rfl := so1 hf
              exact aw_pick [1, 2, 3, 4, 0] rfl hJ52
      · refine aw_icmp_ne (tgt := 24) dX5_fits_17 rfl (fun hc => ?_) (fun hc => ?_)
        · have hf := itn0 hc hf
          refine aw_iconst (v := 0) dX5_fits_24 rfl ?_
          obtain rfl := so1 hf
          exact aw_pick [0, 1, 2, 3] rfl hJ25
        · have hf := itp0 hc hf
          refine aw_iconst (v := 1) dX5_fits_20 rfl ?_
          refine aw_goto (tgt := 25) dX5_fits_21 rfl ?_
          obtain rfl := so1 hf
          exact aw_pick [0, 1, 2, 3] rfl hJ25
set_option maxRecDepth 100000 in
set_option maxHeartbeats 4000000 in
theorem c_X5_fits (g : Gx) (h : Hea) (a0 : Nat) (a1 : Int32) (a2 : Int32) (o : Int32) (hf : f_X5_fits h a0 a1 a2 = some o) : MC g yX5_fits cX5_fits 5 (some .boolean) 0 0 0 [.ref a0, .int a1, .int a2] h (some (.int o), h) := by
  refine MC_of (own := RX5) (nm := "fits") [(0, .ref a0), (1, .int a1), (2, .int a2)] rfl rfl pn_RX5 (Nat.le_of_ble_eq_true rfl) rfl ?_
  rw [f_X5_fits] at hf
  refine aw_iconst (v := 0) dX5_fits_0 rfl ?_
  refine aw_istore_n [(3, .int 0), (0, .ref a0), (1, .int a1), (2, .int a2)] dX5_fits_1 (Nat.le_of_ble_eq_true rfl) rfl ?_
  refine aw_pick [1, 2, 3, 0] rfl ?_
  exact l_X5_fits_2 g lots h a0 a1 a2 0 _ hf
set_option maxRecDepth 100000 in
set_option maxHeartbeats 4000000 in
theorem l_X5_begin_2 (g : Gx) {res : Option Value × Hea} : ∀ (n : Nat) (h : Hea) (y0 : Nat) (y1 : Int32) (y2 : Nat) (y3 : Int32) (ho : Hea) (hf : f_X5_begin_2 n h y0 y1 y2 y3 = some ho) (kk : AW g RX5 cX5_begin (4, none, "begin", 1, 0, 0) res 31 [] [] ho 0 0), AW g RX5 cX5_begin (4, none, "begin", 1, 0, 0) res 2 [(0, .ref y0), (1, .int y1), (2, .ref y2), (3, .int y3)] [] h 0 0 := by
  intro n
  induction n with
  | zero =>
    intro h y0 y1 y2 y3 ho hf kk
    rw [f_X5_begin_2] at hf
    cases hf
  | succ n ih =>
    intro h y0 y1 y2 y3 ho hf kk
    rw [f_X5_begin_2] at hf
    refine aw_iload_n 3 dX5_begin_2 rfl ?_
    refine aw_bipush (v := 8) dX5_begin_3 rfl ?_
    refine aw_icmp_ge (tgt := 31) dX5_begin_5 rfl (fun hc => ?_) (fun hc => ?_)
    · have hf := itp0 hc hf
      obtain rfl := so1 hf
      exact aw_pick [] rfl kk
    · have hf := itn0 hc hf
      refine aw_aload_n 2 dX5_begin_8 rfl ?_
      refine aw_iload_n 3 dX5_begin_9 rfl ?_
      refine aw_aload_n 0 dX5_begin_10 rfl ?_
      refine aw_iload_n 1 dX5_begin_11 rfl ?_
      refine aw_iload_n 3 dX5_begin_12 rfl ?_
      refine aw_cS_i (st := [.int y3, .ref y2]) [.ref y0, .int y1, .int y3] wS_RX5_31 (fun xr er => c_X5_fits g h y0 y1 y3 xr er) dX5_begin_13 rfl rfl (Nat.le_of_ble_eq_true rfl) (Nat.le_of_ble_eq_true rfl) (Nat.le_of_ble_eq_true rfl) (Nat.le_of_ble_eq_true rfl) hf (fun x1 hf => ?_)
      refine reg1 (fun (v2 : Int64) => AW g RX5 cX5_begin (4, none, "begin", 1, 0, 0) res 24 [(0, .ref y0), (1, .int y1), (2, .ref y2), (3, .int y3)] [.long v2, .int y3, .ref y2] h 0 0) hf (fun v2 hf => ?_) (fun v2 hf hJ24 => ?_)
      · refine aw_stJ dX5_begin_24 hf (fun h3 hf => ?_)
        refine aw_iinc (y3 + 1) [(3, .int (y3 + 1)), (0, .ref y0), (1, .int y1), (2, .ref y2)] 3 dX5_begin_25 rfl rfl (Nat.le_of_ble_eq_true rfl) rfl ?_
        refine aw_goto (tgt := 2) dX5_begin_28 rfl ?_
        refine aw_pick [1, 2, 3, 0] rfl ?_
        exact ih h3 y0 y1 y2 (y3 + 1) ho hf kk
      · refine aw_if_eq (tgt := 23) dX5_begin_16 rfl (fun hc => ?_) (fun hc => ?_)
        · have hf := itp0 hc hf
          refine aw_lconst (v := 0) dX5_begin_23 rfl ?_
          obtain rfl := so1 hf
          exact aw_pick [0, 1, 2, 3] rfl hJ24
        · have hf := itn0 hc hf
          refine aw_lconst (v := 1) dX5_begin_19 rfl ?_
          refine aw_goto (tgt := 24) dX5_begin_20 rfl ?_
          obtain rfl := so1 hf
          exact aw_pick [0, 1, 2, 3] rfl hJ24
set_option maxRecDepth 100000 in
set_option maxHeartbeats 4000000 in
theorem c_X5_begin (g : Gx) (h : Hea) (a0 : Nat) (a1 : Int32) (a2 : Nat) (o : Hea) (hf : f_X5_begin h a0 a1 a2 = some o) : MC g yX5_begin cX5_begin 4 none 1 0 0 [.ref a0, .int a1, .ref a2] h (none, o) := by
  refine MC_of (own := RX5) (nm := "begin") [(0, .ref a0), (1, .int a1), (2, .ref a2)] rfl rfl pn_RX5 (Nat.le_of_ble_eq_true rfl) rfl ?_
  rw [f_X5_begin] at hf
  refine aw_iconst (v := 0) dX5_begin_0 rfl ?_
  refine aw_istore_n [(3, .int 0), (0, .ref a0), (1, .int a1), (2, .ref a2)] dX5_begin_1 (Nat.le_of_ble_eq_true rfl) rfl ?_
  refine aw_pick [1, 2, 3, 0] rfl ?_
  refine reg1 (fun (h1 : Hea) => AW g RX5 cX5_begin (4, none, "begin", 1, 0, 0) (none, o) 31 [] [] h1 0 0) hf (fun h1 hf => ?_) (fun h1 hf hJ => l_X5_begin_2 g  lots h a0 a1 a2 0 h1 hf hJ)
  obtain rfl := so1 hf
  exact aw_vret dX5_begin_31 rfl rfl
set_option maxRecDepth 100000 in
set_option maxHeartbeats 4000000 in
theorem l_X5_arriving_10 (g : Gx) {res : Option Value × Hea} : ∀ (n : Nat) (h : Hea) (y0 : Nat) (y1 : Nat) (y2 : Int32) (y3 : Int64) (y5 : Int32) (o3 : Int64) (hf : f_X5_arriving_10 n h y0 y1 y2 y3 y5 = some o3) (kk : AW g RX5 cX5_arriving (6, some .long, "arriving", 1, 0, 0) res 43 [(3, .long o3)] [] h 0 0), AW g RX5 cX5_arriving (6, some .long, "arriving", 1, 0, 0) res 10 [(0, .ref y0), (1, .ref y1), (2, .int y2), (3, .long y3), (5, .int y5)] [] h 0 0 := by
  intro n
  induction n with
  | zero =>
    intro h y0 y1 y2 y3 y5 o3 hf kk
    rw [f_X5_arriving_10] at hf
    cases hf
  | succ n ih =>
    intro h y0 y1 y2 y3 y5 o3 hf kk
    rw [f_X5_arriving_10] at hf
    refine aw_iload 4 dX5_arriving_10 rfl ?_
    refine aw_bipush (v := 8) dX5_arriving_12 rfl ?_
    refine aw_icmp_ge (tgt := 43) dX5_arriving_14 rfl (fun hc => ?_) (fun hc => ?_)
    · have hf := itp0 hc hf
      obtain rfl := so1 hf
      exact aw_pick [3] rfl kk
    · have hf := itn0 hc hf
      refine aw_aload_n 1 dX5_arriving_17 rfl ?_
      refine aw_iload 4 dX5_arriving_18 rfl ?_
      refine aw_iload_n 2 dX5_arriving_20 rfl ?_
      refine aw_cV_i (st := []) [.int y5, .int y2] wV_RX5_45 (ci := 1) rfl (fun xr er => c_X1_creaksBetween g h y1 y5 y2 xr er) dX5_arriving_21 rfl rfl (Nat.le_of_ble_eq_true rfl) (Nat.le_of_ble_eq_true rfl) (Nat.le_of_ble_eq_true rfl) (Nat.le_of_ble_eq_true rfl) hf (fun x1 hf => ?_)
      refine reg1 (fun (v2 : Int64) => AW g RX5 cX5_arriving (6, some .long, "arriving", 1, 0, 0) res 37 [(0, .ref y0), (1, .ref y1), (2, .int y2), (3, .long v2), (5, .int y5)] [] h 0 0) hf (fun v2 hf => ?_) (fun v2 hf hJ37 => ?_)
      · refine aw_iinc (y5 + 1) [(5, .int (y5 + 1)), (0, .ref y0), (1, .ref y1), (2, .int y2), (3, .long v2)] 4 dX5_arriving_37 rfl rfl (Nat.le_of_ble_eq_true rfl) rfl ?_
        refine aw_goto (tgt := 10) dX5_arriving_40 rfl ?_
        refine aw_pick [1, 2, 3, 4, 0] rfl ?_
        exact ih h y0 y1 y2 v2 (y5 + 1) o3 hf kk
      · refine aw_if_le (tgt := 37) dX5_arriving_24 rfl (fun hc => ?_) (fun hc => ?_)
        · have hf := itp0 hc hf
          obtain rfl := so1 hf
          exact aw_pick [0, 1, 2, 3, 4] rfl hJ37
        · have hf := itn0 hc hf
          refine aw_lload_n 3 dX5_arriving_27 rfl ?_
          refine aw_aload_n 0 dX5_arriving_28 rfl ?_
          refine aw_gR fl_RX5_21 dX5_arriving_29 hf (fun x3 hf => ?_)
          refine aw_iload 4 dX5_arriving_32 rfl ?_
          refine aw_ldJ dX5_arriving_34 hf (fun x4 hf => ?_)
          refine aw_ladd dX5_arriving_35 ?_
          refine aw_lstore_n [(3, .long (y3 + x4)), (0, .ref y0), (1, .ref y1), (2, .int y2), (5, .int y5)] dX5_arriving_36 (Nat.le_of_ble_eq_true rfl) rfl ?_
          obtain rfl := so1 hf
          exact aw_pick [1, 2, 3, 0, 4] rfl hJ37
set_option maxRecDepth 100000 in
set_option maxHeartbeats 4000000 in
theorem c_X5_arriving (g : Gx) (h : Hea) (a0 : Nat) (a1 : Nat) (a2 : Int32) (o : Int64) (hf : f_X5_arriving h a0 a1 a2 = some o) : MC g yX5_arriving cX5_arriving 6 (some .long) 1 0 0 [.ref a0, .ref a1, .int a2] h (some (.long o), h) := by
  refine MC_of (own := RX5) (nm := "arriving") [(0, .ref a0), (1, .ref a1), (2, .int a2)] rfl rfl pn_RX5 (Nat.le_of_ble_eq_true rfl) rfl ?_
  rw [f_X5_arriving] at hf
  refine aw_aload_n 0 dX5_arriving_0 rfl ?_
  refine aw_gR fl_RX5_21 dX5_arriving_1 hf (fun x1 hf => ?_)
  refine aw_iload_n 2 dX5_arriving_4 rfl ?_
  refine aw_ldJ dX5_arriving_5 hf (fun x2 hf => ?_)
  refine aw_lstore_n [(3, .long x2), (0, .ref a0), (1, .ref a1), (2, .int a2)] dX5_arriving_6 (Nat.le_of_ble_eq_true rfl) rfl ?_
  refine aw_iconst (v := 0) dX5_arriving_7 rfl ?_
  refine aw_istore [(5, .int 0), (3, .long x2), (0, .ref a0), (1, .ref a1), (2, .int a2)] dX5_arriving_8 (Nat.le_of_ble_eq_true rfl) rfl ?_
  refine aw_pick [2, 3, 4, 1, 0] rfl ?_
  refine reg1 (fun (v3 : Int64) => AW g RX5 cX5_arriving (6, some .long, "arriving", 1, 0, 0) (some (.long o), h) 43 [(3, .long v3)] [] h 0 0) hf (fun v3 hf => ?_) (fun v3 hf hJ => l_X5_arriving_10 g  lots h a0 a1 a2 x2 0 v3 hf hJ)
  refine aw_lload_n 0 dX5_arriving_43 rfl ?_
  obtain rfl := so1 hf
  exact aw_lret dX5_arriving_44 rfl rfl
set_option maxRecDepth 100000 in
set_option maxHeartbeats 4000000 in
theorem l_X5_extend_15 (g : Gx) {res : Option Value × Hea} : ∀ (n : Nat) (h : Hea) (y0 : Nat) (y1 : Nat) (y2 : Int32) (y3 : Nat) (y4 : Int32) (ho : Hea) (hf : f_X5_extend_15 n h y0 y1 y2 y3 y4 = some ho) (kk : AW g RX5 cX5_extend (5, none, "extend", 2, 0, 0) res 53 [] [] ho 0 0), AW g RX5 cX5_extend (5, none, "extend", 2, 0, 0) res 15 [(0, .ref y0), (1, .ref y1), (2, .int y2), (3, .ref y3), (4, .int y4)] [] h 0 0 := by
  intro n
  induction n with
  | zero =>
    intro h y0 y1 y2 y3 y4 ho hf kk
    rw [f_X5_extend_15] at hf
    cases hf
  | succ n ih =>
    intro h y0 y1 y2 y3 y4 ho hf kk
    rw [f_X5_extend_15] at hf
    refine aw_iload 4 dX5_extend_15 rfl ?_
    refine aw_bipush (v := 8) dX5_extend_17 rfl ?_
    refine aw_icmp_ge (tgt := 53) dX5_extend_19 rfl (fun hc => ?_) (fun hc => ?_)
    · have hf := itp0 hc hf
      obtain rfl := so1 hf
      exact aw_pick [] rfl kk
    · have hf := itn0 hc hf
      refine aw_aload_n 3 dX5_extend_22 rfl ?_
      refine aw_iload 4 dX5_extend_23 rfl ?_
      refine aw_aload_n 1 dX5_extend_25 rfl ?_
      refine aw_iload_n 2 dX5_extend_26 rfl ?_
      refine aw_iload 4 dX5_extend_27 rfl ?_
      refine aw_cS_i (st := [.int y4, .ref y3]) [.ref y1, .int y2, .int y4] wS_RX5_31 (fun xr er => c_X5_fits g h y1 y2 y4 xr er) dX5_extend_29 rfl rfl (Nat.le_of_ble_eq_true rfl) (Nat.le_of_ble_eq_true rfl) (Nat.le_of_ble_eq_true rfl) (Nat.le_of_ble_eq_true rfl) hf (fun x1 hf => ?_)
      refine reg1 (fun (v2 : Int64) => AW g RX5 cX5_extend (5, none, "extend", 2, 0, 0) res 46 [(0, .ref y0), (1, .ref y1), (2, .int y2), (3, .ref y3), (4, .int y4)] [.long v2, .int y4, .ref y3] h 0 0) hf (fun v2 hf => ?_) (fun v2 hf hJ46 => ?_)
      · refine aw_stJ dX5_extend_46 hf (fun h4 hf => ?_)
        refine aw_iinc (y4 + 1) [(4, .int (y4 + 1)), (0, .ref y0), (1, .ref y1), (2, .int y2), (3, .ref y3)] 4 dX5_extend_47 rfl rfl (Nat.le_of_ble_eq_true rfl) rfl ?_
        refine aw_goto (tgt := 15) dX5_extend_50 rfl ?_
        refine aw_pick [1, 2, 3, 4, 0] rfl ?_
        exact ih h4 y0 y1 y2 y3 (y4 + 1) ho hf kk
      · refine aw_if_eq (tgt := 45) dX5_extend_32 rfl (fun hc => ?_) (fun hc => ?_)
        · have hf := itp0 hc hf
          refine aw_lconst (v := 0) dX5_extend_45 rfl ?_
          obtain rfl := so1 hf
          exact aw_pick [0, 1, 2, 3, 4] rfl hJ46
        · have hf := itn0 hc hf
          refine aw_aload_n 0 dX5_extend_35 rfl ?_
          refine aw_aload_n 1 dX5_extend_36 rfl ?_
          refine aw_iload 4 dX5_extend_37 rfl ?_
          refine aw_cV_l (st := [.int y4, .ref y3]) [.ref y1, .int y4] wV_RX5_41 (ci := 5) rfl (fun xr er => c_X5_arriving g h y0 y1 y4 xr er) dX5_extend_39 rfl rfl (Nat.le_of_ble_eq_true rfl) (Nat.le_of_ble_eq_true rfl) (Nat.le_of_ble_eq_true rfl) (Nat.le_of_ble_eq_true rfl) hf (fun x3 hf => ?_)
          refine aw_goto (tgt := 46) dX5_extend_42 rfl ?_
          obtain rfl := so1 hf
          exact aw_pick [0, 1, 2, 3, 4] rfl hJ46
set_option maxRecDepth 100000 in
set_option maxHeartbeats 4000000 in
theorem c_X5_extend (g : Gx) (h : Hea) (a0 : Nat) (a1 : Nat) (a2 : Int32) (a3 : Nat) (o : Hea) (hf : f_X5_extend h a0 a1 a2 a3 = some o) : MC g yX5_extend cX5_extend 5 none 2 0 0 [.ref a0, .ref a1, .int a2, .ref a3] h (none, o) := by
  refine MC_of (own := RX5) (nm := "extend") [(0, .ref a0), (1, .ref a1), (2, .int a2), (3, .ref a3)] rfl rfl pn_RX5 (Nat.le_of_ble_eq_true rfl) rfl ?_
  rw [f_X5_extend] at hf
  refine aw_aload_n 3 dX5_extend_0 rfl ?_
  refine aw_iconst (v := 0) dX5_extend_1 rfl ?_
  refine aw_aload_n 0 dX5_extend_2 rfl ?_
  refine aw_gR fl_RX5_21 dX5_extend_3 hf (fun x1 hf => ?_)
  refine aw_iconst (v := 0) dX5_extend_6 rfl ?_
  refine aw_bipush (v := 8) dX5_extend_7 rfl ?_
  refine aw_cpJ kw_RX5_35 dX5_extend_9 (Nat.le_of_ble_eq_true rfl) (Nat.le_of_ble_eq_true rfl) hf (fun h2 hf => ?_)
  refine aw_iconst (v := 0) dX5_extend_12 rfl ?_
  refine aw_istore [(4, .int 0), (0, .ref a0), (1, .ref a1), (2, .int a2), (3, .ref a3)] dX5_extend_13 (Nat.le_of_ble_eq_true rfl) rfl ?_
  refine aw_pick [1, 2, 3, 4, 0] rfl ?_
  refine reg1 (fun (h3 : Hea) => AW g RX5 cX5_extend (5, none, "extend", 2, 0, 0) (none, o) 53 [] [] h3 0 0) hf (fun h3 hf => ?_) (fun h3 hf hJ => l_X5_extend_15 g  lots h2 a0 a1 a2 a3 0 h3 hf hJ)
  obtain rfl := so1 hf
  exact aw_vret dX5_extend_53 rfl rfl
set_option maxRecDepth 100000 in
set_option maxHeartbeats 4000000 in
theorem l_X5_countThrough_11 (g : Gx) {res : Option Value × Hea} : ∀ (n : Nat) (h : Hea) (y0 : Nat) (y1 : Nat) (y2 : Int32) (y3 : Int32) (ho : Hea) (hf : f_X5_countThrough_11 n h y0 y1 y2 y3 = some ho) (kk : AW g RX5 cX5_countThrough (4, none, "countThrough", 3, 0, 0) res 32 [(0, .ref y0), (1, .ref y1), (2, .int y2)] [] ho 0 0), AW g RX5 cX5_countThrough (4, none, "countThrough", 3, 0, 0) res 11 [(0, .ref y0), (1, .ref y1), (2, .int y2), (3, .int y3)] [] h 0 0 := by
  intro n
  induction n with
  | zero =>
    intro h y0 y1 y2 y3 ho hf kk
    rw [f_X5_countThrough_11] at hf
    cases hf
  | succ n ih =>
    intro h y0 y1 y2 y3 ho hf kk
    rw [f_X5_countThrough_11] at hf
    refine aw_iload_n 3 dX5_countThrough_11 rfl ?_
    refine aw_iload_n 2 dX5_countThrough_12 rfl ?_
    refine aw_icmp_gt (tgt := 32) dX5_countThrough_13 rfl (fun hc => ?_) (fun hc => ?_)
    · have hf := itp0 hc hf
      obtain rfl := so1 hf
      exact aw_pick [0, 1, 2] rfl kk
    · have hf := itn0 hc hf
      refine aw_aload_n 0 dX5_countThrough_16 rfl ?_
      refine aw_aload_n 1 dX5_countThrough_17 rfl ?_
      refine aw_iload_n 3 dX5_countThrough_18 rfl ?_
      refine aw_aload_n 0 dX5_countThrough_19 rfl ?_
      refine aw_gR fl_RX5_15 dX5_countThrough_20 hf (fun x1 hf => ?_)
      refine aw_cV_v (st := []) [.ref y1, .int y3, .ref x1] wV_RX5_28 (ci := 5) rfl (fun hr er => c_X5_extend g h y0 y1 y3 x1 hr er) dX5_countThrough_23 rfl rfl (Nat.le_of_ble_eq_true rfl) (Nat.le_of_ble_eq_true rfl) (Nat.le_of_ble_eq_true rfl) (Nat.le_of_ble_eq_true rfl) hf (fun h2 hf => ?_)
      refine aw_iinc (y3 + 1) [(3, .int (y3 + 1)), (0, .ref y0), (1, .ref y1), (2, .int y2)] 3 dX5_countThrough_26 rfl rfl (Nat.le_of_ble_eq_true rfl) rfl ?_
      refine aw_goto (tgt := 11) dX5_countThrough_29 rfl ?_
      refine aw_pick [1, 2, 3, 0] rfl ?_
      exact ih h2 y0 y1 y2 (y3 + 1) ho hf kk
set_option maxRecDepth 100000 in
set_option maxHeartbeats 4000000 in
theorem l_X5_countThrough_45 (g : Gx) {res : Option Value × Hea} : ∀ (n : Nat) (h : Hea) (y0 : Nat) (y1 : Nat) (y2 : Int32) (y3 : Int32) (ho : Hea) (hf : f_X5_countThrough_45 n h y0 y1 y2 y3 = some ho) (kk : AW g RX5 cX5_countThrough (4, none, "countThrough", 3, 0, 0) res 66 [(0, .ref y0)] [] ho 0 0), AW g RX5 cX5_countThrough (4, none, "countThrough", 3, 0, 0) res 45 [(0, .ref y0), (1, .ref y1), (2, .int y2), (3, .int y3)] [] h 0 0 := by
  intro n
  induction n with
  | zero =>
    intro h y0 y1 y2 y3 ho hf kk
    rw [f_X5_countThrough_45] at hf
    cases hf
  | succ n ih =>
    intro h y0 y1 y2 y3 ho hf kk
    rw [f_X5_countThrough_45] at hf
    refine aw_iload_n 3 dX5_countThrough_45 rfl ?_
    refine aw_iload_n 2 dX5_countThrough_46 rfl ?_
    refine aw_icmp_lt (tgt := 66) dX5_countThrough_47 rfl (fun hc => ?_) (fun hc => ?_)
    · have hf := itp0 hc hf
      obtain rfl := so1 hf
      exact aw_pick [0] rfl kk
    · have hf := itn0 hc hf
      refine aw_aload_n 0 dX5_countThrough_50 rfl ?_
      refine aw_aload_n 1 dX5_countThrough_51 rfl ?_
      refine aw_iload_n 3 dX5_countThrough_52 rfl ?_
      refine aw_aload_n 0 dX5_countThrough_53 rfl ?_
      refine aw_gR fl_RX5_18 dX5_countThrough_54 hf (fun x1 hf => ?_)
      refine aw_cV_v (st := []) [.ref y1, .int y3, .ref x1] wV_RX5_28 (ci := 5) rfl (fun hr er => c_X5_extend g h y0 y1 y3 x1 hr er) dX5_countThrough_57 rfl rfl (Nat.le_of_ble_eq_true rfl) (Nat.le_of_ble_eq_true rfl) (Nat.le_of_ble_eq_true rfl) (Nat.le_of_ble_eq_true rfl) hf (fun h2 hf => ?_)
      refine aw_iinc (y3 + (-1)) [(3, .int (y3 + (-1))), (0, .ref y0), (1, .ref y1), (2, .int y2)] 3 dX5_countThrough_60 rfl rfl (Nat.le_of_ble_eq_true rfl) rfl ?_
      refine aw_goto (tgt := 45) dX5_countThrough_63 rfl ?_
      refine aw_pick [1, 2, 3, 0] rfl ?_
      exact ih h2 y0 y1 y2 (y3 + (-1)) ho hf kk
set_option maxRecDepth 100000 in
set_option maxHeartbeats 4000000 in
theorem l_X5_countThrough_68 (g : Gx) {res : Option Value × Hea} : ∀ (n : Nat) (h : Hea) (y0 : Nat) (y3 : Int32) (ho : Hea) (hf : f_X5_countThrough_68 n h y0 y3 = some ho) (kk : AW g RX5 cX5_countThrough (4, none, "countThrough", 3, 0, 0) res 99 [] [] ho 0 0), AW g RX5 cX5_countThrough (4, none, "countThrough", 3, 0, 0) res 68 [(0, .ref y0), (3, .int y3)] [] h 0 0 := by
  intro n
  induction n with
  | zero =>
    intro h y0 y3 ho hf kk
    rw [f_X5_countThrough_68] at hf
    cases hf
  | succ n ih =>
    intro h y0 y3 ho hf kk
    rw [f_X5_countThrough_68] at hf
    refine aw_iload_n 1 dX5_countThrough_68 rfl ?_
    refine aw_bipush (v := 8) dX5_countThrough_69 rfl ?_
    refine aw_icmp_ge (tgt := 99) dX5_countThrough_71 rfl (fun hc => ?_) (fun hc => ?_)
    · have hf := itp0 hc hf
      obtain rfl := so1 hf
      exact aw_pick [] rfl kk
    · have hf := itn0 hc hf
      refine aw_aload_n 0 dX5_countThrough_74 rfl ?_
      refine aw_gR fl_RX5_9 dX5_countThrough_75 hf (fun x1 hf => ?_)
      refine aw_iload_n 1 dX5_countThrough_78 rfl ?_
      refine aw_aload_n 0 dX5_countThrough_79 rfl ?_
      refine aw_gR fl_RX5_15 dX5_countThrough_80 hf (fun x2 hf => ?_)
      refine aw_iload_n 1 dX5_countThrough_83 rfl ?_
      refine aw_ldJ dX5_countThrough_84 hf (fun x3 hf => ?_)
      refine aw_aload_n 0 dX5_countThrough_85 rfl ?_
      refine aw_gR fl_RX5_18 dX5_countThrough_86 hf (fun x4 hf => ?_)
      refine aw_iload_n 1 dX5_countThrough_89 rfl ?_
      refine aw_ldJ dX5_countThrough_90 hf (fun x5 hf => ?_)
      refine aw_lmul dX5_countThrough_91 ?_
      refine aw_stJ dX5_countThrough_92 hf (fun h6 hf => ?_)
      refine aw_iinc (y3 + 1) [(3, .int (y3 + 1)), (0, .ref y0)] 1 dX5_countThrough_93 rfl rfl (Nat.le_of_ble_eq_true rfl) rfl ?_
      refine aw_goto (tgt := 68) dX5_countThrough_96 rfl ?_
      refine aw_pick [1, 0] rfl ?_
      exact ih h6 y0 (y3 + 1) ho hf kk
set_option maxRecDepth 100000 in
set_option maxHeartbeats 4000000 in
theorem c_X5_countThrough (g : Gx) (h : Hea) (a0 : Nat) (a1 : Nat) (a2 : Int32) (o : Hea) (hf : f_X5_countThrough h a0 a1 a2 = some o) : MC g yX5_countThrough cX5_countThrough 4 none 3 0 0 [.ref a0, .ref a1, .int a2] h (none, o) := by
  refine MC_of (own := RX5) (nm := "countThrough") [(0, .ref a0), (1, .ref a1), (2, .int a2)] rfl rfl pn_RX5 (Nat.le_of_ble_eq_true rfl) rfl ?_
  rw [f_X5_countThrough] at hf
  refine aw_aload_n 1 dX5_countThrough_0 rfl ?_
  refine aw_iconst (v := 0) dX5_countThrough_1 rfl ?_
  refine aw_aload_n 0 dX5_countThrough_2 rfl ?_
  refine aw_gR fl_RX5_15 dX5_countThrough_3 hf (fun x1 hf => ?_)
  refine aw_cS_v (st := []) [.ref a1, .int 0, .ref x1] wS_RX5_24 (fun hr er => c_X5_begin g h a1 0 x1 hr er) dX5_countThrough_6 rfl rfl (Nat.le_of_ble_eq_true rfl) (Nat.le_of_ble_eq_true rfl) (Nat.le_of_ble_eq_true rfl) (Nat.le_of_ble_eq_true rfl) hf (fun h2 hf => ?_)
  refine aw_iconst (v := 1) dX5_countThrough_9 rfl ?_
  refine aw_istore_n [(3, .int 1), (0, .ref a0), (1, .ref a1), (2, .int a2)] dX5_countThrough_10 (Nat.le_of_ble_eq_true rfl) rfl ?_
  refine aw_pick [1, 2, 3, 0] rfl ?_
  refine reg1 (fun (h3 : Hea) => AW g RX5 cX5_countThrough (4, none, "countThrough", 3, 0, 0) (none, o) 32 [(0, .ref a0), (1, .ref a1), (2, .int a2)] [] h3 0 0) hf (fun h3 hf => ?_) (fun h3 hf hJ => l_X5_countThrough_11 g  lots h2 a0 a1 a2 1 h3 hf hJ)
  refine aw_aload_n 1 dX5_countThrough_32 rfl ?_
  refine aw_bipush (v := 12) dX5_countThrough_33 rfl ?_
  refine aw_aload_n 0 dX5_countThrough_35 rfl ?_
  refine aw_gR fl_RX5_18 dX5_countThrough_36 hf (fun x4 hf => ?_)
  refine aw_cS_v (st := []) [.ref a1, .int 12, .ref x4] wS_RX5_24 (fun hr er => c_X5_begin g h3 a1 12 x4 hr er) dX5_countThrough_39 rfl rfl (Nat.le_of_ble_eq_true rfl) (Nat.le_of_ble_eq_true rfl) (Nat.le_of_ble_eq_true rfl) (Nat.le_of_ble_eq_true rfl) hf (fun h5 hf => ?_)
  refine aw_bipush (v := 11) dX5_countThrough_42 rfl ?_
  refine aw_istore_n [(3, .int 11), (0, .ref a0), (1, .ref a1), (2, .int a2)] dX5_countThrough_44 (Nat.le_of_ble_eq_true rfl) rfl ?_
  refine aw_pick [1, 2, 3, 0] rfl ?_
  refine reg1 (fun (h6 : Hea) => AW g RX5 cX5_countThrough (4, none, "countThrough", 3, 0, 0) (none, o) 66 [(0, .ref a0)] [] h6 0 0) hf (fun h6 hf => ?_) (fun h6 hf hJ => l_X5_countThrough_45 g  lots h5 a0 a1 a2 11 h6 hf hJ)
  refine aw_iconst (v := 0) dX5_countThrough_66 rfl ?_
  refine aw_istore_n [(3, .int 0), (0, .ref a0)] dX5_countThrough_67 (Nat.le_of_ble_eq_true rfl) rfl ?_
  refine aw_pick [1, 0] rfl ?_
  refine reg1 (fun (h7 : Hea) => AW g RX5 cX5_countThrough (4, none, "countThrough", 3, 0, 0) (none, o) 99 [] [] h7 0 0) hf (fun h7 hf => ?_) (fun h7 hf hJ => l_X5_countThrough_68 g  lots h6 a0 0 h7 hf hJ)
  obtain rfl := so1 hf
  exact aw_vret dX5_countThrough_99 rfl rfl
set_option maxRecDepth 100000 in
set_option maxHeartbeats 4000000 in
theorem l_X5_roomsPossible_4 (g : Gx) {res : Option Value × Hea} : ∀ (n : Nat) (h : Hea) (y0 : Nat) (y1 : Int32) (y2 : Int32) (o1 : Int32) (hf : f_X5_roomsPossible_4 n h y0 y1 y2 = some o1) (kk : AW g RX5 cX5_roomsPossible (3, some .int, "roomsPossible", 0, 0, 0) res 33 [(1, .int o1)] [] h 0 0), AW g RX5 cX5_roomsPossible (3, some .int, "roomsPossible", 0, 0, 0) res 4 [(0, .ref y0), (1, .int y1), (2, .int y2)] [] h 0 0 := by
  intro n
  induction n with
  | zero =>
    intro h y0 y1 y2 o1 hf kk
    rw [f_X5_roomsPossible_4] at hf
    cases hf
  | succ n ih =>
    intro h y0 y1 y2 o1 hf kk
    rw [f_X5_roomsPossible_4] at hf
    refine aw_iload_n 2 dX5_roomsPossible_4 rfl ?_
    refine aw_bipush (v := 8) dX5_roomsPossible_5 rfl ?_
    refine aw_icmp_ge (tgt := 33) dX5_roomsPossible_7 rfl (fun hc => ?_) (fun hc => ?_)
    · have hf := itp0 hc hf
      obtain rfl := so1 hf
      exact aw_pick [1] rfl kk
    · have hf := itn0 hc hf
      refine aw_aload_n 0 dX5_roomsPossible_10 rfl ?_
      refine aw_gR fl_RX5_9 dX5_roomsPossible_11 hf (fun x1 hf => ?_)
      refine aw_iload_n 2 dX5_roomsPossible_14 rfl ?_
      refine aw_ldJ dX5_roomsPossible_15 hf (fun x2 hf => ?_)
      refine aw_lconst (v := 0) dX5_roomsPossible_16 rfl ?_
      refine aw_lcmp dX5_roomsPossible_17 ?_
      refine reg1 (fun (v3 : Int32) => AW g RX5 cX5_roomsPossible (3, some .int, "roomsPossible", 0, 0, 0) res 27 [(0, .ref y0), (1, .int v3), (2, .int y2)] [] h 0 0) hf (fun v3 hf => ?_) (fun v3 hf hJ27 => ?_)
      · refine aw_iinc (y2 + 1) [(2, .int (y2 + 1)), (0, .ref y0), (1, .int v3)] 2 dX5_roomsPossible_27 rfl rfl (Nat.le_of_ble_eq_true rfl) rfl ?_
        refine aw_goto (tgt := 4) dX5_roomsPossible_30 rfl ?_
        refine aw_pick [1, 2, 0] rfl ?_
        exact ih h y0 v3 (y2 + 1) o1 hf kk
      · refine aw_if_le (tgt := 27) dX5_roomsPossible_18 rfl (fun hc => ?_) (fun hc => ?_)
        · have hf := itp0 hc hf
          obtain rfl := so1 hf
          exact aw_pick [0, 1, 2] rfl hJ27
        · have hf := itn0 hc hf
          refine aw_iload_n 1 dX5_roomsPossible_21 rfl ?_
          refine aw_iconst (v := 1) dX5_roomsPossible_22 rfl ?_
          refine aw_iload_n 2 dX5_roomsPossible_23 rfl ?_
          refine aw_ishl dX5_roomsPossible_24 ?_
          refine aw_ior dX5_roomsPossible_25 ?_
          refine aw_istore_n [(1, .int (y1 ||| ((1 : Int32) <<< (y2 &&& 31)))), (0, .ref y0), (2, .int y2)] dX5_roomsPossible_26 (Nat.le_of_ble_eq_true rfl) rfl ?_
          obtain rfl := so1 hf
          exact aw_pick [1, 0, 2] rfl hJ27
set_option maxRecDepth 100000 in
set_option maxHeartbeats 4000000 in
theorem c_X5_roomsPossible (g : Gx) (h : Hea) (a0 : Nat) (o : Int32) (hf : f_X5_roomsPossible h a0 = some o) : MC g yX5_roomsPossible cX5_roomsPossible 3 (some .int) 0 0 0 [.ref a0] h (some (.int o), h) := by
  refine MC_of (own := RX5) (nm := "roomsPossible") [(0, .ref a0)] rfl rfl pn_RX5 (Nat.le_of_ble_eq_true rfl) rfl ?_
  rw [f_X5_roomsPossible] at hf
  refine aw_iconst (v := 0) dX5_roomsPossible_0 rfl ?_
  refine aw_istore_n [(1, .int 0), (0, .ref a0)] dX5_roomsPossible_1 (Nat.le_of_ble_eq_true rfl) rfl ?_
  refine aw_iconst (v := 0) dX5_roomsPossible_2 rfl ?_
  refine aw_istore_n [(2, .int 0), (1, .int 0), (0, .ref a0)] dX5_roomsPossible_3 (Nat.le_of_ble_eq_true rfl) rfl ?_
  refine aw_pick [2, 1, 0] rfl ?_
  refine reg1 (fun (v1 : Int32) => AW g RX5 cX5_roomsPossible (3, some .int, "roomsPossible", 0, 0, 0) (some (.int o), h) 33 [(1, .int v1)] [] h 0 0) hf (fun v1 hf => ?_) (fun v1 hf hJ => l_X5_roomsPossible_4 g  lots h a0 0 0 v1 hf hJ)
  refine aw_iload_n 0 dX5_roomsPossible_33 rfl ?_
  obtain rfl := so1 hf
  exact aw_iret dX5_roomsPossible_34 rfl rfl
set_option maxRecDepth 100000 in
set_option maxHeartbeats 4000000 in
theorem c_X7_may (g : Gx) (h : Hea) (a0 : Nat) (a1 : Int32) (o : Int32) (hz : Hea) (hf : f_X7_may h a0 a1 = some (o, hz)) : MC g yX7_may cX7_may 2 (some .int) 4 0 0 [.ref a0, .int a1] h (some (.int o), hz) := by
  refine MC_of (own := RX7) (nm := "may") [(0, .ref a0), (1, .int a1)] rfl rfl pn_RX7 (Nat.le_of_ble_eq_true rfl) rfl ?_
  rw [f_X7_may] at hf
  refine aw_iload_n 1 dX7_may_0 rfl ?_
  refine aw_iconst (v := 0) dX7_may_1 rfl ?_
  refine aw_bipush (v := 12) dX7_may_2 rfl ?_
  refine aw_cS_i (st := []) [.int a1, .int 0, .int 12] wS_RX7_90 (fun xr er => c_X7_within g h a1 0 12 xr er) dX7_may_4 rfl rfl (Nat.le_of_ble_eq_true rfl) (Nat.le_of_ble_eq_true rfl) (Nat.le_of_ble_eq_true rfl) (Nat.le_of_ble_eq_true rfl) hf (fun x1 hf => ?_)
  refine aw_if_ne (tgt := 15) dX7_may_7 rfl (fun hc => ?_) (fun hc => ?_)
  · have hf := itn0 hc hf
    refine aw_aload_n 0 dX7_may_15 rfl ?_
    refine aw_gR fl_RX7_55 dX7_may_16 hf (fun x2 hf => ?_)
    refine aw_aload_n 0 dX7_may_19 rfl ?_
    refine aw_gR fl_RX7_10 dX7_may_20 hf (fun x3 hf => ?_)
    refine aw_iload_n 1 dX7_may_23 rfl ?_
    refine aw_cV_v (st := []) [.ref x3, .int a1] wV_RX7_260 (ci := 5) rfl (fun hr er => c_X5_countThrough g h x2 x3 a1 hr er) dX7_may_24 rfl rfl (Nat.le_of_ble_eq_true rfl) (Nat.le_of_ble_eq_true rfl) (Nat.le_of_ble_eq_true rfl) (Nat.le_of_ble_eq_true rfl) hf (fun h4 hf => ?_)
    refine aw_aload_n 0 dX7_may_27 rfl ?_
    refine aw_gR fl_RX7_55 dX7_may_28 hf (fun x5 hf => ?_)
    refine aw_cV_i (st := []) [] wV_RX7_263 (ci := 5) rfl (fun xr er => c_X5_roomsPossible g h4 x5 xr er) dX7_may_31 rfl rfl (Nat.le_of_ble_eq_true rfl) (Nat.le_of_ble_eq_true rfl) (Nat.le_of_ble_eq_true rfl) (Nat.le_of_ble_eq_true rfl) hf (fun x6 hf => ?_)
    obtain ⟨rfl, rfl⟩ := so2 hf
    exact aw_iret dX7_may_34 rfl rfl
  · have hf := itp0 hc hf
    refine aw_aload_n 0 dX7_may_10 rfl ?_
    refine aw_cV_wi (st := []) [] wV_RX7_94 (ci := 7) rfl (fun xr hr er => c_X7_refuseBad g h a0 xr hr er) dX7_may_11 rfl rfl (Nat.le_of_ble_eq_true rfl) (Nat.le_of_ble_eq_true rfl) (Nat.le_of_ble_eq_true rfl) (Nat.le_of_ble_eq_true rfl) hf (fun x7 h8 hf => ?_)
    obtain ⟨rfl, rfl⟩ := so2 hf
    exact aw_iret dX7_may_14 rfl rfl
set_option maxRecDepth 100000 in
set_option maxHeartbeats 4000000 in
theorem l_X5_total_4 (g : Gx) {res : Option Value × Hea} : ∀ (n : Nat) (h : Hea) (y0 : Nat) (y1 : Int64) (y3 : Int32) (o1 : Int64) (hf : f_X5_total_4 n h y0 y1 y3 = some o1) (kk : AW g RX5 cX5_total (4, some .long, "total", 0, 0, 0) res 25 [(1, .long o1)] [] h 0 0), AW g RX5 cX5_total (4, some .long, "total", 0, 0, 0) res 4 [(0, .ref y0), (1, .long y1), (3, .int y3)] [] h 0 0 := by
  intro n
  induction n with
  | zero =>
    intro h y0 y1 y3 o1 hf kk
    rw [f_X5_total_4] at hf
    cases hf
  | succ n ih =>
    intro h y0 y1 y3 o1 hf kk
    rw [f_X5_total_4] at hf
    refine aw_iload_n 2 dX5_total_4 rfl ?_
    refine aw_bipush (v := 8) dX5_total_5 rfl ?_
    refine aw_icmp_ge (tgt := 25) dX5_total_7 rfl (fun hc => ?_) (fun hc => ?_)
    · have hf := itp0 hc hf
      obtain rfl := so1 hf
      exact aw_pick [1] rfl kk
    · have hf := itn0 hc hf
      refine aw_lload_n 1 dX5_total_10 rfl ?_
      refine aw_aload_n 0 dX5_total_11 rfl ?_
      refine aw_gR fl_RX5_9 dX5_total_12 hf (fun x1 hf => ?_)
      refine aw_iload_n 2 dX5_total_15 rfl ?_
      refine aw_ldJ dX5_total_16 hf (fun x2 hf => ?_)
      refine aw_ladd dX5_total_17 ?_
      refine aw_lstore_n [(1, .long (y1 + x2)), (0, .ref y0), (3, .int y3)] dX5_total_18 (Nat.le_of_ble_eq_true rfl) rfl ?_
      refine aw_iinc (y3 + 1) [(3, .int (y3 + 1)), (1, .long (y1 + x2)), (0, .ref y0)] 2 dX5_total_19 rfl rfl (Nat.le_of_ble_eq_true rfl) rfl ?_
      refine aw_goto (tgt := 4) dX5_total_22 rfl ?_
      refine aw_pick [2, 1, 0] rfl ?_
      exact ih h y0 (y1 + x2) (y3 + 1) o1 hf kk
set_option maxRecDepth 100000 in
set_option maxHeartbeats 4000000 in
theorem c_X5_total (g : Gx) (h : Hea) (a0 : Nat) (o : Int64) (hf : f_X5_total h a0 = some o) : MC g yX5_total cX5_total 4 (some .long) 0 0 0 [.ref a0] h (some (.long o), h) := by
  refine MC_of (own := RX5) (nm := "total") [(0, .ref a0)] rfl rfl pn_RX5 (Nat.le_of_ble_eq_true rfl) rfl ?_
  rw [f_X5_total] at hf
  refine aw_lconst (v := 0) dX5_total_0 rfl ?_
  refine aw_lstore_n [(1, .long 0), (0, .ref a0)] dX5_total_1 (Nat.le_of_ble_eq_true rfl) rfl ?_
  refine aw_iconst (v := 0) dX5_total_2 rfl ?_
  refine aw_istore_n [(3, .int 0), (1, .long 0), (0, .ref a0)] dX5_total_3 (Nat.le_of_ble_eq_true rfl) rfl ?_
  refine aw_pick [2, 1, 0] rfl ?_
  refine reg1 (fun (v1 : Int64) => AW g RX5 cX5_total (4, some .long, "total", 0, 0, 0) (some (.long o), h) 25 [(1, .long v1)] [] h 0 0) hf (fun v1 hf => ?_) (fun v1 hf hJ => l_X5_total_4 g  lots h a0 0 0 v1 hf hJ)
  refine aw_lload_n 0 dX5_total_25 rfl ?_
  obtain rfl := so1 hf
  exact aw_lret dX5_total_26 rfl rfl
set_option maxRecDepth 100000 in
set_option maxHeartbeats 4000000 in
theorem c_X7_ways (g : Gx) (h : Hea) (a0 : Nat) (o : Int64) (hz : Hea) (hf : f_X7_ways h a0 = some (o, hz)) : MC g yX7_ways cX7_ways 1 (some .long) 4 0 0 [.ref a0] h (some (.long o), hz) := by
  refine MC_of (own := RX7) (nm := "ways") [(0, .ref a0)] rfl rfl pn_RX7 (Nat.le_of_ble_eq_true rfl) rfl ?_
  rw [f_X7_ways] at hf
  refine aw_aload_n 0 dX7_ways_0 rfl ?_
  refine aw_gR fl_RX7_55 dX7_ways_1 hf (fun x1 hf => ?_)
  refine aw_aload_n 0 dX7_ways_4 rfl ?_
  refine aw_gR fl_RX7_10 dX7_ways_5 hf (fun x2 hf => ?_)
  refine aw_iconst (v := 0) dX7_ways_8 rfl ?_
  refine aw_cV_v (st := []) [.ref x2, .int 0] wV_RX7_260 (ci := 5) rfl (fun hr er => c_X5_countThrough g h x1 x2 0 hr er) dX7_ways_9 rfl rfl (Nat.le_of_ble_eq_true rfl) (Nat.le_of_ble_eq_true rfl) (Nat.le_of_ble_eq_true rfl) (Nat.le_of_ble_eq_true rfl) hf (fun h3 hf => ?_)
  refine aw_aload_n 0 dX7_ways_12 rfl ?_
  refine aw_gR fl_RX7_55 dX7_ways_13 hf (fun x4 hf => ?_)
  refine aw_cV_l (st := []) [] wV_RX7_266 (ci := 5) rfl (fun xr er => c_X5_total g h3 x4 xr er) dX7_ways_16 rfl rfl (Nat.le_of_ble_eq_true rfl) (Nat.le_of_ble_eq_true rfl) (Nat.le_of_ble_eq_true rfl) (Nat.le_of_ble_eq_true rfl) hf (fun x5 hf => ?_)
  obtain ⟨rfl, rfl⟩ := so2 hf
  exact aw_lret dX7_ways_19 rfl rfl
set_option maxRecDepth 100000 in
set_option maxHeartbeats 4000000 in
theorem l_X5_roomThatTells_23 (g : Gx) {res : Option Value × Hea} : ∀ (n : Nat) (h : Hea) (y0 : Nat) (y1 : Int64) (y3 : Int32) (y4 : Int64) (y6 : Int32) (o3 : Int32) (hf : f_X5_roomThatTells_23 n h y0 y1 y3 y4 y6 = some o3) (kk : AW g RX5 cX5_roomThatTells (9, some .int, "roomThatTells", 1, 0, 0) res 72 [(3, .int o3)] [] h 0 0), AW g RX5 cX5_roomThatTells (9, some .int, "roomThatTells", 1, 0, 0) res 23 [(0, .ref y0), (1, .long y1), (3, .int y3), (4, .long y4), (6, .int y6)] [] h 0 0 := by
  intro n
  induction n with
  | zero =>
    intro h y0 y1 y3 y4 y6 o3 hf kk
    rw [f_X5_roomThatTells_23] at hf
    cases hf
  | succ n ih =>
    intro h y0 y1 y3 y4 y6 o3 hf kk
    rw [f_X5_roomThatTells_23] at hf
    refine aw_iload 4 dX5_roomThatTells_23 rfl ?_
    refine aw_bipush (v := 8) dX5_roomThatTells_25 rfl ?_
    refine aw_icmp_ge (tgt := 72) dX5_roomThatTells_27 rfl (fun hc => ?_) (fun hc => ?_)
    · have hf := itp0 hc hf
      obtain rfl := so1 hf
      exact aw_pick [2] rfl kk
    · have hf := itn0 hc hf
      refine aw_aload_n 0 dX5_roomThatTells_30 rfl ?_
      refine aw_gR fl_RX5_9 dX5_roomThatTells_31 hf (fun x1 hf => ?_)
      refine aw_iload 4 dX5_roomThatTells_34 rfl ?_
      refine aw_ldJ dX5_roomThatTells_36 hf (fun x2 hf => ?_)
      refine aw_lload_n 1 dX5_roomThatTells_37 rfl ?_
      refine aw_aload_n 0 dX5_roomThatTells_38 rfl ?_
      refine aw_gR fl_RX5_9 dX5_roomThatTells_39 hf (fun x3 hf => ?_)
      refine aw_iload 4 dX5_roomThatTells_42 rfl ?_
      refine aw_ldJ dX5_roomThatTells_44 hf (fun x4 hf => ?_)
      refine aw_lsub dX5_roomThatTells_45 ?_
      refine aw_mmaxJ km_RX5_69 dX5_roomThatTells_46 (Nat.le_of_ble_eq_true rfl) (Nat.le_of_ble_eq_true rfl) (Nat.le_of_ble_eq_true rfl) (Nat.le_of_ble_eq_true rfl) ?_
      refine aw_lstore [(7, .long (if y1 - x4 < x2 then x2 else y1 - x4)), (0, .ref y0), (1, .long y1), (3, .int y3), (4, .long y4), (6, .int y6)] dX5_roomThatTells_49 (Nat.le_of_ble_eq_true rfl) rfl ?_
      refine aw_lload 0 dX5_roomThatTells_51 rfl ?_
      refine aw_lload 4 dX5_roomThatTells_53 rfl ?_
      refine aw_lcmp dX5_roomThatTells_55 ?_
      refine reg2 (fun (v5 : Int32) (v6 : Int64) => AW g RX5 cX5_roomThatTells (9, some .int, "roomThatTells", 1, 0, 0) res 66 [(0, .ref y0), (1, .long y1), (3, .int v5), (4, .long v6), (6, .int y6)] [] h 0 0) hf (fun v5 v6 hf => ?_) (fun v5 v6 hf hJ66 => ?_)
      · refine aw_iinc (y6 + 1) [(6, .int (y6 + 1)), (0, .ref y0), (1, .long y1), (3, .int v5), (4, .long v6)] 4 dX5_roomThatTells_66 rfl rfl (Nat.le_of_ble_eq_true rfl) rfl ?_
        refine aw_goto (tgt := 23) dX5_roomThatTells_69 rfl ?_
        refine aw_pick [1, 2, 3, 4, 0] rfl ?_
        exact ih h y0 y1 v5 v6 (y6 + 1) o3 hf kk
      · refine aw_if_ge (tgt := 66) dX5_roomThatTells_56 rfl (fun hc => ?_) (fun hc => ?_)
        · have hf := itp0 hc hf
          obtain ⟨rfl, rfl⟩ := so2 hf
          exact aw_pick [1, 2, 3, 4, 5] rfl hJ66
        · have hf := itn0 hc hf
          refine aw_lload 0 dX5_roomThatTells_59 rfl ?_
          refine aw_lstore [(4, .long (if y1 - x4 < x2 then x2 else y1 - x4)), (7, .long (if y1 - x4 < x2 then x2 else y1 - x4)), (0, .ref y0), (1, .long y1), (3, .int y3), (6, .int y6)] dX5_roomThatTells_61 (Nat.le_of_ble_eq_true rfl) rfl ?_
          refine aw_iload 5 dX5_roomThatTells_63 rfl ?_
          refine aw_istore_n [(3, .int y6), (4, .long (if y1 - x4 < x2 then x2 else y1 - x4)), (7, .long (if y1 - x4 < x2 then x2 else y1 - x4)), (0, .ref y0), (1, .long y1), (6, .int y6)] dX5_roomThatTells_65 (Nat.le_of_ble_eq_true rfl) rfl ?_
          obtain ⟨rfl, rfl⟩ := so2 hf
          exact aw_pick [3, 4, 0, 1, 5] rfl hJ66
set_option maxRecDepth 100000 in
set_option maxHeartbeats 4000000 in
theorem c_X5_roomThatTells (g : Gx) (h : Hea) (a0 : Nat) (o : Int32) (hf : f_X5_roomThatTells h a0 = some o) : MC g yX5_roomThatTells cX5_roomThatTells 9 (some .int) 1 0 0 [.ref a0] h (some (.int o), h) := by
  refine MC_of (own := RX5) (nm := "roomThatTells") [(0, .ref a0)] rfl rfl pn_RX5 (Nat.le_of_ble_eq_true rfl) rfl ?_
  rw [f_X5_roomThatTells] at hf
  refine aw_aload_n 0 dX5_roomThatTells_0 rfl ?_
  refine aw_cV_l (st := []) [] wV_RX5_65 (ci := 5) rfl (fun xr er => c_X5_total g h a0 xr er) dX5_roomThatTells_1 rfl rfl (Nat.le_of_ble_eq_true rfl) (Nat.le_of_ble_eq_true rfl) (Nat.le_of_ble_eq_true rfl) (Nat.le_of_ble_eq_true rfl) hf (fun x1 hf => ?_)
  refine aw_lstore_n [(1, .long x1), (0, .ref a0)] dX5_roomThatTells_4 (Nat.le_of_ble_eq_true rfl) rfl ?_
  refine aw_lload_n 0 dX5_roomThatTells_5 rfl ?_
  refine aw_lconst (v := 0) dX5_roomThatTells_6 rfl ?_
  refine aw_lcmp dX5_roomThatTells_7 ?_
  refine aw_if_ne (tgt := 13) dX5_roomThatTells_8 rfl (fun hc => ?_) (fun hc => ?_)
  · have hf := itn0 hc hf
    refine aw_iconst (v := (-1)) dX5_roomThatTells_13 rfl ?_
    refine aw_istore_n [(3, .int (-1)), (1, .long x1), (0, .ref a0)] dX5_roomThatTells_14 (Nat.le_of_ble_eq_true rfl) rfl ?_
    refine aw_lload_n 1 dX5_roomThatTells_15 rfl ?_
    refine aw_lconst (v := 1) dX5_roomThatTells_16 rfl ?_
    refine aw_ladd dX5_roomThatTells_17 ?_
    refine aw_lstore [(4, .long (x1 + 1)), (3, .int (-1)), (1, .long x1), (0, .ref a0)] dX5_roomThatTells_18 (Nat.le_of_ble_eq_true rfl) rfl ?_
    refine aw_iconst (v := 0) dX5_roomThatTells_20 rfl ?_
    refine aw_istore [(6, .int 0), (4, .long (x1 + 1)), (3, .int (-1)), (1, .long x1), (0, .ref a0)] dX5_roomThatTells_21 (Nat.le_of_ble_eq_true rfl) rfl ?_
    refine aw_pick [4, 3, 2, 1, 0] rfl ?_
    refine reg1 (fun (v2 : Int32) => AW g RX5 cX5_roomThatTells (9, some .int, "roomThatTells", 1, 0, 0) (some (.int o), h) 72 [(3, .int v2)] [] h 0 0) hf (fun v2 hf => ?_) (fun v2 hf hJ => l_X5_roomThatTells_23 g  lots h a0 x1 (-1) (x1 + 1) 0 v2 hf hJ)
    refine aw_iload_n 0 dX5_roomThatTells_72 rfl ?_
    obtain rfl := so1 hf
    exact aw_iret dX5_roomThatTells_73 rfl rfl
  · have hf := itp0 hc hf
    refine aw_iconst (v := (-1)) dX5_roomThatTells_11 rfl ?_
    obtain rfl := so1 hf
    exact aw_iret dX5_roomThatTells_12 rfl rfl
set_option maxRecDepth 100000 in
set_option maxHeartbeats 4000000 in
theorem c_X7_peek (g : Gx) (h : Hea) (a0 : Nat) (a1 : Int32) (o : Int32) (hz : Hea) (hf : f_X7_peek h a0 a1 = some (o, hz)) : MC g yX7_peek cX7_peek 2 (some .int) 4 0 0 [.ref a0, .int a1] h (some (.int o), hz) := by
  refine MC_of (own := RX7) (nm := "peek") [(0, .ref a0), (1, .int a1)] rfl rfl pn_RX7 (Nat.le_of_ble_eq_true rfl) rfl ?_
  rw [f_X7_peek] at hf
  refine aw_iload_n 1 dX7_peek_0 rfl ?_
  refine aw_iconst (v := 0) dX7_peek_1 rfl ?_
  refine aw_bipush (v := 12) dX7_peek_2 rfl ?_
  refine aw_cS_i (st := []) [.int a1, .int 0, .int 12] wS_RX7_90 (fun xr er => c_X7_within g h a1 0 12 xr er) dX7_peek_4 rfl rfl (Nat.le_of_ble_eq_true rfl) (Nat.le_of_ble_eq_true rfl) (Nat.le_of_ble_eq_true rfl) (Nat.le_of_ble_eq_true rfl) hf (fun x1 hf => ?_)
  refine aw_if_ne (tgt := 15) dX7_peek_7 rfl (fun hc => ?_) (fun hc => ?_)
  · have hf := itn0 hc hf
    refine aw_aload_n 0 dX7_peek_15 rfl ?_
    refine aw_gR fl_RX7_55 dX7_peek_16 hf (fun x2 hf => ?_)
    refine aw_aload_n 0 dX7_peek_19 rfl ?_
    refine aw_gR fl_RX7_10 dX7_peek_20 hf (fun x3 hf => ?_)
    refine aw_iload_n 1 dX7_peek_23 rfl ?_
    refine aw_cV_v (st := []) [.ref x3, .int a1] wV_RX7_260 (ci := 5) rfl (fun hr er => c_X5_countThrough g h x2 x3 a1 hr er) dX7_peek_24 rfl rfl (Nat.le_of_ble_eq_true rfl) (Nat.le_of_ble_eq_true rfl) (Nat.le_of_ble_eq_true rfl) (Nat.le_of_ble_eq_true rfl) hf (fun h4 hf => ?_)
    refine aw_aload_n 0 dX7_peek_27 rfl ?_
    refine aw_gR fl_RX7_55 dX7_peek_28 hf (fun x5 hf => ?_)
    refine aw_cV_i (st := []) [] wV_RX7_270 (ci := 5) rfl (fun xr er => c_X5_roomThatTells g h4 x5 xr er) dX7_peek_31 rfl rfl (Nat.le_of_ble_eq_true rfl) (Nat.le_of_ble_eq_true rfl) (Nat.le_of_ble_eq_true rfl) (Nat.le_of_ble_eq_true rfl) hf (fun x6 hf => ?_)
    obtain ⟨rfl, rfl⟩ := so2 hf
    exact aw_iret dX7_peek_34 rfl rfl
  · have hf := itp0 hc hf
    refine aw_aload_n 0 dX7_peek_10 rfl ?_
    refine aw_cV_wi (st := []) [] wV_RX7_94 (ci := 7) rfl (fun xr hr er => c_X7_refuseBad g h a0 xr hr er) dX7_peek_11 rfl rfl (Nat.le_of_ble_eq_true rfl) (Nat.le_of_ble_eq_true rfl) (Nat.le_of_ble_eq_true rfl) (Nat.le_of_ble_eq_true rfl) hf (fun x7 h8 hf => ?_)
    obtain ⟨rfl, rfl⟩ := so2 hf
    exact aw_iret dX7_peek_14 rfl rfl
set_option maxRecDepth 100000 in
set_option maxHeartbeats 4000000 in
theorem l_X0_moveBySeed_6 (g : Gx) {res : Option Value × Hea} : ∀ (n : Nat) (h : Hea) (y0 : Nat) (y1 : Nat) (y4 : Int64) (y6 : Int32) (o4 : Int64) (ho : Hea) (hf : f_X0_moveBySeed_6 n h y0 y1 y4 y6 = some (o4, ho)) (kk : AW g RX0 cX0_moveBySeed (8, some .long, "moveBySeed", 1, 0, 0) res 93 [(4, .long o4)] [] ho 0 0), AW g RX0 cX0_moveBySeed (8, some .long, "moveBySeed", 1, 0, 0) res 6 [(0, .ref y0), (1, .ref y1), (4, .long y4), (6, .int y6)] [] h 0 0 := by
  intro n
  induction n with
  | zero =>
    intro h y0 y1 y4 y6 o4 ho hf kk
    rw [f_X0_moveBySeed_6] at hf
    cases hf
  | succ n ih =>
    intro h y0 y1 y4 y6 o4 ho hf kk
    rw [f_X0_moveBySeed_6] at hf
    refine aw_iload 3 dX0_moveBySeed_6 rfl ?_
    refine aw_aload_n 1 dX0_moveBySeed_8 rfl ?_
    refine aw_gI fl_RX0_99 dX0_moveBySeed_9 hf (fun x1 hf => ?_)
    refine aw_icmp_ge (tgt := 93) dX0_moveBySeed_12 rfl (fun hc => ?_) (fun hc => ?_)
    · have hf := itp0 hc hf
      obtain ⟨rfl, rfl⟩ := so2 hf
      exact aw_pick [2] rfl kk
    · have hf := itn0 hc hf
      refine aw_lload 2 dX0_moveBySeed_15 rfl ?_
      refine aw_ldc2 (v := 1103515245) kc_RX0_109 dX0_moveBySeed_17 ?_
      refine aw_lmul dX0_moveBySeed_20 ?_
      refine aw_ldc2 (v := 12345) kc_RX0_111 dX0_moveBySeed_21 ?_
      refine aw_ladd dX0_moveBySeed_24 ?_
      refine aw_ldc2 (v := 2147483648) kc_RX0_113 dX0_moveBySeed_25 ?_
      refine aw_lrem0 dX0_moveBySeed_28 (by decide) ?_
      refine aw_lstore [(4, .long (((y4 * 1103515245) + 12345) - ((y4 * 1103515245) + 12345) / 2147483648 * 2147483648)), (0, .ref y0), (1, .ref y1), (6, .int y6)] dX0_moveBySeed_29 (Nat.le_of_ble_eq_true rfl) rfl ?_
      refine aw_lload 0 dX0_moveBySeed_31 rfl ?_
      refine aw_ldc2 (v := 65536) kc_RX0_115 dX0_moveBySeed_33 ?_
      refine aw_ldiv0 dX0_moveBySeed_36 (by decide) ?_
      refine aw_ldc2 (v := 8) kc_RX0_117 dX0_moveBySeed_37 ?_
      refine aw_lrem0 dX0_moveBySeed_40 (by decide) ?_
      refine aw_l2i dX0_moveBySeed_41 ?_
      refine aw_istore [(7, .int ((((((y4 * 1103515245) + 12345) - ((y4 * 1103515245) + 12345) / 2147483648 * 2147483648) / 65536) - ((((y4 * 1103515245) + 12345) - ((y4 * 1103515245) + 12345) / 2147483648 * 2147483648) / 65536) / 8 * 8).toInt32)), (4, .long (((y4 * 1103515245) + 12345) - ((y4 * 1103515245) + 12345) / 2147483648 * 2147483648)), (0, .ref y0), (1, .ref y1), (6, .int y6)] dX0_moveBySeed_42 (Nat.le_of_ble_eq_true rfl) rfl ?_
      refine aw_aload_n 2 dX0_moveBySeed_44 rfl ?_
      refine aw_gR fl_RX0_12 dX0_moveBySeed_45 hf (fun x2 hf => ?_)
      refine aw_gR fl_RX0_51 dX0_moveBySeed_48 hf (fun x3 hf => ?_)
      refine aw_iload 4 dX0_moveBySeed_51 rfl ?_
      refine aw_ldI dX0_moveBySeed_53 hf (fun x4 hf => ?_)
      refine reg1 (fun (h5 : Hea) => AW g RX0 cX0_moveBySeed (8, some .long, "moveBySeed", 1, 0, 0) res 87 [(0, .ref y0), (1, .ref y1), (4, .long (((y4 * 1103515245) + 12345) - ((y4 * 1103515245) + 12345) / 2147483648 * 2147483648)), (6, .int y6)] [] h5 0 0) hf (fun h5 hf => ?_) (fun h5 hf hJ87 => ?_)
      · refine aw_iinc (y6 + 1) [(6, .int (y6 + 1)), (0, .ref y0), (1, .ref y1), (4, .long (((y4 * 1103515245) + 12345) - ((y4 * 1103515245) + 12345) / 2147483648 * 2147483648))] 3 dX0_moveBySeed_87 rfl rfl (Nat.le_of_ble_eq_true rfl) rfl ?_
        refine aw_goto (tgt := 6) dX0_moveBySeed_90 rfl ?_
        refine aw_pick [1, 2, 3, 0] rfl ?_
        exact ih h5 y0 y1 (((y4 * 1103515245) + 12345) - ((y4 * 1103515245) + 12345) / 2147483648 * 2147483648) (y6 + 1) o4 ho hf kk
      · refine aw_if_ne (tgt := 87) dX0_moveBySeed_54 rfl (fun hc => ?_) (fun hc => ?_)
        · have hf := itn0 hc hf
          obtain rfl := so1 hf
          exact aw_pick [2, 3, 1, 4] rfl hJ87
        · have hf := itp0 hc hf
          refine aw_aload_n 3 dX0_moveBySeed_57 rfl ?_
          refine aw_aload_n 2 dX0_moveBySeed_58 rfl ?_
          refine aw_gR fl_RX0_12 dX0_moveBySeed_59 hf (fun x6 hf => ?_)
          refine aw_gR fl_RX0_40 dX0_moveBySeed_62 hf (fun x7 hf => ?_)
          refine aw_iload 4 dX0_moveBySeed_65 rfl ?_
          refine aw_ldI dX0_moveBySeed_67 hf (fun x8 hf => ?_)
          refine aw_iload 0 dX0_moveBySeed_68 rfl ?_
          refine aw_cV_i (st := []) [.int x8, .int ((((((y4 * 1103515245) + 12345) - ((y4 * 1103515245) + 12345) / 2147483648 * 2147483648) / 65536) - ((((y4 * 1103515245) + 12345) - ((y4 * 1103515245) + 12345) / 2147483648 * 2147483648) / 65536) / 8 * 8).toInt32)] wV_RX0_70 (ci := 1) rfl (fun xr er => c_X1_creaksBetween g h y1 x8 ((((((y4 * 1103515245) + 12345) - ((y4 * 1103515245) + 12345) / 2147483648 * 2147483648) / 65536) - ((((y4 * 1103515245) + 12345) - ((y4 * 1103515245) + 12345) / 2147483648 * 2147483648) / 65536) / 8 * 8).toInt32) xr er) dX0_moveBySeed_70 rfl rfl (Nat.le_of_ble_eq_true rfl) (Nat.le_of_ble_eq_true rfl) (Nat.le_of_ble_eq_true rfl) (Nat.le_of_ble_eq_true rfl) hf (fun x9 hf => ?_)
          refine aw_if_le (tgt := 87) dX0_moveBySeed_73 rfl (fun hc => ?_) (fun hc => ?_)
          · have hf := itp0 hc hf
            obtain rfl := so1 hf
            exact aw_pick [2, 3, 1, 4] rfl hJ87
          · have hf := itn0 hc hf
            refine aw_aload_n 2 dX0_moveBySeed_76 rfl ?_
            refine aw_gR fl_RX0_12 dX0_moveBySeed_77 hf (fun x10 hf => ?_)
            refine aw_iload 4 dX0_moveBySeed_80 rfl ?_
            refine aw_iload 0 dX0_moveBySeed_82 rfl ?_
            refine aw_cV_v (st := []) [.int y6, .int ((((((y4 * 1103515245) + 12345) - ((y4 * 1103515245) + 12345) / 2147483648 * 2147483648) / 65536) - ((((y4 * 1103515245) + 12345) - ((y4 * 1103515245) + 12345) / 2147483648 * 2147483648) / 65536) / 8 * 8).toInt32)] wV_RX0_73 (ci := 3) rfl (fun hr er => c_X3_go g h x10 y6 ((((((y4 * 1103515245) + 12345) - ((y4 * 1103515245) + 12345) / 2147483648 * 2147483648) / 65536) - ((((y4 * 1103515245) + 12345) - ((y4 * 1103515245) + 12345) / 2147483648 * 2147483648) / 65536) / 8 * 8).toInt32) hr er) dX0_moveBySeed_84 rfl rfl (Nat.le_of_ble_eq_true rfl) (Nat.le_of_ble_eq_true rfl) (Nat.le_of_ble_eq_true rfl) (Nat.le_of_ble_eq_true rfl) hf (fun h11 hf => ?_)
            obtain rfl := so1 hf
            exact aw_pick [2, 3, 1, 4] rfl hJ87
set_option maxRecDepth 100000 in
set_option maxHeartbeats 4000000 in
theorem c_X0_moveBySeed (g : Gx) (h : Hea) (a0 : Nat) (a1 : Nat) (a2 : Int64) (o : Int64) (hz : Hea) (hf : f_X0_moveBySeed h a0 a1 a2 = some (o, hz)) : MC g yX0_moveBySeed cX0_moveBySeed 8 (some .long) 1 0 0 [.ref a0, .ref a1, .long a2] h (some (.long o), hz) := by
  refine MC_of (own := RX0) (nm := "moveBySeed") [(0, .ref a0), (1, .ref a1), (2, .long a2)] rfl rfl pn_RX0 (Nat.le_of_ble_eq_true rfl) rfl ?_
  rw [f_X0_moveBySeed] at hf
  refine aw_lload_n 2 dX0_moveBySeed_0 rfl ?_
  refine aw_lstore [(4, .long a2), (0, .ref a0), (1, .ref a1), (2, .long a2)] dX0_moveBySeed_1 (Nat.le_of_ble_eq_true rfl) rfl ?_
  refine aw_iconst (v := 0) dX0_moveBySeed_3 rfl ?_
  refine aw_istore [(6, .int 0), (4, .long a2), (0, .ref a0), (1, .ref a1), (2, .long a2)] dX0_moveBySeed_4 (Nat.le_of_ble_eq_true rfl) rfl ?_
  refine aw_pick [2, 3, 1, 0] rfl ?_
  refine reg2 (fun (v1 : Int64) (h2 : Hea) => AW g RX0 cX0_moveBySeed (8, some .long, "moveBySeed", 1, 0, 0) (some (.long o), hz) 93 [(4, .long v1)] [] h2 0 0) hf (fun v1 h2 hf => ?_) (fun v1 h2 hf hJ => l_X0_moveBySeed_6 g  lots h a0 a1 a2 0 v1 h2 hf hJ)
  refine aw_lload 0 dX0_moveBySeed_93 rfl ?_
  obtain ⟨rfl, rfl⟩ := so2 hf
  exact aw_lret dX0_moveBySeed_95 rfl rfl
set_option maxRecDepth 100000 in
set_option maxHeartbeats 4000000 in
theorem l_X1_heirsThat_5 (g : Gx) {res : Option Value × Hea} : ∀ (n : Nat) (h : Hea) (y0 : Nat) (y1 : Nat) (y2 : Int32) (y3 : Int32) (y4 : Int32) (o3 : Int32) (hf : f_X1_heirsThat_5 n h y0 y1 y2 y3 y4 = some o3) (kk : AW g RX1 cX1_heirsThat (5, some .int, "heirsThat", 0, 0, 0) res 34 [(3, .int o3)] [] h 0 0), AW g RX1 cX1_heirsThat (5, some .int, "heirsThat", 0, 0, 0) res 5 [(0, .ref y0), (1, .ref y1), (2, .int y2), (3, .int y3), (4, .int y4)] [] h 0 0 := by
  intro n
  induction n with
  | zero =>
    intro h y0 y1 y2 y3 y4 o3 hf kk
    rw [f_X1_heirsThat_5] at hf
    cases hf
  | succ n ih =>
    intro h y0 y1 y2 y3 y4 o3 hf kk
    rw [f_X1_heirsThat_5] at hf
    refine aw_iload 4 dX1_heirsThat_5 rfl ?_
    refine aw_aload_n 0 dX1_heirsThat_7 rfl ?_
    refine aw_gI fl_RX1_57 dX1_heirsThat_8 hf (fun x1 hf => ?_)
    refine aw_icmp_ge (tgt := 34) dX1_heirsThat_11 rfl (fun hc => ?_) (fun hc => ?_)
    · have hf := itp0 hc hf
      obtain rfl := so1 hf
      exact aw_pick [3] rfl kk
    · have hf := itn0 hc hf
      refine aw_aload_n 1 dX1_heirsThat_14 rfl ?_
      refine aw_gR fl_RX1_98 dX1_heirsThat_15 hf (fun x2 hf => ?_)
      refine aw_iload 4 dX1_heirsThat_18 rfl ?_
      refine aw_ldI dX1_heirsThat_20 hf (fun x3 hf => ?_)
      refine aw_iload_n 2 dX1_heirsThat_21 rfl ?_
      refine reg1 (fun (v4 : Int32) => AW g RX1 cX1_heirsThat (5, some .int, "heirsThat", 0, 0, 0) res 28 [(0, .ref y0), (1, .ref y1), (2, .int y2), (3, .int v4), (4, .int y4)] [] h 0 0) hf (fun v4 hf => ?_) (fun v4 hf hJ28 => ?_)
      · refine aw_iinc (y4 + 1) [(4, .int (y4 + 1)), (0, .ref y0), (1, .ref y1), (2, .int y2), (3, .int v4)] 4 dX1_heirsThat_28 rfl rfl (Nat.le_of_ble_eq_true rfl) rfl ?_
        refine aw_goto (tgt := 5) dX1_heirsThat_31 rfl ?_
        refine aw_pick [1, 2, 3, 4, 0] rfl ?_
        exact ih h y0 y1 y2 v4 (y4 + 1) o3 hf kk
      · refine aw_icmp_ne (tgt := 28) dX1_heirsThat_22 rfl (fun hc => ?_) (fun hc => ?_)
        · have hf := itn0 hc hf
          obtain rfl := so1 hf
          exact aw_pick [0, 1, 2, 3, 4] rfl hJ28
        · have hf := itp0 hc hf
          refine aw_iinc (y3 + 1) [(3, .int (y3 + 1)), (0, .ref y0), (1, .ref y1), (2, .int y2), (4, .int y4)] 3 dX1_heirsThat_25 rfl rfl (Nat.le_of_ble_eq_true rfl) rfl ?_
          obtain rfl := so1 hf
          exact aw_pick [1, 2, 3, 0, 4] rfl hJ28
set_option maxRecDepth 100000 in
set_option maxHeartbeats 4000000 in
theorem c_X1_heirsThat (g : Gx) (h : Hea) (a0 : Nat) (a1 : Nat) (a2 : Int32) (o : Int32) (hf : f_X1_heirsThat h a0 a1 a2 = some o) : MC g yX1_heirsThat cX1_heirsThat 5 (some .int) 0 0 0 [.ref a0, .ref a1, .int a2] h (some (.int o), h) := by
  refine MC_of (own := RX1) (nm := "heirsThat") [(0, .ref a0), (1, .ref a1), (2, .int a2)] rfl rfl pn_RX1 (Nat.le_of_ble_eq_true rfl) rfl ?_
  rw [f_X1_heirsThat] at hf
  refine aw_iconst (v := 0) dX1_heirsThat_0 rfl ?_
  refine aw_istore_n [(3, .int 0), (0, .ref a0), (1, .ref a1), (2, .int a2)] dX1_heirsThat_1 (Nat.le_of_ble_eq_true rfl) rfl ?_
  refine aw_iconst (v := 0) dX1_heirsThat_2 rfl ?_
  refine aw_istore [(4, .int 0), (3, .int 0), (0, .ref a0), (1, .ref a1), (2, .int a2)] dX1_heirsThat_3 (Nat.le_of_ble_eq_true rfl) rfl ?_
  refine aw_pick [2, 3, 4, 1, 0] rfl ?_
  refine reg1 (fun (v1 : Int32) => AW g RX1 cX1_heirsThat (5, some .int, "heirsThat", 0, 0, 0) (some (.int o), h) 34 [(3, .int v1)] [] h 0 0) hf (fun v1 hf => ?_) (fun v1 hf hJ => l_X1_heirsThat_5 g  lots h a0 a1 a2 0 0 v1 hf hJ)
  refine aw_iload_n 0 dX1_heirsThat_34 rfl ?_
  obtain rfl := so1 hf
  exact aw_iret dX1_heirsThat_35 rfl rfl
set_option maxRecDepth 100000 in
set_option maxHeartbeats 4000000 in
theorem l_X0_foundBySeed_18 (g : Gx) {res : Option Value × Hea} : ∀ (n : Nat) (h : Hea) (y0 : Nat) (y1 : Nat) (y3 : Int32) (y4 : Int64) (y6 : Int32) (ho : Hea) (hf : f_X0_foundBySeed_18 n h y0 y1 y3 y4 y6 = some ho) (kk : AW g RX0 cX0_foundBySeed (7, some .int, "foundBySeed", 4, 0, 0) res 52 [(0, .ref y0), (1, .ref y1)] [] ho 0 0), AW g RX0 cX0_foundBySeed (7, some .int, "foundBySeed", 4, 0, 0) res 18 [(0, .ref y0), (1, .ref y1), (3, .int y3), (4, .long y4), (6, .int y6)] [] h 0 0 := by
  intro n
  induction n with
  | zero =>
    intro h y0 y1 y3 y4 y6 ho hf kk
    rw [f_X0_foundBySeed_18] at hf
    cases hf
  | succ n ih =>
    intro h y0 y1 y3 y4 y6 ho hf kk
    rw [f_X0_foundBySeed_18] at hf
    refine aw_iload 4 dX0_foundBySeed_18 rfl ?_
    refine aw_iload_n 2 dX0_foundBySeed_20 rfl ?_
    refine aw_icmp_ge (tgt := 52) dX0_foundBySeed_21 rfl (fun hc => ?_) (fun hc => ?_)
    · have hf := itp0 hc hf
      obtain rfl := so1 hf
      exact aw_pick [0, 1] rfl kk
    · have hf := itn0 hc hf
      refine aw_aload_n 0 dX0_foundBySeed_24 rfl ?_
      refine aw_aload_n 1 dX0_foundBySeed_25 rfl ?_
      refine aw_lload 3 dX0_foundBySeed_26 rfl ?_
      refine aw_cV_wl (st := []) [.ref y1, .long y4] wV_RX0_102 (ci := 0) rfl (fun xr hr er => c_X0_moveBySeed g h y0 y1 y4 xr hr er) dX0_foundBySeed_28 rfl rfl (Nat.le_of_ble_eq_true rfl) (Nat.le_of_ble_eq_true rfl) (Nat.le_of_ble_eq_true rfl) (Nat.le_of_ble_eq_true rfl) hf (fun x1 h2 hf => ?_)
      refine aw_lstore [(4, .long x1), (0, .ref y0), (1, .ref y1), (3, .int y3), (6, .int y6)] dX0_foundBySeed_31 (Nat.le_of_ble_eq_true rfl) rfl ?_
      refine aw_aload_n 2 dX0_foundBySeed_33 rfl ?_
      refine aw_aload_n 1 dX0_foundBySeed_34 rfl ?_
      refine aw_gR fl_RX0_12 dX0_foundBySeed_35 hf (fun x3 hf => ?_)
      refine aw_aload_n 2 dX0_foundBySeed_38 rfl ?_
      refine aw_gI fl_RX0_31 dX0_foundBySeed_39 hf (fun x4 hf => ?_)
      refine aw_cV_wi (st := []) [.ref x3, .int x4] wV_RX0_35 (ci := 1) rfl (fun xr hr er => c_X1_runNight g h2 y1 x3 x4 xr hr er) dX0_foundBySeed_42 rfl rfl (Nat.le_of_ble_eq_true rfl) (Nat.le_of_ble_eq_true rfl) (Nat.le_of_ble_eq_true rfl) (Nat.le_of_ble_eq_true rfl) hf (fun x5 h6 hf => ?_)
      refine aw_pop dX0_foundBySeed_45 rfl ?_
      refine aw_iinc (y6 + 1) [(6, .int (y6 + 1)), (4, .long x1), (0, .ref y0), (1, .ref y1), (3, .int y3)] 4 dX0_foundBySeed_46 rfl rfl (Nat.le_of_ble_eq_true rfl) rfl ?_
      refine aw_goto (tgt := 18) dX0_foundBySeed_49 rfl ?_
      refine aw_pick [2, 3, 4, 1, 0] rfl ?_
      exact ih h6 y0 y1 y3 x1 (y6 + 1) ho hf kk
set_option maxRecDepth 100000 in
set_option maxHeartbeats 4000000 in
theorem c_X0_foundBySeed (g : Gx) (h : Hea) (a0 : Nat) (a1 : Nat) (a2 : Int32) (a3 : Int32) (o : Int32) (hz : Hea) (hf : f_X0_foundBySeed h a0 a1 a2 a3 = some (o, hz)) : MC g yX0_foundBySeed cX0_foundBySeed 7 (some .int) 4 0 0 [.ref a0, .ref a1, .int a2, .int a3] h (some (.int o), hz) := by
  refine MC_of (own := RX0) (nm := "foundBySeed") [(0, .ref a0), (1, .ref a1), (2, .int a2), (3, .int a3)] rfl rfl pn_RX0 (Nat.le_of_ble_eq_true rfl) rfl ?_
  rw [f_X0_foundBySeed] at hf
  refine aw_aload_n 0 dX0_foundBySeed_0 rfl ?_
  refine aw_gR fl_RX0_12 dX0_foundBySeed_1 hf (fun x1 hf => ?_)
  refine aw_aload_n 1 dX0_foundBySeed_4 rfl ?_
  refine aw_gR fl_RX0_22 dX0_foundBySeed_5 hf (fun x2 hf => ?_)
  refine aw_cV_v (st := []) [.ref x2] wV_RX0_27 (ci := 3) rfl (fun hr er => c_X3_take g h x1 x2 hr er) dX0_foundBySeed_8 rfl rfl (Nat.le_of_ble_eq_true rfl) (Nat.le_of_ble_eq_true rfl) (Nat.le_of_ble_eq_true rfl) (Nat.le_of_ble_eq_true rfl) hf (fun h3 hf => ?_)
  refine aw_iload_n 2 dX0_foundBySeed_11 rfl ?_
  refine aw_i2l dX0_foundBySeed_12 ?_
  refine aw_lstore [(4, .long a2.toInt64), (0, .ref a0), (1, .ref a1), (2, .int a2), (3, .int a3)] dX0_foundBySeed_13 (Nat.le_of_ble_eq_true rfl) rfl ?_
  refine aw_iconst (v := 0) dX0_foundBySeed_15 rfl ?_
  refine aw_istore [(6, .int 0), (4, .long a2.toInt64), (0, .ref a0), (1, .ref a1), (2, .int a2), (3, .int a3)] dX0_foundBySeed_16 (Nat.le_of_ble_eq_true rfl) rfl ?_
  refine aw_pick [2, 3, 5, 1, 0] rfl ?_
  refine reg1 (fun (h4 : Hea) => AW g RX0 cX0_foundBySeed (7, some .int, "foundBySeed", 4, 0, 0) (some (.int o), hz) 52 [(0, .ref a0), (1, .ref a1)] [] h4 0 0) hf (fun h4 hf => ?_) (fun h4 hf hJ => l_X0_foundBySeed_18 g  lots h3 a0 a1 a3 a2.toInt64 0 h4 hf hJ)
  refine aw_aload_n 1 dX0_foundBySeed_52 rfl ?_
  refine aw_aload_n 0 dX0_foundBySeed_53 rfl ?_
  refine aw_gR fl_RX0_12 dX0_foundBySeed_54 hf (fun x5 hf => ?_)
  refine aw_iconst (v := 2) dX0_foundBySeed_57 rfl ?_
  refine aw_cV_i (st := []) [.ref x5, .int 2] wV_RX0_106 (ci := 1) rfl (fun xr er => c_X1_heirsThat g h4 a1 x5 2 xr er) dX0_foundBySeed_58 rfl rfl (Nat.le_of_ble_eq_true rfl) (Nat.le_of_ble_eq_true rfl) (Nat.le_of_ble_eq_true rfl) (Nat.le_of_ble_eq_true rfl) hf (fun x6 hf => ?_)
  obtain ⟨rfl, rfl⟩ := so2 hf
  exact aw_iret dX0_foundBySeed_61 rfl rfl
set_option maxRecDepth 100000 in
set_option maxHeartbeats 4000000 in
theorem c_X7_nights (g : Gx) (h : Hea) (a0 : Nat) (a1 : Int32) (a2 : Int32) (o : Int32) (hz : Hea) (hf : f_X7_nights h a0 a1 a2 = some (o, hz)) : MC g yX7_nights cX7_nights 3 (some .int) 5 0 0 [.ref a0, .int a1, .int a2] h (some (.int o), hz) := by
  refine MC_of (own := RX7) (nm := "nights") [(0, .ref a0), (1, .int a1), (2, .int a2)] rfl rfl pn_RX7 (Nat.le_of_ble_eq_true rfl) rfl ?_
  rw [f_X7_nights] at hf
  refine aw_iload_n 1 dX7_nights_0 rfl ?_
  refine aw_iconst (v := 0) dX7_nights_1 rfl ?_
  refine aw_ldcw (v := 999999) kc_RX7_273 dX7_nights_2 ?_
  refine aw_cS_i (st := []) [.int a1, .int 0, .int 999999] wS_RX7_90 (fun xr er => c_X7_within g h a1 0 999999 xr er) dX7_nights_5 rfl rfl (Nat.le_of_ble_eq_true rfl) (Nat.le_of_ble_eq_true rfl) (Nat.le_of_ble_eq_true rfl) (Nat.le_of_ble_eq_true rfl) hf (fun x1 hf => ?_)
  refine aw_if_eq (tgt := 21) dX7_nights_8 rfl (fun hc => ?_) (fun hc => ?_)
  · have hf := itp0 hc hf
    refine aw_aload_n 0 dX7_nights_21 rfl ?_
    refine aw_cV_wi (st := []) [] wV_RX7_94 (ci := 7) rfl (fun xr hr er => c_X7_refuseBad g h a0 xr hr er) dX7_nights_22 rfl rfl (Nat.le_of_ble_eq_true rfl) (Nat.le_of_ble_eq_true rfl) (Nat.le_of_ble_eq_true rfl) (Nat.le_of_ble_eq_true rfl) hf (fun x2 h3 hf => ?_)
    obtain ⟨rfl, rfl⟩ := so2 hf
    exact aw_iret dX7_nights_25 rfl rfl
  · have hf := itn0 hc hf
    refine aw_iload_n 2 dX7_nights_11 rfl ?_
    refine aw_iconst (v := 0) dX7_nights_12 rfl ?_
    refine aw_bipush (v := 30) dX7_nights_13 rfl ?_
    refine aw_cS_i (st := []) [.int a2, .int 0, .int 30] wS_RX7_90 (fun xr er => c_X7_within g h a2 0 30 xr er) dX7_nights_15 rfl rfl (Nat.le_of_ble_eq_true rfl) (Nat.le_of_ble_eq_true rfl) (Nat.le_of_ble_eq_true rfl) (Nat.le_of_ble_eq_true rfl) hf (fun x4 hf => ?_)
    refine aw_if_ne (tgt := 26) dX7_nights_18 rfl (fun hc => ?_) (fun hc => ?_)
    · have hf := itn0 hc hf
      refine aw_aload_n 0 dX7_nights_26 rfl ?_
      refine aw_gR fl_RX7_41 dX7_nights_27 hf (fun x5 hf => ?_)
      refine aw_aload_n 0 dX7_nights_30 rfl ?_
      refine aw_gR fl_RX7_10 dX7_nights_31 hf (fun x6 hf => ?_)
      refine aw_iload_n 1 dX7_nights_34 rfl ?_
      refine aw_iload_n 2 dX7_nights_35 rfl ?_
      refine aw_cV_wi (st := []) [.ref x6, .int a1, .int a2] wV_RX7_274 (ci := 0) rfl (fun xr hr er => c_X0_foundBySeed g h x5 x6 a1 a2 xr hr er) dX7_nights_36 rfl rfl (Nat.le_of_ble_eq_true rfl) (Nat.le_of_ble_eq_true rfl) (Nat.le_of_ble_eq_true rfl) (Nat.le_of_ble_eq_true rfl) hf (fun x7 h8 hf => ?_)
      obtain ⟨rfl, rfl⟩ := so2 hf
      exact aw_iret dX7_nights_39 rfl rfl
    · have hf := itp0 hc hf
      refine aw_aload_n 0 dX7_nights_21 rfl ?_
      refine aw_cV_wi (st := []) [] wV_RX7_94 (ci := 7) rfl (fun xr hr er => c_X7_refuseBad g h a0 xr hr er) dX7_nights_22 rfl rfl (Nat.le_of_ble_eq_true rfl) (Nat.le_of_ble_eq_true rfl) (Nat.le_of_ble_eq_true rfl) (Nat.le_of_ble_eq_true rfl) hf (fun x9 h10 hf => ?_)
      obtain ⟨rfl, rfl⟩ := so2 hf
      exact aw_iret dX7_nights_25 rfl rfl
set_option maxRecDepth 100000 in
set_option maxHeartbeats 4000000 in
theorem c_X7_part (g : Gx) (h : Hea) (a0 : Nat) (a1 : Int32) (o : Int64) (hz : Hea) (hf : f_X7_part h a0 a1 = some (o, hz)) : MC g yX7_part cX7_part 2 (some .long) 1 0 0 [.ref a0, .int a1] h (some (.long o), hz) := by
  refine MC_of (own := RX7) (nm := "part") [(0, .ref a0), (1, .int a1)] rfl rfl pn_RX7 (Nat.le_of_ble_eq_true rfl) rfl ?_
  rw [f_X7_part] at hf
  refine aw_iload_n 1 dX7_part_0 rfl ?_
  refine aw_iconst (v := 0) dX7_part_1 rfl ?_
  refine aw_iconst (v := 1) dX7_part_2 rfl ?_
  refine aw_cS_i (st := []) [.int a1, .int 0, .int 1] wS_RX7_90 (fun xr er => c_X7_within g h a1 0 1 xr er) dX7_part_3 rfl rfl (Nat.le_of_ble_eq_true rfl) (Nat.le_of_ble_eq_true rfl) (Nat.le_of_ble_eq_true rfl) (Nat.le_of_ble_eq_true rfl) hf (fun x1 hf => ?_)
  refine aw_if_ne (tgt := 15) dX7_part_6 rfl (fun hc => ?_) (fun hc => ?_)
  · have hf := itn0 hc hf
    refine aw_iload_n 1 dX7_part_15 rfl ?_
    refine reg1 (fun (v2 : Int64) => AW g RX7 cX7_part (2, some .long, "part", 1, 0, 0) (some (.long o), hz) 30 [] [.long v2] h 0 0) hf (fun v2 hf => ?_) (fun v2 hf hJ30 => ?_)
    · obtain ⟨rfl, rfl⟩ := so2 hf
      exact aw_lret dX7_part_30 rfl rfl
    · refine aw_if_ne (tgt := 26) dX7_part_16 rfl (fun hc => ?_) (fun hc => ?_)
      · have hf := itn0 hc hf
        refine aw_aload_n 0 dX7_part_26 rfl ?_
        refine aw_gJ fl_RX7_78 dX7_part_27 hf (fun x3 hf => ?_)
        obtain rfl := so1 hf
        exact aw_pick [] rfl hJ30
      · have hf := itp0 hc hf
        refine aw_aload_n 0 dX7_part_19 rfl ?_
        refine aw_gJ fl_RX7_74 dX7_part_20 hf (fun x4 hf => ?_)
        refine aw_goto (tgt := 30) dX7_part_23 rfl ?_
        obtain rfl := so1 hf
        exact aw_pick [] rfl hJ30
  · have hf := itp0 hc hf
    refine aw_aload_n 0 dX7_part_9 rfl ?_
    refine aw_cV_wi (st := []) [] wV_RX7_94 (ci := 7) rfl (fun xr hr er => c_X7_refuseBad g h a0 xr hr er) dX7_part_10 rfl rfl (Nat.le_of_ble_eq_true rfl) (Nat.le_of_ble_eq_true rfl) (Nat.le_of_ble_eq_true rfl) (Nat.le_of_ble_eq_true rfl) hf (fun x5 h6 hf => ?_)
    refine aw_i2l dX7_part_13 ?_
    obtain ⟨rfl, rfl⟩ := so2 hf
    exact aw_lret dX7_part_14 rfl rfl
set_option maxRecDepth 100000 in
set_option maxHeartbeats 4000000 in
theorem l_X2_take_10 (g : Gx) {res : Option Value × Hea} : ∀ (n : Nat) (h : Hea) (y0 : Nat) (y1 : Nat) (y2 : Int32) (ho : Hea) (hf : f_X2_take_10 n h y0 y1 y2 = some ho) (kk : AW g RX2 cX2_take (3, none, "take", 2, 0, 0) res 39 [] [] ho 0 0), AW g RX2 cX2_take (3, none, "take", 2, 0, 0) res 10 [(0, .ref y0), (1, .ref y1), (2, .int y2)] [] h 0 0 := by
  intro n
  induction n with
  | zero =>
    intro h y0 y1 y2 ho hf kk
    rw [f_X2_take_10] at hf
    cases hf
  | succ n ih =>
    intro h y0 y1 y2 ho hf kk
    rw [f_X2_take_10] at hf
    refine aw_iload_n 2 dX2_take_10 rfl ?_
    refine aw_aload_n 0 dX2_take_11 rfl ?_
    refine aw_gI fl_RX2_17 dX2_take_12 hf (fun x1 hf => ?_)
    refine aw_icmp_ge (tgt := 39) dX2_take_15 rfl (fun hc => ?_) (fun hc => ?_)
    · have hf := itp0 hc hf
      obtain rfl := so1 hf
      exact aw_pick [] rfl kk
    · have hf := itn0 hc hf
      refine aw_aload_n 0 dX2_take_18 rfl ?_
      refine aw_gR fl_RX2_11 dX2_take_19 hf (fun x2 hf => ?_)
      refine aw_iload_n 2 dX2_take_22 rfl ?_
      refine aw_ldR (fun _ => rfl) dX2_take_23 hf (fun x3 hf => ?_)
      refine aw_aload_n 1 dX2_take_24 rfl ?_
      refine aw_gR fl_RX2_11 dX2_take_25 hf (fun x4 hf => ?_)
      refine aw_iload_n 2 dX2_take_28 rfl ?_
      refine aw_ldR (fun _ => rfl) dX2_take_29 hf (fun x5 hf => ?_)
      refine aw_cV_v (st := []) [.ref x5] wV_RX2_25 (ci := 3) rfl (fun hr er => c_X3_take g h x3 x5 hr er) dX2_take_30 rfl rfl (Nat.le_of_ble_eq_true rfl) (Nat.le_of_ble_eq_true rfl) (Nat.le_of_ble_eq_true rfl) (Nat.le_of_ble_eq_true rfl) hf (fun h6 hf => ?_)
      refine aw_iinc (y2 + 1) [(2, .int (y2 + 1)), (0, .ref y0), (1, .ref y1)] 2 dX2_take_33 rfl rfl (Nat.le_of_ble_eq_true rfl) rfl ?_
      refine aw_goto (tgt := 10) dX2_take_36 rfl ?_
      refine aw_pick [1, 2, 0] rfl ?_
      exact ih h6 y0 y1 (y2 + 1) ho hf kk
set_option maxRecDepth 100000 in
set_option maxHeartbeats 4000000 in
theorem c_X2_take (g : Gx) (h : Hea) (a0 : Nat) (a1 : Nat) (o : Hea) (hf : f_X2_take h a0 a1 = some o) : MC g yX2_take cX2_take 3 none 2 0 0 [.ref a0, .ref a1] h (none, o) := by
  refine MC_of (own := RX2) (nm := "take") [(0, .ref a0), (1, .ref a1)] rfl rfl pn_RX2 (Nat.le_of_ble_eq_true rfl) rfl ?_
  rw [f_X2_take] at hf
  refine aw_aload_n 0 dX2_take_0 rfl ?_
  refine aw_aload_n 1 dX2_take_1 rfl ?_
  refine aw_gI fl_RX2_17 dX2_take_2 hf (fun x1 hf => ?_)
  refine aw_pI fp_RX2_17 dX2_take_5 hf (fun h2 hf => ?_)
  refine aw_iconst (v := 0) dX2_take_8 rfl ?_
  refine aw_istore_n [(2, .int 0), (0, .ref a0), (1, .ref a1)] dX2_take_9 (Nat.le_of_ble_eq_true rfl) rfl ?_
  refine aw_pick [1, 2, 0] rfl ?_
  refine reg1 (fun (h3 : Hea) => AW g RX2 cX2_take (3, none, "take", 2, 0, 0) (none, o) 39 [] [] h3 0 0) hf (fun h3 hf => ?_) (fun h3 hf hJ => l_X2_take_10 g  lots h2 a0 a1 0 h3 hf hJ)
  obtain rfl := so1 hf
  exact aw_vret dX2_take_39 rfl rfl
set_option maxRecDepth 100000 in
set_option maxHeartbeats 4000000 in
theorem c_X7_image (g : Gx) (h : Hea) (a0 : Nat) (a1 : Int32) (o : Int32) (hz : Hea) (hf : f_X7_image h a0 a1 = some (o, hz)) : MC g yX7_image cX7_image 2 (some .int) 3 0 0 [.ref a0, .int a1] h (some (.int o), hz) := by
  refine MC_of (own := RX7) (nm := "image") [(0, .ref a0), (1, .int a1)] rfl rfl pn_RX7 (Nat.le_of_ble_eq_true rfl) rfl ?_
  rw [f_X7_image] at hf
  refine aw_iload_n 1 dX7_image_0 rfl ?_
  refine aw_iconst (v := 0) dX7_image_1 rfl ?_
  refine aw_iconst (v := 1) dX7_image_2 rfl ?_
  refine aw_cS_i (st := []) [.int a1, .int 0, .int 1] wS_RX7_90 (fun xr er => c_X7_within g h a1 0 1 xr er) dX7_image_3 rfl rfl (Nat.le_of_ble_eq_true rfl) (Nat.le_of_ble_eq_true rfl) (Nat.le_of_ble_eq_true rfl) (Nat.le_of_ble_eq_true rfl) hf (fun x1 hf => ?_)
  refine aw_if_ne (tgt := 14) dX7_image_6 rfl (fun hc => ?_) (fun hc => ?_)
  · have hf := itn0 hc hf
    refine aw_aload_n 0 dX7_image_14 rfl ?_
    refine aw_gR fl_RX7_26 dX7_image_15 hf (fun x2 hf => ?_)
    refine aw_iload_n 1 dX7_image_18 rfl ?_
    refine aw_ldR (fun _ => rfl) dX7_image_19 hf (fun x3 hf => ?_)
    refine aw_aload_n 0 dX7_image_20 rfl ?_
    refine aw_gR fl_RX7_10 dX7_image_21 hf (fun x4 hf => ?_)
    refine aw_cV_v (st := []) [.ref x4] wV_RX7_144 (ci := 1) rfl (fun hr er => c_X1_take g h x3 x4 hr er) dX7_image_24 rfl rfl (Nat.le_of_ble_eq_true rfl) (Nat.le_of_ble_eq_true rfl) (Nat.le_of_ble_eq_true rfl) (Nat.le_of_ble_eq_true rfl) hf (fun h5 hf => ?_)
    refine aw_aload_n 0 dX7_image_27 rfl ?_
    refine aw_gR fl_RX7_30 dX7_image_28 hf (fun x6 hf => ?_)
    refine aw_iload_n 1 dX7_image_31 rfl ?_
    refine aw_ldR (fun _ => rfl) dX7_image_32 hf (fun x7 hf => ?_)
    refine aw_aload_n 0 dX7_image_33 rfl ?_
    refine aw_gR fl_RX7_19 dX7_image_34 hf (fun x8 hf => ?_)
    refine aw_cV_v (st := []) [.ref x8] wV_RX7_277 (ci := 2) rfl (fun hr er => c_X2_take g h5 x7 x8 hr er) dX7_image_37 rfl rfl (Nat.le_of_ble_eq_true rfl) (Nat.le_of_ble_eq_true rfl) (Nat.le_of_ble_eq_true rfl) (Nat.le_of_ble_eq_true rfl) hf (fun h9 hf => ?_)
    refine aw_aload_n 0 dX7_image_40 rfl ?_
    refine aw_gR fl_RX7_34 dX7_image_41 hf (fun x10 hf => ?_)
    refine aw_iload_n 1 dX7_image_44 rfl ?_
    refine aw_iconst (v := 1) dX7_image_45 rfl ?_
    refine aw_stZ dX7_image_46 hf (fun h11 hf => ?_)
    refine aw_iconst (v := 1) dX7_image_47 rfl ?_
    obtain ⟨rfl, rfl⟩ := so2 hf
    exact aw_iret dX7_image_48 rfl rfl
  · have hf := itp0 hc hf
    refine aw_aload_n 0 dX7_image_9 rfl ?_
    refine aw_cV_wi (st := []) [] wV_RX7_94 (ci := 7) rfl (fun xr hr er => c_X7_refuseBad g h a0 xr hr er) dX7_image_10 rfl rfl (Nat.le_of_ble_eq_true rfl) (Nat.le_of_ble_eq_true rfl) (Nat.le_of_ble_eq_true rfl) (Nat.le_of_ble_eq_true rfl) hf (fun x12 h13 hf => ?_)
    obtain ⟨rfl, rfl⟩ := so2 hf
    exact aw_iret dX7_image_13 rfl rfl
set_option maxRecDepth 100000 in
set_option maxHeartbeats 4000000 in
theorem c_X7_from (g : Gx) (h : Hea) (a0 : Nat) (a1 : Int32) (o : Int32) (hz : Hea) (hf : f_X7_from h a0 a1 = some (o, hz)) : MC g yX7_from cX7_from 2 (some .int) 3 0 0 [.ref a0, .int a1] h (some (.int o), hz) := by
  refine MC_of (own := RX7) (nm := "from") [(0, .ref a0), (1, .int a1)] rfl rfl pn_RX7 (Nat.le_of_ble_eq_true rfl) rfl ?_
  rw [f_X7_from] at hf
  refine aw_iload_n 1 dX7_from_0 rfl ?_
  refine aw_iconst (v := 0) dX7_from_1 rfl ?_
  refine aw_iconst (v := 1) dX7_from_2 rfl ?_
  refine aw_cS_i (st := []) [.int a1, .int 0, .int 1] wS_RX7_90 (fun xr er => c_X7_within g h a1 0 1 xr er) dX7_from_3 rfl rfl (Nat.le_of_ble_eq_true rfl) (Nat.le_of_ble_eq_true rfl) (Nat.le_of_ble_eq_true rfl) (Nat.le_of_ble_eq_true rfl) hf (fun x1 hf => ?_)
  refine aw_if_ne (tgt := 14) dX7_from_6 rfl (fun hc => ?_) (fun hc => ?_)
  · have hf := itn0 hc hf
    refine aw_aload_n 0 dX7_from_14 rfl ?_
    refine aw_gR fl_RX7_34 dX7_from_15 hf (fun x2 hf => ?_)
    refine aw_iload_n 1 dX7_from_18 rfl ?_
    refine aw_ldZ dX7_from_19 hf (fun x3 hf => ?_)
    refine aw_if_ne (tgt := 28) dX7_from_20 rfl (fun hc => ?_) (fun hc => ?_)
    · have hf := itn0 hc hf
      refine aw_aload_n 0 dX7_from_28 rfl ?_
      refine aw_gR fl_RX7_10 dX7_from_29 hf (fun x4 hf => ?_)
      refine aw_aload_n 0 dX7_from_32 rfl ?_
      refine aw_gR fl_RX7_26 dX7_from_33 hf (fun x5 hf => ?_)
      refine aw_iload_n 1 dX7_from_36 rfl ?_
      refine aw_ldR (fun _ => rfl) dX7_from_37 hf (fun x6 hf => ?_)
      refine aw_cV_v (st := []) [.ref x6] wV_RX7_144 (ci := 1) rfl (fun hr er => c_X1_take g h x4 x6 hr er) dX7_from_38 rfl rfl (Nat.le_of_ble_eq_true rfl) (Nat.le_of_ble_eq_true rfl) (Nat.le_of_ble_eq_true rfl) (Nat.le_of_ble_eq_true rfl) hf (fun h7 hf => ?_)
      refine aw_aload_n 0 dX7_from_41 rfl ?_
      refine aw_gR fl_RX7_19 dX7_from_42 hf (fun x8 hf => ?_)
      refine aw_aload_n 0 dX7_from_45 rfl ?_
      refine aw_gR fl_RX7_30 dX7_from_46 hf (fun x9 hf => ?_)
      refine aw_iload_n 1 dX7_from_49 rfl ?_
      refine aw_ldR (fun _ => rfl) dX7_from_50 hf (fun x10 hf => ?_)
      refine aw_cV_v (st := []) [.ref x10] wV_RX7_277 (ci := 2) rfl (fun hr er => c_X2_take g h7 x8 x10 hr er) dX7_from_51 rfl rfl (Nat.le_of_ble_eq_true rfl) (Nat.le_of_ble_eq_true rfl) (Nat.le_of_ble_eq_true rfl) (Nat.le_of_ble_eq_true rfl) hf (fun h11 hf => ?_)
      refine aw_iconst (v := 1) dX7_from_54 rfl ?_
      obtain ⟨rfl, rfl⟩ := so2 hf
      exact aw_iret dX7_from_55 rfl rfl
    · have hf := itp0 hc hf
      refine aw_aload_n 0 dX7_from_23 rfl ?_
      refine aw_cV_wi (st := []) [] wV_RX7_166 (ci := 7) rfl (fun xr hr er => c_X7_refuseNo g h a0 xr hr er) dX7_from_24 rfl rfl (Nat.le_of_ble_eq_true rfl) (Nat.le_of_ble_eq_true rfl) (Nat.le_of_ble_eq_true rfl) (Nat.le_of_ble_eq_true rfl) hf (fun x12 h13 hf => ?_)
      obtain ⟨rfl, rfl⟩ := so2 hf
      exact aw_iret dX7_from_27 rfl rfl
  · have hf := itp0 hc hf
    refine aw_aload_n 0 dX7_from_9 rfl ?_
    refine aw_cV_wi (st := []) [] wV_RX7_94 (ci := 7) rfl (fun xr hr er => c_X7_refuseBad g h a0 xr hr er) dX7_from_10 rfl rfl (Nat.le_of_ble_eq_true rfl) (Nat.le_of_ble_eq_true rfl) (Nat.le_of_ble_eq_true rfl) (Nat.le_of_ble_eq_true rfl) hf (fun x14 h15 hf => ?_)
    obtain ⟨rfl, rfl⟩ := so2 hf
    exact aw_iret dX7_from_13 rfl rfl
set_option maxRecDepth 100000 in
set_option maxHeartbeats 4000000 in
theorem c_X7_status (g : Gx) (h : Hea) (a0 : Nat) (a1 : Int32) (o : Int32) (hz : Hea) (hf : f_X7_status h a0 a1 = some (o, hz)) : MC g yX7_status cX7_status 2 (some .int) 1 0 0 [.ref a0, .int a1] h (some (.int o), hz) := by
  refine MC_of (own := RX7) (nm := "status") [(0, .ref a0), (1, .int a1)] rfl rfl pn_RX7 (Nat.le_of_ble_eq_true rfl) rfl ?_
  rw [f_X7_status] at hf
  refine aw_iload_n 1 dX7_status_0 rfl ?_
  by_cases hc0 : a1 = 0
  · have hf := itp0 hc0 hf
    refine aw_tsK (tgt := 28) (off := 27) (k := 0) hc0 rfl dX7_status_1 (by decide) (by decide) rfl rfl ?_
    refine aw_aload_n 0 dX7_status_28 rfl ?_
    refine aw_gI fl_RX7_81 dX7_status_29 hf (fun x1 hf => ?_)
    obtain ⟨rfl, rfl⟩ := so2 hf
    exact aw_iret dX7_status_32 rfl rfl
  have hf := itn0 hc0 hf
  by_cases hc1 : a1 = 1
  · have hf := itp0 hc1 hf
    refine aw_tsK (tgt := 33) (off := 32) (k := 1) hc1 rfl dX7_status_1 (by decide) (by decide) rfl rfl ?_
    refine aw_aload_n 0 dX7_status_33 rfl ?_
    refine aw_gI fl_RX7_84 dX7_status_34 hf (fun x2 hf => ?_)
    obtain ⟨rfl, rfl⟩ := so2 hf
    exact aw_iret dX7_status_37 rfl rfl
  have hf := itn0 hc1 hf
  by_cases hc2 : a1 = 2
  · have hf := itp0 hc2 hf
    refine aw_tsK (tgt := 38) (off := 37) (k := 2) hc2 rfl dX7_status_1 (by decide) (by decide) rfl rfl ?_
    refine aw_aload_n 0 dX7_status_38 rfl ?_
    refine aw_gI fl_RX7_87 dX7_status_39 hf (fun x3 hf => ?_)
    obtain ⟨rfl, rfl⟩ := so2 hf
    exact aw_iret dX7_status_42 rfl rfl
  have hf := itn0 hc2 hf
  refine aw_tsOut (tgt := 43) dX7_status_1 (ts_out 0 3 (by decide) (by decide) (fun i hi => by rcases (show i = 0 ∨ i = 1 ∨ i = 2 by omega) with rfl | rfl | rfl <;> assumption)) rfl ?_
  refine aw_aload_n 0 dX7_status_43 rfl ?_
  refine aw_cV_wi (st := []) [] wV_RX7_94 (ci := 7) rfl (fun xr hr er => c_X7_refuseBad g h a0 xr hr er) dX7_status_44 rfl rfl (Nat.le_of_ble_eq_true rfl) (Nat.le_of_ble_eq_true rfl) (Nat.le_of_ble_eq_true rfl) (Nat.le_of_ble_eq_true rfl) hf (fun x4 h5 hf => ?_)
  refine aw_pop dX7_status_47 rfl ?_
  refine aw_iconst (v := (-1)) dX7_status_48 rfl ?_
  obtain ⟨rfl, rfl⟩ := so2 hf
  exact aw_iret dX7_status_49 rfl rfl
set_option maxRecDepth 100000 in
set_option maxHeartbeats 4000000 in
theorem c_X7_counted (g : Gx) (h : Hea) (a0 : Nat) (a1 : Int32) (o : Int32) (hf : f_X7_counted h a0 a1 = some o) : MC g yX7_counted cX7_counted 2 (some .int) 1 0 0 [.ref a0, .int a1] h (some (.int o), h) := by
  refine MC_of (own := RX7) (nm := "counted") [(0, .ref a0), (1, .int a1)] rfl rfl pn_RX7 (Nat.le_of_ble_eq_true rfl) rfl ?_
  rw [f_X7_counted] at hf
  refine aw_iload_n 1 dX7_counted_0 rfl ?_
  by_cases hc0 : a1 = 0
  · have hf := itp0 hc0 hf
    refine aw_tsK (tgt := 48) (off := 47) (k := 0) hc0 rfl dX7_counted_1 (by decide) (by decide) rfl rfl ?_
    refine aw_aload_n 0 dX7_counted_48 rfl ?_
    refine aw_gR fl_RX7_10 dX7_counted_49 hf (fun x1 hf => ?_)
    refine aw_gI fl_RX7_98 dX7_counted_52 hf (fun x2 hf => ?_)
    obtain rfl := so1 hf
    exact aw_iret dX7_counted_55 rfl rfl
  have hf := itn0 hc0 hf
  by_cases hc1 : a1 = 1
  · have hf := itp0 hc1 hf
    refine aw_tsK (tgt := 56) (off := 55) (k := 1) hc1 rfl dX7_counted_1 (by decide) (by decide) rfl rfl ?_
    refine aw_aload_n 0 dX7_counted_56 rfl ?_
    refine aw_gR fl_RX7_10 dX7_counted_57 hf (fun x3 hf => ?_)
    refine aw_gI fl_RX7_133 dX7_counted_60 hf (fun x4 hf => ?_)
    obtain rfl := so1 hf
    exact aw_iret dX7_counted_63 rfl rfl
  have hf := itn0 hc1 hf
  by_cases hc2 : a1 = 2
  · have hf := itp0 hc2 hf
    refine aw_tsK (tgt := 64) (off := 63) (k := 2) hc2 rfl dX7_counted_1 (by decide) (by decide) rfl rfl ?_
    refine aw_aload_n 0 dX7_counted_64 rfl ?_
    refine aw_gR fl_RX7_10 dX7_counted_65 hf (fun x5 hf => ?_)
    refine aw_gI fl_RX7_297 dX7_counted_68 hf (fun x6 hf => ?_)
    obtain rfl := so1 hf
    exact aw_iret dX7_counted_71 rfl rfl
  have hf := itn0 hc2 hf
  by_cases hc3 : a1 = 3
  · have hf := itp0 hc3 hf
    refine aw_tsK (tgt := 72) (off := 71) (k := 3) hc3 rfl dX7_counted_1 (by decide) (by decide) rfl rfl ?_
    refine aw_aload_n 0 dX7_counted_72 rfl ?_
    refine aw_gR fl_RX7_10 dX7_counted_73 hf (fun x7 hf => ?_)
    refine aw_gR fl_RX7_151 dX7_counted_76 hf (fun x8 hf => ?_)
    refine aw_gI fl_RX7_183 dX7_counted_79 hf (fun x9 hf => ?_)
    obtain rfl := so1 hf
    exact aw_iret dX7_counted_82 rfl rfl
  have hf := itn0 hc3 hf
  by_cases hc4 : a1 = 4
  · have hf := itp0 hc4 hf
    refine aw_tsK (tgt := 83) (off := 82) (k := 4) hc4 rfl dX7_counted_1 (by decide) (by decide) rfl rfl ?_
    refine aw_aload_n 0 dX7_counted_83 rfl ?_
    refine aw_gR fl_RX7_10 dX7_counted_84 hf (fun x10 hf => ?_)
    refine aw_aload_n 0 dX7_counted_87 rfl ?_
    refine aw_gR fl_RX7_10 dX7_counted_88 hf (fun x11 hf => ?_)
    refine aw_gR fl_RX7_151 dX7_counted_91 hf (fun x12 hf => ?_)
    refine aw_iconst (v := 0) dX7_counted_94 rfl ?_
    refine aw_cV_i (st := []) [.ref x12, .int 0] wV_RX7_300 (ci := 1) rfl (fun xr er => c_X1_heirsThat g h x10 x12 0 xr er) dX7_counted_95 rfl rfl (Nat.le_of_ble_eq_true rfl) (Nat.le_of_ble_eq_true rfl) (Nat.le_of_ble_eq_true rfl) (Nat.le_of_ble_eq_true rfl) hf (fun x13 hf => ?_)
    obtain rfl := so1 hf
    exact aw_iret dX7_counted_98 rfl rfl
  have hf := itn0 hc4 hf
  by_cases hc5 : a1 = 5
  · have hf := itp0 hc5 hf
    refine aw_tsK (tgt := 99) (off := 98) (k := 5) hc5 rfl dX7_counted_1 (by decide) (by decide) rfl rfl ?_
    refine aw_aload_n 0 dX7_counted_99 rfl ?_
    refine aw_gR fl_RX7_10 dX7_counted_100 hf (fun x14 hf => ?_)
    refine aw_gI fl_RX7_124 dX7_counted_103 hf (fun x15 hf => ?_)
    obtain rfl := so1 hf
    exact aw_iret dX7_counted_106 rfl rfl
  have hf := itn0 hc5 hf
  by_cases hc6 : a1 = 6
  · have hf := itp0 hc6 hf
    refine aw_tsK (tgt := 107) (off := 106) (k := 6) hc6 rfl dX7_counted_1 (by decide) (by decide) rfl rfl ?_
    refine aw_aload_n 0 dX7_counted_107 rfl ?_
    refine aw_gR fl_RX7_10 dX7_counted_108 hf (fun x16 hf => ?_)
    refine aw_gI fl_RX7_254 dX7_counted_111 hf (fun x17 hf => ?_)
    obtain rfl := so1 hf
    exact aw_iret dX7_counted_114 rfl rfl
  have hf := itn0 hc6 hf
  by_cases hc7 : a1 = 7
  · have hf := itp0 hc7 hf
    refine aw_tsK (tgt := 115) (off := 114) (k := 7) hc7 rfl dX7_counted_1 (by decide) (by decide) rfl rfl ?_
    refine aw_aload_n 0 dX7_counted_115 rfl ?_
    refine aw_gR fl_RX7_19 dX7_counted_116 hf (fun x18 hf => ?_)
    refine aw_gI fl_RX7_105 dX7_counted_119 hf (fun x19 hf => ?_)
    obtain rfl := so1 hf
    exact aw_iret dX7_counted_122 rfl rfl
  have hf := itn0 hc7 hf
  refine aw_tsOut (tgt := 123) dX7_counted_1 (ts_out 0 8 (by decide) (by decide) (fun i hi => by rcases (show i = 0 ∨ i = 1 ∨ i = 2 ∨ i = 3 ∨ i = 4 ∨ i = 5 ∨ i = 6 ∨ i = 7 by omega) with rfl | rfl | rfl | rfl | rfl | rfl | rfl | rfl <;> assumption)) rfl ?_
  refine aw_aload_n 0 dX7_counted_123 rfl ?_
  refine aw_gI fl_RX7_70 dX7_counted_124 hf (fun x20 hf => ?_)
  obtain rfl := so1 hf
  exact aw_iret dX7_counted_127 rfl rfl
set_option maxRecDepth 100000 in
set_option maxHeartbeats 4000000 in
theorem c_X7_count (g : Gx) (h : Hea) (a0 : Nat) (a1 : Int32) (o : Int32) (hz : Hea) (hf : f_X7_count h a0 a1 = some (o, hz)) : MC g yX7_count cX7_count 2 (some .int) 2 0 0 [.ref a0, .int a1] h (some (.int o), hz) := by
  refine MC_of (own := RX7) (nm := "count") [(0, .ref a0), (1, .int a1)] rfl rfl pn_RX7 (Nat.le_of_ble_eq_true rfl) rfl ?_
  rw [f_X7_count] at hf
  refine aw_iload_n 1 dX7_count_0 rfl ?_
  refine aw_iconst (v := 0) dX7_count_1 rfl ?_
  refine aw_bipush (v := 8) dX7_count_2 rfl ?_
  refine aw_cS_i (st := []) [.int a1, .int 0, .int 8] wS_RX7_90 (fun xr er => c_X7_within g h a1 0 8 xr er) dX7_count_4 rfl rfl (Nat.le_of_ble_eq_true rfl) (Nat.le_of_ble_eq_true rfl) (Nat.le_of_ble_eq_true rfl) (Nat.le_of_ble_eq_true rfl) hf (fun x1 hf => ?_)
  refine aw_if_ne (tgt := 15) dX7_count_7 rfl (fun hc => ?_) (fun hc => ?_)
  · have hf := itn0 hc hf
    refine aw_aload_n 0 dX7_count_15 rfl ?_
    refine aw_iload_n 1 dX7_count_16 rfl ?_
    refine aw_cV_i (st := []) [.int a1] wV_RX7_280 (ci := 7) rfl (fun xr er => c_X7_counted g h a0 a1 xr er) dX7_count_17 rfl rfl (Nat.le_of_ble_eq_true rfl) (Nat.le_of_ble_eq_true rfl) (Nat.le_of_ble_eq_true rfl) (Nat.le_of_ble_eq_true rfl) hf (fun x2 hf => ?_)
    obtain ⟨rfl, rfl⟩ := so2 hf
    exact aw_iret dX7_count_20 rfl rfl
  · have hf := itp0 hc hf
    refine aw_aload_n 0 dX7_count_10 rfl ?_
    refine aw_cV_wi (st := []) [] wV_RX7_94 (ci := 7) rfl (fun xr hr er => c_X7_refuseBad g h a0 xr hr er) dX7_count_11 rfl rfl (Nat.le_of_ble_eq_true rfl) (Nat.le_of_ble_eq_true rfl) (Nat.le_of_ble_eq_true rfl) (Nat.le_of_ble_eq_true rfl) hf (fun x3 h4 hf => ?_)
    obtain ⟨rfl, rfl⟩ := so2 hf
    exact aw_iret dX7_count_14 rfl rfl
set_option maxRecDepth 100000 in
set_option maxHeartbeats 4000000 in
theorem l_X1_digestRooms_5 (g : Gx) {res : Option Value × Hea} : ∀ (n : Nat) (h : Hea) (y0 : Nat) (y3 : Int64) (y5 : Int32) (o3 : Int64) (hf : f_X1_digestRooms_5 n h y0 y3 y5 = some o3) (kk : AW g RX1 cX1_digestRooms (7, some .long, "digestRooms", 1, 0, 0) res 33 [(0, .ref y0), (3, .long o3)] [] h 0 0), AW g RX1 cX1_digestRooms (7, some .long, "digestRooms", 1, 0, 0) res 5 [(0, .ref y0), (3, .long y3), (5, .int y5)] [] h 0 0 := by
  intro n
  induction n with
  | zero =>
    intro h y0 y3 y5 o3 hf kk
    rw [f_X1_digestRooms_5] at hf
    cases hf
  | succ n ih =>
    intro h y0 y3 y5 o3 hf kk
    rw [f_X1_digestRooms_5] at hf
    refine aw_iload 2 dX1_digestRooms_5 rfl ?_
    refine aw_bipush (v := 8) dX1_digestRooms_7 rfl ?_
    refine aw_icmp_ge (tgt := 33) dX1_digestRooms_9 rfl (fun hc => ?_) (fun hc => ?_)
    · have hf := itp0 hc hf
      obtain rfl := so1 hf
      exact aw_pick [0, 1] rfl kk
    · have hf := itn0 hc hf
      refine aw_ldc2 (v := 31) kc_RX1_124 dX1_digestRooms_12 ?_
      refine aw_lload_n 1 dX1_digestRooms_15 rfl ?_
      refine aw_lmul dX1_digestRooms_16 ?_
      refine aw_aload_n 0 dX1_digestRooms_17 rfl ?_
      refine aw_gR fl_RX1_9 dX1_digestRooms_18 hf (fun x1 hf => ?_)
      refine aw_iload 2 dX1_digestRooms_21 rfl ?_
      refine aw_ldI dX1_digestRooms_23 hf (fun x2 hf => ?_)
      refine aw_i2l dX1_digestRooms_24 ?_
      refine aw_ladd dX1_digestRooms_25 ?_
      refine aw_lstore_n [(3, .long ((31 * y3) + x2.toInt64)), (0, .ref y0), (5, .int y5)] dX1_digestRooms_26 (Nat.le_of_ble_eq_true rfl) rfl ?_
      refine aw_iinc (y5 + 1) [(5, .int (y5 + 1)), (3, .long ((31 * y3) + x2.toInt64)), (0, .ref y0)] 2 dX1_digestRooms_27 rfl rfl (Nat.le_of_ble_eq_true rfl) rfl ?_
      refine aw_goto (tgt := 5) dX1_digestRooms_30 rfl ?_
      refine aw_pick [2, 1, 0] rfl ?_
      exact ih h y0 ((31 * y3) + x2.toInt64) (y5 + 1) o3 hf kk
set_option maxRecDepth 100000 in
set_option maxHeartbeats 4000000 in
theorem l_X1_digestRooms_49 (g : Gx) {res : Option Value × Hea} : ∀ (n : Nat) (h : Hea) (y0 : Nat) (y3 : Int64) (y5 : Int32) (y6 : Int32) (o3 : Int64) (hf : f_X1_digestRooms_49 n h y0 y3 y5 y6 = some o3) (kk : AW g RX1 cX1_digestRooms (7, some .long, "digestRooms", 1, 0, 0) res 78 [(0, .ref y0), (3, .long o3), (5, .int y5)] [] h 0 0), AW g RX1 cX1_digestRooms (7, some .long, "digestRooms", 1, 0, 0) res 49 [(0, .ref y0), (3, .long y3), (5, .int y5), (6, .int y6)] [] h 0 0 := by
  intro n
  induction n with
  | zero =>
    intro h y0 y3 y5 y6 o3 hf kk
    rw [f_X1_digestRooms_49] at hf
    cases hf
  | succ n ih =>
    intro h y0 y3 y5 y6 o3 hf kk
    rw [f_X1_digestRooms_49] at hf
    refine aw_iload 3 dX1_digestRooms_49 rfl ?_
    refine aw_bipush (v := 8) dX1_digestRooms_51 rfl ?_
    refine aw_icmp_ge (tgt := 78) dX1_digestRooms_53 rfl (fun hc => ?_) (fun hc => ?_)
    · have hf := itp0 hc hf
      obtain rfl := so1 hf
      exact aw_pick [0, 1, 2] rfl kk
    · have hf := itn0 hc hf
      refine aw_ldc2 (v := 31) kc_RX1_124 dX1_digestRooms_56 ?_
      refine aw_lload_n 1 dX1_digestRooms_59 rfl ?_
      refine aw_lmul dX1_digestRooms_60 ?_
      refine aw_aload_n 0 dX1_digestRooms_61 rfl ?_
      refine aw_iload 2 dX1_digestRooms_62 rfl ?_
      refine aw_iload 3 dX1_digestRooms_64 rfl ?_
      refine aw_cV_i (st := [.long (31 * y3)]) [.int y5, .int y6] wV_RX1_126 (ci := 1) rfl (fun xr er => c_X1_creaksBetween g h y0 y5 y6 xr er) dX1_digestRooms_66 rfl rfl (Nat.le_of_ble_eq_true rfl) (Nat.le_of_ble_eq_true rfl) (Nat.le_of_ble_eq_true rfl) (Nat.le_of_ble_eq_true rfl) hf (fun x1 hf => ?_)
      refine aw_i2l dX1_digestRooms_69 ?_
      refine aw_ladd dX1_digestRooms_70 ?_
      refine aw_lstore_n [(3, .long ((31 * y3) + x1.toInt64)), (0, .ref y0), (5, .int y5), (6, .int y6)] dX1_digestRooms_71 (Nat.le_of_ble_eq_true rfl) rfl ?_
      refine aw_iinc (y6 + 1) [(6, .int (y6 + 1)), (3, .long ((31 * y3) + x1.toInt64)), (0, .ref y0), (5, .int y5)] 3 dX1_digestRooms_72 rfl rfl (Nat.le_of_ble_eq_true rfl) rfl ?_
      refine aw_goto (tgt := 49) dX1_digestRooms_75 rfl ?_
      refine aw_pick [2, 1, 3, 0] rfl ?_
      exact ih h y0 ((31 * y3) + x1.toInt64) y5 (y6 + 1) o3 hf kk
set_option maxRecDepth 100000 in
set_option maxHeartbeats 4000000 in
theorem l_X1_digestRooms_36 (g : Gx) {res : Option Value × Hea} : ∀ (n : Nat) (h : Hea) (y0 : Nat) (y3 : Int64) (y5 : Int32) (o3 : Int64) (hf : f_X1_digestRooms_36 n h y0 y3 y5 = some o3) (kk : AW g RX1 cX1_digestRooms (7, some .long, "digestRooms", 1, 0, 0) res 84 [(0, .ref y0), (3, .long o3)] [] h 0 0), AW g RX1 cX1_digestRooms (7, some .long, "digestRooms", 1, 0, 0) res 36 [(0, .ref y0), (3, .long y3), (5, .int y5)] [] h 0 0 := by
  intro n
  induction n with
  | zero =>
    intro h y0 y3 y5 o3 hf kk
    rw [f_X1_digestRooms_36] at hf
    cases hf
  | succ n ih =>
    intro h y0 y3 y5 o3 hf kk
    rw [f_X1_digestRooms_36] at hf
    refine aw_iload 2 dX1_digestRooms_36 rfl ?_
    refine aw_bipush (v := 8) dX1_digestRooms_38 rfl ?_
    refine aw_icmp_ge (tgt := 84) dX1_digestRooms_40 rfl (fun hc => ?_) (fun hc => ?_)
    · have hf := itp0 hc hf
      obtain rfl := so1 hf
      exact aw_pick [0, 1] rfl kk
    · have hf := itn0 hc hf
      refine aw_iload 2 dX1_digestRooms_43 rfl ?_
      refine aw_iconst (v := 1) dX1_digestRooms_45 rfl ?_
      refine aw_iadd dX1_digestRooms_46 ?_
      refine aw_istore [(6, .int (y5 + 1)), (0, .ref y0), (3, .long y3), (5, .int y5)] dX1_digestRooms_47 (Nat.le_of_ble_eq_true rfl) rfl ?_
      refine aw_pick [1, 2, 3, 0] rfl ?_
      refine reg1 (fun (v1 : Int64) => AW g RX1 cX1_digestRooms (7, some .long, "digestRooms", 1, 0, 0) res 78 [(0, .ref y0), (3, .long v1), (5, .int y5)] [] h 0 0) hf (fun v1 hf => ?_) (fun v1 hf hJ => l_X1_digestRooms_49 g  lots h y0 y3 y5 (y5 + 1) v1 hf hJ)
      refine aw_iinc (y5 + 1) [(5, .int (y5 + 1)), (0, .ref y0), (3, .long v1)] 2 dX1_digestRooms_78 rfl rfl (Nat.le_of_ble_eq_true rfl) rfl ?_
      refine aw_goto (tgt := 36) dX1_digestRooms_81 rfl ?_
      refine aw_pick [1, 2, 0] rfl ?_
      exact ih h y0 v1 (y5 + 1) o3 hf kk
set_option maxRecDepth 100000 in
set_option maxHeartbeats 4000000 in
theorem l_X1_digestRooms_87 (g : Gx) {res : Option Value × Hea} : ∀ (n : Nat) (h : Hea) (y0 : Nat) (y3 : Int64) (y5 : Int32) (o3 : Int64) (hf : f_X1_digestRooms_87 n h y0 y3 y5 = some o3) (kk : AW g RX1 cX1_digestRooms (7, some .long, "digestRooms", 1, 0, 0) res 117 [(3, .long o3)] [] h 0 0), AW g RX1 cX1_digestRooms (7, some .long, "digestRooms", 1, 0, 0) res 87 [(0, .ref y0), (3, .long y3), (5, .int y5)] [] h 0 0 := by
  intro n
  induction n with
  | zero =>
    intro h y0 y3 y5 o3 hf kk
    rw [f_X1_digestRooms_87] at hf
    cases hf
  | succ n ih =>
    intro h y0 y3 y5 o3 hf kk
    rw [f_X1_digestRooms_87] at hf
    refine aw_iload 2 dX1_digestRooms_87 rfl ?_
    refine aw_aload_n 0 dX1_digestRooms_89 rfl ?_
    refine aw_gI fl_RX1_54 dX1_digestRooms_90 hf (fun x1 hf => ?_)
    refine aw_icmp_ge (tgt := 117) dX1_digestRooms_93 rfl (fun hc => ?_) (fun hc => ?_)
    · have hf := itp0 hc hf
      obtain rfl := so1 hf
      exact aw_pick [1] rfl kk
    · have hf := itn0 hc hf
      refine aw_ldc2 (v := 31) kc_RX1_124 dX1_digestRooms_96 ?_
      refine aw_lload_n 1 dX1_digestRooms_99 rfl ?_
      refine aw_lmul dX1_digestRooms_100 ?_
      refine aw_aload_n 0 dX1_digestRooms_101 rfl ?_
      refine aw_gR fl_RX1_18 dX1_digestRooms_102 hf (fun x2 hf => ?_)
      refine aw_iload 2 dX1_digestRooms_105 rfl ?_
      refine aw_ldI dX1_digestRooms_107 hf (fun x3 hf => ?_)
      refine aw_i2l dX1_digestRooms_108 ?_
      refine aw_ladd dX1_digestRooms_109 ?_
      refine aw_lstore_n [(3, .long ((31 * y3) + x3.toInt64)), (0, .ref y0), (5, .int y5)] dX1_digestRooms_110 (Nat.le_of_ble_eq_true rfl) rfl ?_
      refine aw_iinc (y5 + 1) [(5, .int (y5 + 1)), (3, .long ((31 * y3) + x3.toInt64)), (0, .ref y0)] 2 dX1_digestRooms_111 rfl rfl (Nat.le_of_ble_eq_true rfl) rfl ?_
      refine aw_goto (tgt := 87) dX1_digestRooms_114 rfl ?_
      refine aw_pick [2, 1, 0] rfl ?_
      exact ih h y0 ((31 * y3) + x3.toInt64) (y5 + 1) o3 hf kk
set_option maxRecDepth 100000 in
set_option maxHeartbeats 4000000 in
theorem c_X1_digestRooms (g : Gx) (h : Hea) (a0 : Nat) (a1 : Int64) (o : Int64) (hf : f_X1_digestRooms h a0 a1 = some o) : MC g yX1_digestRooms cX1_digestRooms 7 (some .long) 1 0 0 [.ref a0, .long a1] h (some (.long o), h) := by
  refine MC_of (own := RX1) (nm := "digestRooms") [(0, .ref a0), (1, .long a1)] rfl rfl pn_RX1 (Nat.le_of_ble_eq_true rfl) rfl ?_
  rw [f_X1_digestRooms] at hf
  refine aw_lload_n 1 dX1_digestRooms_0 rfl ?_
  refine aw_lstore_n [(3, .long a1), (0, .ref a0), (1, .long a1)] dX1_digestRooms_1 (Nat.le_of_ble_eq_true rfl) rfl ?_
  refine aw_iconst (v := 0) dX1_digestRooms_2 rfl ?_
  refine aw_istore [(5, .int 0), (3, .long a1), (0, .ref a0), (1, .long a1)] dX1_digestRooms_3 (Nat.le_of_ble_eq_true rfl) rfl ?_
  refine aw_pick [2, 1, 0] rfl ?_
  refine reg1 (fun (v1 : Int64) => AW g RX1 cX1_digestRooms (7, some .long, "digestRooms", 1, 0, 0) (some (.long o), h) 33 [(0, .ref a0), (3, .long v1)] [] h 0 0) hf (fun v1 hf => ?_) (fun v1 hf hJ => l_X1_digestRooms_5 g  lots h a0 a1 0 v1 hf hJ)
  refine aw_iconst (v := 0) dX1_digestRooms_33 rfl ?_
  refine aw_istore [(5, .int 0), (0, .ref a0), (3, .long v1)] dX1_digestRooms_34 (Nat.le_of_ble_eq_true rfl) rfl ?_
  refine aw_pick [1, 2, 0] rfl ?_
  refine reg1 (fun (v2 : Int64) => AW g RX1 cX1_digestRooms (7, some .long, "digestRooms", 1, 0, 0) (some (.long o), h) 84 [(0, .ref a0), (3, .long v2)] [] h 0 0) hf (fun v2 hf => ?_) (fun v2 hf hJ => l_X1_digestRooms_36 g  lots h a0 v1 0 v2 hf hJ)
  refine aw_iconst (v := 0) dX1_digestRooms_84 rfl ?_
  refine aw_istore [(5, .int 0), (0, .ref a0), (3, .long v2)] dX1_digestRooms_85 (Nat.le_of_ble_eq_true rfl) rfl ?_
  refine aw_pick [1, 2, 0] rfl ?_
  refine reg1 (fun (v3 : Int64) => AW g RX1 cX1_digestRooms (7, some .long, "digestRooms", 1, 0, 0) (some (.long o), h) 117 [(3, .long v3)] [] h 0 0) hf (fun v3 hf => ?_) (fun v3 hf hJ => l_X1_digestRooms_87 g  lots h a0 v2 0 v3 hf hJ)
  refine aw_lload_n 0 dX1_digestRooms_117 rfl ?_
  obtain rfl := so1 hf
  exact aw_lret dX1_digestRooms_118 rfl rfl
set_option maxRecDepth 100000 in
set_option maxHeartbeats 4000000 in
theorem l_X1_digestHeirs_5 (g : Gx) {res : Option Value × Hea} : ∀ (n : Nat) (h : Hea) (y0 : Nat) (y3 : Int64) (y5 : Int32) (o3 : Int64) (hf : f_X1_digestHeirs_5 n h y0 y3 y5 = some o3) (kk : AW g RX1 cX1_digestHeirs (6, some .long, "digestHeirs", 0, 0, 0) res 140 [(3, .long o3)] [] h 0 0), AW g RX1 cX1_digestHeirs (6, some .long, "digestHeirs", 0, 0, 0) res 5 [(0, .ref y0), (3, .long y3), (5, .int y5)] [] h 0 0 := by
  intro n
  induction n with
  | zero =>
    intro h y0 y3 y5 o3 hf kk
    rw [f_X1_digestHeirs_5] at hf
    cases hf
  | succ n ih =>
    intro h y0 y3 y5 o3 hf kk
    rw [f_X1_digestHeirs_5] at hf
    refine aw_iload 2 dX1_digestHeirs_5 rfl ?_
    refine aw_aload_n 0 dX1_digestHeirs_7 rfl ?_
    refine aw_gI fl_RX1_57 dX1_digestHeirs_8 hf (fun x1 hf => ?_)
    refine aw_icmp_ge (tgt := 140) dX1_digestHeirs_11 rfl (fun hc => ?_) (fun hc => ?_)
    · have hf := itp0 hc hf
      obtain rfl := so1 hf
      exact aw_pick [1] rfl kk
    · have hf := itn0 hc hf
      refine aw_ldc2 (v := 31) kc_RX1_124 dX1_digestHeirs_14 ?_
      refine aw_lload_n 1 dX1_digestHeirs_17 rfl ?_
      refine aw_lmul dX1_digestHeirs_18 ?_
      refine aw_aload_n 0 dX1_digestHeirs_19 rfl ?_
      refine aw_gR fl_RX1_21 dX1_digestHeirs_20 hf (fun x2 hf => ?_)
      refine aw_iload 2 dX1_digestHeirs_23 rfl ?_
      refine aw_ldI dX1_digestHeirs_25 hf (fun x3 hf => ?_)
      refine aw_i2l dX1_digestHeirs_26 ?_
      refine aw_ladd dX1_digestHeirs_27 ?_
      refine aw_lstore_n [(3, .long ((31 * y3) + x3.toInt64)), (0, .ref y0), (5, .int y5)] dX1_digestHeirs_28 (Nat.le_of_ble_eq_true rfl) rfl ?_
      refine aw_ldc2 (v := 31) kc_RX1_124 dX1_digestHeirs_29 ?_
      refine aw_lload_n 0 dX1_digestHeirs_32 rfl ?_
      refine aw_lmul dX1_digestHeirs_33 ?_
      refine aw_aload_n 1 dX1_digestHeirs_34 rfl ?_
      refine aw_gR fl_RX1_30 dX1_digestHeirs_35 hf (fun x4 hf => ?_)
      refine aw_gR fl_RX1_82 dX1_digestHeirs_38 hf (fun x5 hf => ?_)
      refine aw_iload 2 dX1_digestHeirs_41 rfl ?_
      refine aw_ldI dX1_digestHeirs_43 hf (fun x6 hf => ?_)
      refine aw_i2l dX1_digestHeirs_44 ?_
      refine aw_ladd dX1_digestHeirs_45 ?_
      refine aw_lstore_n [(3, .long ((31 * ((31 * y3) + x3.toInt64)) + x6.toInt64)), (0, .ref y0), (5, .int y5)] dX1_digestHeirs_46 (Nat.le_of_ble_eq_true rfl) rfl ?_
      refine aw_ldc2 (v := 31) kc_RX1_124 dX1_digestHeirs_47 ?_
      refine aw_lload_n 0 dX1_digestHeirs_50 rfl ?_
      refine aw_lmul dX1_digestHeirs_51 ?_
      refine aw_aload_n 1 dX1_digestHeirs_52 rfl ?_
      refine aw_gR fl_RX1_24 dX1_digestHeirs_53 hf (fun x7 hf => ?_)
      refine aw_iload 2 dX1_digestHeirs_56 rfl ?_
      refine aw_ldI dX1_digestHeirs_58 hf (fun x8 hf => ?_)
      refine aw_i2l dX1_digestHeirs_59 ?_
      refine aw_ladd dX1_digestHeirs_60 ?_
      refine aw_lstore_n [(3, .long ((31 * ((31 * ((31 * y3) + x3.toInt64)) + x6.toInt64)) + x8.toInt64)), (0, .ref y0), (5, .int y5)] dX1_digestHeirs_61 (Nat.le_of_ble_eq_true rfl) rfl ?_
      refine aw_ldc2 (v := 31) kc_RX1_124 dX1_digestHeirs_62 ?_
      refine aw_lload_n 0 dX1_digestHeirs_65 rfl ?_
      refine aw_lmul dX1_digestHeirs_66 ?_
      refine aw_aload_n 1 dX1_digestHeirs_67 rfl ?_
      refine aw_gR fl_RX1_30 dX1_digestHeirs_68 hf (fun x9 hf => ?_)
      refine aw_gR fl_RX1_79 dX1_digestHeirs_71 hf (fun x10 hf => ?_)
      refine aw_iload 2 dX1_digestHeirs_74 rfl ?_
      refine aw_ldI dX1_digestHeirs_76 hf (fun x11 hf => ?_)
      refine aw_i2l dX1_digestHeirs_77 ?_
      refine aw_ladd dX1_digestHeirs_78 ?_
      refine aw_lstore_n [(3, .long ((31 * ((31 * ((31 * ((31 * y3) + x3.toInt64)) + x6.toInt64)) + x8.toInt64)) + x11.toInt64)), (0, .ref y0), (5, .int y5)] dX1_digestHeirs_79 (Nat.le_of_ble_eq_true rfl) rfl ?_
      refine aw_ldc2 (v := 31) kc_RX1_124 dX1_digestHeirs_80 ?_
      refine aw_lload_n 0 dX1_digestHeirs_83 rfl ?_
      refine aw_lmul dX1_digestHeirs_84 ?_
      refine aw_aload_n 1 dX1_digestHeirs_85 rfl ?_
      refine aw_gR fl_RX1_30 dX1_digestHeirs_86 hf (fun x12 hf => ?_)
      refine aw_gR fl_RX1_98 dX1_digestHeirs_89 hf (fun x13 hf => ?_)
      refine aw_iload 2 dX1_digestHeirs_92 rfl ?_
      refine aw_ldI dX1_digestHeirs_94 hf (fun x14 hf => ?_)
      refine aw_i2l dX1_digestHeirs_95 ?_
      refine aw_ladd dX1_digestHeirs_96 ?_
      refine aw_lstore_n [(3, .long ((31 * ((31 * ((31 * ((31 * ((31 * y3) + x3.toInt64)) + x6.toInt64)) + x8.toInt64)) + x11.toInt64)) + x14.toInt64)), (0, .ref y0), (5, .int y5)] dX1_digestHeirs_97 (Nat.le_of_ble_eq_true rfl) rfl ?_
      refine aw_ldc2 (v := 31) kc_RX1_124 dX1_digestHeirs_98 ?_
      refine aw_lload_n 0 dX1_digestHeirs_101 rfl ?_
      refine aw_lmul dX1_digestHeirs_102 ?_
      refine aw_aload_n 1 dX1_digestHeirs_103 rfl ?_
      refine aw_gR fl_RX1_30 dX1_digestHeirs_104 hf (fun x15 hf => ?_)
      refine aw_gR fl_RX1_129 dX1_digestHeirs_107 hf (fun x16 hf => ?_)
      refine aw_iload 2 dX1_digestHeirs_110 rfl ?_
      refine aw_ldI dX1_digestHeirs_112 hf (fun x17 hf => ?_)
      refine aw_i2l dX1_digestHeirs_113 ?_
      refine aw_ladd dX1_digestHeirs_114 ?_
      refine aw_lstore_n [(3, .long ((31 * ((31 * ((31 * ((31 * ((31 * ((31 * y3) + x3.toInt64)) + x6.toInt64)) + x8.toInt64)) + x11.toInt64)) + x14.toInt64)) + x17.toInt64)), (0, .ref y0), (5, .int y5)] dX1_digestHeirs_115 (Nat.le_of_ble_eq_true rfl) rfl ?_
      refine aw_ldc2 (v := 31) kc_RX1_124 dX1_digestHeirs_116 ?_
      refine aw_lload_n 0 dX1_digestHeirs_119 rfl ?_
      refine aw_lmul dX1_digestHeirs_120 ?_
      refine aw_aload_n 1 dX1_digestHeirs_121 rfl ?_
      refine aw_gR fl_RX1_30 dX1_digestHeirs_122 hf (fun x18 hf => ?_)
      refine aw_gR fl_RX1_132 dX1_digestHeirs_125 hf (fun x19 hf => ?_)
      refine aw_iload 2 dX1_digestHeirs_128 rfl ?_
      refine aw_ldI dX1_digestHeirs_130 hf (fun x20 hf => ?_)
      refine aw_i2l dX1_digestHeirs_131 ?_
      refine aw_ladd dX1_digestHeirs_132 ?_
      refine aw_lstore_n [(3, .long ((31 * ((31 * ((31 * ((31 * ((31 * ((31 * ((31 * y3) + x3.toInt64)) + x6.toInt64)) + x8.toInt64)) + x11.toInt64)) + x14.toInt64)) + x17.toInt64)) + x20.toInt64)), (0, .ref y0), (5, .int y5)] dX1_digestHeirs_133 (Nat.le_of_ble_eq_true rfl) rfl ?_
      refine aw_iinc (y5 + 1) [(5, .int (y5 + 1)), (3, .long ((31 * ((31 * ((31 * ((31 * ((31 * ((31 * ((31 * y3) + x3.toInt64)) + x6.toInt64)) + x8.toInt64)) + x11.toInt64)) + x14.toInt64)) + x17.toInt64)) + x20.toInt64)), (0, .ref y0)] 2 dX1_digestHeirs_134 rfl rfl (Nat.le_of_ble_eq_true rfl) rfl ?_
      refine aw_goto (tgt := 5) dX1_digestHeirs_137 rfl ?_
      refine aw_pick [2, 1, 0] rfl ?_
      exact ih h y0 ((31 * ((31 * ((31 * ((31 * ((31 * ((31 * ((31 * y3) + x3.toInt64)) + x6.toInt64)) + x8.toInt64)) + x11.toInt64)) + x14.toInt64)) + x17.toInt64)) + x20.toInt64) (y5 + 1) o3 hf kk
set_option maxRecDepth 100000 in
set_option maxHeartbeats 4000000 in
theorem c_X1_digestHeirs (g : Gx) (h : Hea) (a0 : Nat) (a1 : Int64) (o : Int64) (hf : f_X1_digestHeirs h a0 a1 = some o) : MC g yX1_digestHeirs cX1_digestHeirs 6 (some .long) 0 0 0 [.ref a0, .long a1] h (some (.long o), h) := by
  refine MC_of (own := RX1) (nm := "digestHeirs") [(0, .ref a0), (1, .long a1)] rfl rfl pn_RX1 (Nat.le_of_ble_eq_true rfl) rfl ?_
  rw [f_X1_digestHeirs] at hf
  refine aw_lload_n 1 dX1_digestHeirs_0 rfl ?_
  refine aw_lstore_n [(3, .long a1), (0, .ref a0), (1, .long a1)] dX1_digestHeirs_1 (Nat.le_of_ble_eq_true rfl) rfl ?_
  refine aw_iconst (v := 0) dX1_digestHeirs_2 rfl ?_
  refine aw_istore [(5, .int 0), (3, .long a1), (0, .ref a0), (1, .long a1)] dX1_digestHeirs_3 (Nat.le_of_ble_eq_true rfl) rfl ?_
  refine aw_pick [2, 1, 0] rfl ?_
  refine reg1 (fun (v1 : Int64) => AW g RX1 cX1_digestHeirs (6, some .long, "digestHeirs", 0, 0, 0) (some (.long o), h) 140 [(3, .long v1)] [] h 0 0) hf (fun v1 hf => ?_) (fun v1 hf hJ => l_X1_digestHeirs_5 g  lots h a0 a1 0 v1 hf hJ)
  refine aw_lload_n 0 dX1_digestHeirs_140 rfl ?_
  obtain rfl := so1 hf
  exact aw_lret dX1_digestHeirs_141 rfl rfl
set_option maxRecDepth 100000 in
set_option maxHeartbeats 4000000 in
theorem l_X1_digestSeen_5 (g : Gx) {res : Option Value × Hea} : ∀ (n : Nat) (h : Hea) (y0 : Nat) (y3 : Int64) (y5 : Int32) (o3 : Int64) (hf : f_X1_digestSeen_5 n h y0 y3 y5 = some o3) (kk : AW g RX1 cX1_digestSeen (6, some .long, "digestSeen", 0, 0, 0) res 65 [(3, .long o3)] [] h 0 0), AW g RX1 cX1_digestSeen (6, some .long, "digestSeen", 0, 0, 0) res 5 [(0, .ref y0), (3, .long y3), (5, .int y5)] [] h 0 0 := by
  intro n
  induction n with
  | zero =>
    intro h y0 y3 y5 o3 hf kk
    rw [f_X1_digestSeen_5] at hf
    cases hf
  | succ n ih =>
    intro h y0 y3 y5 o3 hf kk
    rw [f_X1_digestSeen_5] at hf
    refine aw_iload 2 dX1_digestSeen_5 rfl ?_
    refine aw_aload_n 0 dX1_digestSeen_7 rfl ?_
    refine aw_gI fl_RX1_63 dX1_digestSeen_8 hf (fun x1 hf => ?_)
    refine aw_icmp_ge (tgt := 65) dX1_digestSeen_11 rfl (fun hc => ?_) (fun hc => ?_)
    · have hf := itp0 hc hf
      obtain rfl := so1 hf
      exact aw_pick [1] rfl kk
    · have hf := itn0 hc hf
      refine aw_ldc2 (v := 31) kc_RX1_124 dX1_digestSeen_14 ?_
      refine aw_lload_n 1 dX1_digestSeen_17 rfl ?_
      refine aw_lmul dX1_digestSeen_18 ?_
      refine aw_aload_n 0 dX1_digestSeen_19 rfl ?_
      refine aw_gR fl_RX1_34 dX1_digestSeen_20 hf (fun x2 hf => ?_)
      refine aw_iload 2 dX1_digestSeen_23 rfl ?_
      refine aw_ldI dX1_digestSeen_25 hf (fun x3 hf => ?_)
      refine aw_i2l dX1_digestSeen_26 ?_
      refine aw_ladd dX1_digestSeen_27 ?_
      refine aw_lstore_n [(3, .long ((31 * y3) + x3.toInt64)), (0, .ref y0), (5, .int y5)] dX1_digestSeen_28 (Nat.le_of_ble_eq_true rfl) rfl ?_
      refine aw_ldc2 (v := 31) kc_RX1_124 dX1_digestSeen_29 ?_
      refine aw_lload_n 0 dX1_digestSeen_32 rfl ?_
      refine aw_lmul dX1_digestSeen_33 ?_
      refine aw_aload_n 1 dX1_digestSeen_34 rfl ?_
      refine aw_gR fl_RX1_37 dX1_digestSeen_35 hf (fun x4 hf => ?_)
      refine aw_iload 2 dX1_digestSeen_38 rfl ?_
      refine aw_ldI dX1_digestSeen_40 hf (fun x5 hf => ?_)
      refine aw_i2l dX1_digestSeen_41 ?_
      refine aw_ladd dX1_digestSeen_42 ?_
      refine aw_lstore_n [(3, .long ((31 * ((31 * y3) + x3.toInt64)) + x5.toInt64)), (0, .ref y0), (5, .int y5)] dX1_digestSeen_43 (Nat.le_of_ble_eq_true rfl) rfl ?_
      refine aw_ldc2 (v := 31) kc_RX1_124 dX1_digestSeen_44 ?_
      refine aw_lload_n 0 dX1_digestSeen_47 rfl ?_
      refine aw_lmul dX1_digestSeen_48 ?_
      refine aw_aload_n 1 dX1_digestSeen_49 rfl ?_
      refine aw_gR fl_RX1_40 dX1_digestSeen_50 hf (fun x6 hf => ?_)
      refine aw_iload 2 dX1_digestSeen_53 rfl ?_
      refine aw_ldI dX1_digestSeen_55 hf (fun x7 hf => ?_)
      refine aw_i2l dX1_digestSeen_56 ?_
      refine aw_ladd dX1_digestSeen_57 ?_
      refine aw_lstore_n [(3, .long ((31 * ((31 * ((31 * y3) + x3.toInt64)) + x5.toInt64)) + x7.toInt64)), (0, .ref y0), (5, .int y5)] dX1_digestSeen_58 (Nat.le_of_ble_eq_true rfl) rfl ?_
      refine aw_iinc (y5 + 1) [(5, .int (y5 + 1)), (3, .long ((31 * ((31 * ((31 * y3) + x3.toInt64)) + x5.toInt64)) + x7.toInt64)), (0, .ref y0)] 2 dX1_digestSeen_59 rfl rfl (Nat.le_of_ble_eq_true rfl) rfl ?_
      refine aw_goto (tgt := 5) dX1_digestSeen_62 rfl ?_
      refine aw_pick [2, 1, 0] rfl ?_
      exact ih h y0 ((31 * ((31 * ((31 * y3) + x3.toInt64)) + x5.toInt64)) + x7.toInt64) (y5 + 1) o3 hf kk
set_option maxRecDepth 100000 in
set_option maxHeartbeats 4000000 in
theorem c_X1_digestSeen (g : Gx) (h : Hea) (a0 : Nat) (a1 : Int64) (o : Int64) (hf : f_X1_digestSeen h a0 a1 = some o) : MC g yX1_digestSeen cX1_digestSeen 6 (some .long) 0 0 0 [.ref a0, .long a1] h (some (.long o), h) := by
  refine MC_of (own := RX1) (nm := "digestSeen") [(0, .ref a0), (1, .long a1)] rfl rfl pn_RX1 (Nat.le_of_ble_eq_true rfl) rfl ?_
  rw [f_X1_digestSeen] at hf
  refine aw_lload_n 1 dX1_digestSeen_0 rfl ?_
  refine aw_lstore_n [(3, .long a1), (0, .ref a0), (1, .long a1)] dX1_digestSeen_1 (Nat.le_of_ble_eq_true rfl) rfl ?_
  refine aw_iconst (v := 0) dX1_digestSeen_2 rfl ?_
  refine aw_istore [(5, .int 0), (3, .long a1), (0, .ref a0), (1, .long a1)] dX1_digestSeen_3 (Nat.le_of_ble_eq_true rfl) rfl ?_
  refine aw_pick [2, 1, 0] rfl ?_
  refine reg1 (fun (v1 : Int64) => AW g RX1 cX1_digestSeen (6, some .long, "digestSeen", 0, 0, 0) (some (.long o), h) 65 [(3, .long v1)] [] h 0 0) hf (fun v1 hf => ?_) (fun v1 hf hJ => l_X1_digestSeen_5 g  lots h a0 a1 0 v1 hf hJ)
  refine aw_lload_n 0 dX1_digestSeen_65 rfl ?_
  obtain rfl := so1 hf
  exact aw_lret dX1_digestSeen_66 rfl rfl
set_option maxRecDepth 100000 in
set_option maxHeartbeats 4000000 in
theorem l_X7_digest_6 (g : Gx) {res : Option Value × Hea} : ∀ (n : Nat) (h : Hea) (y0 : Nat) (y1 : Int64) (y3 : Int32) (o1 : Int64) (hf : f_X7_digest_6 n h y0 y1 y3 = some o1) (kk : AW g RX7 cX7_digest (4, some .long, "digest", 2, 0, 0) res 31 [(0, .ref y0), (1, .long o1)] [] h 0 0), AW g RX7 cX7_digest (4, some .long, "digest", 2, 0, 0) res 6 [(0, .ref y0), (1, .long y1), (3, .int y3)] [] h 0 0 := by
  intro n
  induction n with
  | zero =>
    intro h y0 y1 y3 o1 hf kk
    rw [f_X7_digest_6] at hf
    cases hf
  | succ n ih =>
    intro h y0 y1 y3 o1 hf kk
    rw [f_X7_digest_6] at hf
    refine aw_iload_n 2 dX7_digest_6 rfl ?_
    refine aw_bipush (v := 8) dX7_digest_7 rfl ?_
    refine aw_icmp_gt (tgt := 31) dX7_digest_9 rfl (fun hc => ?_) (fun hc => ?_)
    · have hf := itp0 hc hf
      obtain rfl := so1 hf
      exact aw_pick [0, 1] rfl kk
    · have hf := itn0 hc hf
      refine aw_ldc2 (v := 31) kc_RX7_285 dX7_digest_12 ?_
      refine aw_lload_n 1 dX7_digest_15 rfl ?_
      refine aw_lmul dX7_digest_16 ?_
      refine aw_aload_n 0 dX7_digest_17 rfl ?_
      refine aw_iload_n 2 dX7_digest_18 rfl ?_
      refine aw_cV_i (st := [.long (31 * y1)]) [.int y3] wV_RX7_280 (ci := 7) rfl (fun xr er => c_X7_counted g h y0 y3 xr er) dX7_digest_19 rfl rfl (Nat.le_of_ble_eq_true rfl) (Nat.le_of_ble_eq_true rfl) (Nat.le_of_ble_eq_true rfl) (Nat.le_of_ble_eq_true rfl) hf (fun x1 hf => ?_)
      refine aw_i2l dX7_digest_22 ?_
      refine aw_ladd dX7_digest_23 ?_
      refine aw_lstore_n [(1, .long ((31 * y1) + x1.toInt64)), (0, .ref y0), (3, .int y3)] dX7_digest_24 (Nat.le_of_ble_eq_true rfl) rfl ?_
      refine aw_iinc (y3 + 1) [(3, .int (y3 + 1)), (1, .long ((31 * y1) + x1.toInt64)), (0, .ref y0)] 2 dX7_digest_25 rfl rfl (Nat.le_of_ble_eq_true rfl) rfl ?_
      refine aw_goto (tgt := 6) dX7_digest_28 rfl ?_
      refine aw_pick [2, 1, 0] rfl ?_
      exact ih h y0 ((31 * y1) + x1.toInt64) (y3 + 1) o1 hf kk
set_option maxRecDepth 100000 in
set_option maxHeartbeats 4000000 in
theorem c_X7_digest (g : Gx) (h : Hea) (a0 : Nat) (o : Int64) (hf : f_X7_digest h a0 = some o) : MC g yX7_digest cX7_digest 4 (some .long) 2 0 0 [.ref a0] h (some (.long o), h) := by
  refine MC_of (own := RX7) (nm := "digest") [(0, .ref a0)] rfl rfl pn_RX7 (Nat.le_of_ble_eq_true rfl) rfl ?_
  rw [f_X7_digest] at hf
  refine aw_ldc2 (v := 1033) kc_RX7_283 dX7_digest_0 ?_
  refine aw_lstore_n [(1, .long 1033), (0, .ref a0)] dX7_digest_3 (Nat.le_of_ble_eq_true rfl) rfl ?_
  refine aw_iconst (v := 0) dX7_digest_4 rfl ?_
  refine aw_istore_n [(3, .int 0), (1, .long 1033), (0, .ref a0)] dX7_digest_5 (Nat.le_of_ble_eq_true rfl) rfl ?_
  refine aw_pick [2, 1, 0] rfl ?_
  refine reg1 (fun (v1 : Int64) => AW g RX7 cX7_digest (4, some .long, "digest", 2, 0, 0) (some (.long o), h) 31 [(0, .ref a0), (1, .long v1)] [] h 0 0) hf (fun v1 hf => ?_) (fun v1 hf hJ => l_X7_digest_6 g  lots h a0 1033 0 v1 hf hJ)
  refine aw_aload_n 0 dX7_digest_31 rfl ?_
  refine aw_gR fl_RX7_10 dX7_digest_32 hf (fun x2 hf => ?_)
  refine aw_lload_n 1 dX7_digest_35 rfl ?_
  refine aw_cV_l (st := []) [.long v1] wV_RX7_287 (ci := 1) rfl (fun xr er => c_X1_digestRooms g h x2 v1 xr er) dX7_digest_36 rfl rfl (Nat.le_of_ble_eq_true rfl) (Nat.le_of_ble_eq_true rfl) (Nat.le_of_ble_eq_true rfl) (Nat.le_of_ble_eq_true rfl) hf (fun x3 hf => ?_)
  refine aw_lstore_n [(1, .long x3), (0, .ref a0)] dX7_digest_39 (Nat.le_of_ble_eq_true rfl) rfl ?_
  refine aw_aload_n 1 dX7_digest_40 rfl ?_
  refine aw_gR fl_RX7_10 dX7_digest_41 hf (fun x4 hf => ?_)
  refine aw_lload_n 0 dX7_digest_44 rfl ?_
  refine aw_cV_l (st := []) [.long x3] wV_RX7_291 (ci := 1) rfl (fun xr er => c_X1_digestHeirs g h x4 x3 xr er) dX7_digest_45 rfl rfl (Nat.le_of_ble_eq_true rfl) (Nat.le_of_ble_eq_true rfl) (Nat.le_of_ble_eq_true rfl) (Nat.le_of_ble_eq_true rfl) hf (fun x5 hf => ?_)
  refine aw_lstore_n [(1, .long x5), (0, .ref a0)] dX7_digest_48 (Nat.le_of_ble_eq_true rfl) rfl ?_
  refine aw_aload_n 1 dX7_digest_49 rfl ?_
  refine aw_gR fl_RX7_10 dX7_digest_50 hf (fun x6 hf => ?_)
  refine aw_lload_n 0 dX7_digest_53 rfl ?_
  refine aw_cV_l (st := []) [.long x5] wV_RX7_294 (ci := 1) rfl (fun xr er => c_X1_digestSeen g h x6 x5 xr er) dX7_digest_54 rfl rfl (Nat.le_of_ble_eq_true rfl) (Nat.le_of_ble_eq_true rfl) (Nat.le_of_ble_eq_true rfl) (Nat.le_of_ble_eq_true rfl) hf (fun x7 hf => ?_)
  refine aw_lstore_n [(1, .long x7), (0, .ref a0)] dX7_digest_57 (Nat.le_of_ble_eq_true rfl) rfl ?_
  refine aw_ldc2 (v := 31) kc_RX7_285 dX7_digest_58 ?_
  refine aw_lload_n 0 dX7_digest_61 rfl ?_
  refine aw_lmul dX7_digest_62 ?_
  refine aw_aload_n 1 dX7_digest_63 rfl ?_
  refine aw_gJ fl_RX7_74 dX7_digest_64 hf (fun x8 hf => ?_)
  refine aw_ladd dX7_digest_67 ?_
  refine aw_lstore_n [(1, .long ((31 * x7) + x8)), (0, .ref a0)] dX7_digest_68 (Nat.le_of_ble_eq_true rfl) rfl ?_
  refine aw_ldc2 (v := 31) kc_RX7_285 dX7_digest_69 ?_
  refine aw_lload_n 0 dX7_digest_72 rfl ?_
  refine aw_lmul dX7_digest_73 ?_
  refine aw_aload_n 1 dX7_digest_74 rfl ?_
  refine aw_gJ fl_RX7_78 dX7_digest_75 hf (fun x9 hf => ?_)
  refine aw_ladd dX7_digest_78 ?_
  obtain rfl := so1 hf
  exact aw_lret dX7_digest_79 rfl rfl
