/-! ===== contracts, by program: X4_takeRoom .. X7_undo ===== -/
set_option maxRecDepth 100000 in
set_option maxHeartbeats 4000000 in
theorem c_X4_takeRoom (g : Gx) (h : Hea) (a0 : Nat) (a1 : Nat) (o : Hea) (hf : f_X4_takeRoom h a0 a1 = some o) : MC g yX4_takeRoom cX4_takeRoom 4 none 3 0 0 [.ref a0, .ref a1] h (none, o) := by
  refine MC_of (own := RX4) (nm := "takeRoom") [(0, .ref a0), (1, .ref a1)] rfl rfl pn_RX4 (Nat.le_of_ble_eq_true rfl) rfl ?_
  rw [f_X4_takeRoom] at hf
  refine aw_aload_n 0 dX4_takeRoom_0 rfl ?_
  refine aw_cV_v (st := []) [] wV_RX4_43 (ci := 4) rfl (fun hr er => c_X4_advance g h a0 hr er) dX4_takeRoom_1 rfl rfl (Nat.le_of_ble_eq_true rfl) (Nat.le_of_ble_eq_true rfl) (Nat.le_of_ble_eq_true rfl) (Nat.le_of_ble_eq_true rfl) hf (fun h1 hf => ?_)
  refine aw_aload_n 0 dX4_takeRoom_4 rfl ?_
  refine aw_iconst (v := 0) dX4_takeRoom_5 rfl ?_
  refine aw_bipush (v := 7) dX4_takeRoom_6 rfl ?_
  refine aw_cV_wi (st := []) [.int 0, .int 7] wV_RX4_91 (ci := 4) rfl (fun xr hr er => c_X4_number g h1 a0 0 7 xr hr er) dX4_takeRoom_8 rfl rfl (Nat.le_of_ble_eq_true rfl) (Nat.le_of_ble_eq_true rfl) (Nat.le_of_ble_eq_true rfl) (Nat.le_of_ble_eq_true rfl) hf (fun x2 h3 hf => ?_)
  refine aw_istore_n [(2, .int x2), (0, .ref a0), (1, .ref a1)] dX4_takeRoom_11 (Nat.le_of_ble_eq_true rfl) rfl ?_
  refine aw_aload_n 1 dX4_takeRoom_12 rfl ?_
  refine aw_iconst (v := 0) dX4_takeRoom_13 rfl ?_
  refine aw_bipush (v := 9) dX4_takeRoom_14 rfl ?_
  refine aw_cV_wi (st := []) [.int 0, .int 9] wV_RX4_91 (ci := 4) rfl (fun xr hr er => c_X4_number g h3 a0 0 9 xr hr er) dX4_takeRoom_16 rfl rfl (Nat.le_of_ble_eq_true rfl) (Nat.le_of_ble_eq_true rfl) (Nat.le_of_ble_eq_true rfl) (Nat.le_of_ble_eq_true rfl) hf (fun x4 h5 hf => ?_)
  refine aw_istore_n [(3, .int x4), (2, .int x2), (0, .ref a0), (1, .ref a1)] dX4_takeRoom_19 (Nat.le_of_ble_eq_true rfl) rfl ?_
  refine aw_aload_n 2 dX4_takeRoom_20 rfl ?_
  refine aw_gI fl_RX4_31 dX4_takeRoom_21 hf (fun x6 hf => ?_)
  refine aw_iconst (v := (-1)) dX4_takeRoom_24 rfl ?_
  refine reg1 (fun (h7 : Hea) => AW g RX4 cX4_takeRoom (4, none, "takeRoom", 3, 0, 0) (none, o) 35 [] [] h7 0 0) hf (fun h7 hf => ?_) (fun h7 hf hJ35 => ?_)
  · obtain rfl := so1 hf
    exact aw_vret dX4_takeRoom_35 rfl rfl
  · refine aw_icmp_ne (tgt := 35) dX4_takeRoom_25 rfl (fun hc => ?_) (fun hc => ?_)
    · have hf := itn0 hc hf
      obtain rfl := so1 hf
      exact aw_pick [] rfl hJ35
    · have hf := itp0 hc hf
      refine aw_aload_n 3 dX4_takeRoom_28 rfl ?_
      refine aw_gR fl_RX4_98 dX4_takeRoom_29 hf (fun x8 hf => ?_)
      refine aw_iload_n 1 dX4_takeRoom_32 rfl ?_
      refine aw_iload_n 0 dX4_takeRoom_33 rfl ?_
      refine aw_stI dX4_takeRoom_34 hf (fun h9 hf => ?_)
      obtain rfl := so1 hf
      exact aw_pick [] rfl hJ35
set_option maxRecDepth 100000 in
set_option maxHeartbeats 4000000 in
theorem c_X4_takeDoor (g : Gx) (h : Hea) (a0 : Nat) (a1 : Nat) (o : Hea) (hf : f_X4_takeDoor h a0 a1 = some o) : MC g yX4_takeDoor cX4_takeDoor 6 none 3 0 0 [.ref a0, .ref a1] h (none, o) := by
  refine MC_of (own := RX4) (nm := "takeDoor") [(0, .ref a0), (1, .ref a1)] rfl rfl pn_RX4 (Nat.le_of_ble_eq_true rfl) rfl ?_
  rw [f_X4_takeDoor] at hf
  refine aw_aload_n 0 dX4_takeDoor_0 rfl ?_
  refine aw_cV_v (st := []) [] wV_RX4_43 (ci := 4) rfl (fun hr er => c_X4_advance g h a0 hr er) dX4_takeDoor_1 rfl rfl (Nat.le_of_ble_eq_true rfl) (Nat.le_of_ble_eq_true rfl) (Nat.le_of_ble_eq_true rfl) (Nat.le_of_ble_eq_true rfl) hf (fun h1 hf => ?_)
  refine aw_aload_n 0 dX4_takeDoor_4 rfl ?_
  refine aw_iconst (v := 0) dX4_takeDoor_5 rfl ?_
  refine aw_bipush (v := 7) dX4_takeDoor_6 rfl ?_
  refine aw_cV_wi (st := []) [.int 0, .int 7] wV_RX4_91 (ci := 4) rfl (fun xr hr er => c_X4_number g h1 a0 0 7 xr hr er) dX4_takeDoor_8 rfl rfl (Nat.le_of_ble_eq_true rfl) (Nat.le_of_ble_eq_true rfl) (Nat.le_of_ble_eq_true rfl) (Nat.le_of_ble_eq_true rfl) hf (fun x2 h3 hf => ?_)
  refine aw_istore_n [(2, .int x2), (0, .ref a0), (1, .ref a1)] dX4_takeDoor_11 (Nat.le_of_ble_eq_true rfl) rfl ?_
  refine aw_aload_n 1 dX4_takeDoor_12 rfl ?_
  refine aw_gI fl_RX4_22 dX4_takeDoor_13 hf (fun x4 hf => ?_)
  refine aw_istore_n [(3, .int x4), (2, .int x2), (0, .ref a0), (1, .ref a1)] dX4_takeDoor_16 (Nat.le_of_ble_eq_true rfl) rfl ?_
  refine aw_aload_n 2 dX4_takeDoor_17 rfl ?_
  refine aw_iconst (v := 0) dX4_takeDoor_18 rfl ?_
  refine aw_bipush (v := 7) dX4_takeDoor_19 rfl ?_
  refine aw_cV_wi (st := []) [.int 0, .int 7] wV_RX4_91 (ci := 4) rfl (fun xr hr er => c_X4_number g h3 a0 0 7 xr hr er) dX4_takeDoor_21 rfl rfl (Nat.le_of_ble_eq_true rfl) (Nat.le_of_ble_eq_true rfl) (Nat.le_of_ble_eq_true rfl) (Nat.le_of_ble_eq_true rfl) hf (fun x5 h6 hf => ?_)
  refine aw_istore [(4, .int x5), (3, .int x4), (2, .int x2), (0, .ref a0), (1, .ref a1)] dX4_takeDoor_24 (Nat.le_of_ble_eq_true rfl) rfl ?_
  refine aw_aload_n 3 dX4_takeDoor_26 rfl ?_
  refine aw_gI fl_RX4_31 dX4_takeDoor_27 hf (fun x7 hf => ?_)
  refine aw_iconst (v := (-1)) dX4_takeDoor_30 rfl ?_
  refine reg1 (fun (h8 : Hea) => AW g RX4 cX4_takeDoor (6, none, "takeDoor", 3, 0, 0) (none, o) 45 [(0, .ref a0), (1, .ref a1), (2, .int x2), (4, .int x5)] [] h8 0 0) hf (fun h8 hf => ?_) (fun h8 hf hJ45 => ?_)
  · refine aw_aload_n 0 dX4_takeDoor_45 rfl ?_
    refine aw_iconst (v := 1) dX4_takeDoor_46 rfl ?_
    refine aw_bipush (v := 9) dX4_takeDoor_47 rfl ?_
    refine aw_cV_wi (st := []) [.int 1, .int 9] wV_RX4_91 (ci := 4) rfl (fun xr hr er => c_X4_number g h8 a0 1 9 xr hr er) dX4_takeDoor_49 rfl rfl (Nat.le_of_ble_eq_true rfl) (Nat.le_of_ble_eq_true rfl) (Nat.le_of_ble_eq_true rfl) (Nat.le_of_ble_eq_true rfl) hf (fun x10 h11 hf => ?_)
    refine aw_istore [(5, .int x10), (0, .ref a0), (1, .ref a1), (2, .int x2), (4, .int x5)] dX4_takeDoor_52 (Nat.le_of_ble_eq_true rfl) rfl ?_
    refine aw_aload_n 1 dX4_takeDoor_54 rfl ?_
    refine aw_gI fl_RX4_31 dX4_takeDoor_55 hf (fun x12 hf => ?_)
    refine aw_iconst (v := (-1)) dX4_takeDoor_58 rfl ?_
    refine reg1 (fun (h13 : Hea) => AW g RX4 cX4_takeDoor (6, none, "takeDoor", 3, 0, 0) (none, o) 71 [] [] h13 0 0) hf (fun h13 hf => ?_) (fun h13 hf hJ71 => ?_)
    · obtain rfl := so1 hf
      exact aw_vret dX4_takeDoor_71 rfl rfl
    · refine aw_icmp_ne (tgt := 71) dX4_takeDoor_59 rfl (fun hc => ?_) (fun hc => ?_)
      · have hf := itn0 hc hf
        obtain rfl := so1 hf
        exact aw_pick [] rfl hJ71
      · have hf := itp0 hc hf
        refine aw_aload_n 2 dX4_takeDoor_62 rfl ?_
        refine aw_iload_n 3 dX4_takeDoor_63 rfl ?_
        refine aw_iload 4 dX4_takeDoor_64 rfl ?_
        refine aw_iload 0 dX4_takeDoor_66 rfl ?_
        refine aw_cV_v (st := []) [.int x2, .int x5, .int x10] wV_RX4_102 (ci := 1) rfl (fun hr er => c_X1_hang g h11 a1 x2 x5 x10 hr er) dX4_takeDoor_68 rfl rfl (Nat.le_of_ble_eq_true rfl) (Nat.le_of_ble_eq_true rfl) (Nat.le_of_ble_eq_true rfl) (Nat.le_of_ble_eq_true rfl) hf (fun h14 hf => ?_)
        obtain rfl := so1 hf
        exact aw_pick [] rfl hJ71
  · refine aw_icmp_ne (tgt := 45) dX4_takeDoor_31 rfl (fun hc => ?_) (fun hc => ?_)
    · have hf := itn0 hc hf
      obtain rfl := so1 hf
      exact aw_pick [3, 4, 2, 0] rfl hJ45
    · have hf := itp0 hc hf
      refine aw_iload_n 2 dX4_takeDoor_34 rfl ?_
      refine aw_iload 0 dX4_takeDoor_35 rfl ?_
      refine aw_icmp_ne (tgt := 45) dX4_takeDoor_37 rfl (fun hc => ?_) (fun hc => ?_)
      · have hf := itn0 hc hf
        obtain rfl := so1 hf
        exact aw_pick [3, 4, 2, 0] rfl hJ45
      · have hf := itp0 hc hf
        refine aw_aload_n 3 dX4_takeDoor_40 rfl ?_
        refine aw_iload_n 1 dX4_takeDoor_41 rfl ?_
        refine aw_pI fp_RX4_31 dX4_takeDoor_42 hf (fun h9 hf => ?_)
        obtain rfl := so1 hf
        exact aw_pick [3, 4, 2, 0] rfl hJ45
set_option maxRecDepth 100000 in
set_option maxHeartbeats 4000000 in
theorem l_X4_takeList_6 (g : Gx) : ∀ (n : Nat) (h : Hea) (y0 : Nat) (y1 : Nat) (y2 : Int32) (o : Hea) (hf : f_X4_takeList_6 n h y0 y1 y2 = some o), AW g RX4 cX4_takeList (4, none, "takeList", 3, 0, 0) (none, o) 6 [(0, .ref y0), (1, .ref y1), (2, .int y2)] [] h 0 0 := by
  intro n
  induction n with
  | zero =>
    intro h y0 y1 y2 o hf
    rw [f_X4_takeList_6] at hf
    cases hf
  | succ n ih =>
    intro h y0 y1 y2 o hf
    rw [f_X4_takeList_6] at hf
    refine aw_iload_n 2 dX4_takeList_6 rfl ?_
    refine aw_bipush (v := 12) dX4_takeList_7 rfl ?_
    refine aw_icmp_ge (tgt := 61) dX4_takeList_9 rfl (fun hc => ?_) (fun hc => ?_)
    · have hf := itp0 hc hf
      obtain rfl := so1 hf
      exact aw_vret dX4_takeList_61 rfl rfl
    · have hf := itn0 hc hf
      refine aw_iload_n 2 dX4_takeList_12 rfl ?_
      refine aw_if_eq (tgt := 24) dX4_takeList_13 rfl (fun hc => ?_) (fun hc => ?_)
      · have hf := itp0 hc hf
        refine aw_aload_n 0 dX4_takeList_24 rfl ?_
        refine aw_iconst (v := 0) dX4_takeList_25 rfl ?_
        refine aw_bipush (v := 7) dX4_takeList_26 rfl ?_
        refine aw_cV_wi (st := []) [.int 0, .int 7] wV_RX4_91 (ci := 4) rfl (fun xr hr er => c_X4_number g h y0 0 7 xr hr er) dX4_takeList_28 rfl rfl (Nat.le_of_ble_eq_true rfl) (Nat.le_of_ble_eq_true rfl) (Nat.le_of_ble_eq_true rfl) (Nat.le_of_ble_eq_true rfl) hf (fun x1 h2 hf => ?_)
        refine aw_istore_n [(3, .int x1), (0, .ref y0), (1, .ref y1), (2, .int y2)] dX4_takeList_31 (Nat.le_of_ble_eq_true rfl) rfl ?_
        refine aw_aload_n 1 dX4_takeList_32 rfl ?_
        refine aw_gI fl_RX4_31 dX4_takeList_33 hf (fun x3 hf => ?_)
        refine aw_iconst (v := (-1)) dX4_takeList_36 rfl ?_
        refine aw_icmp_eq (tgt := 41) dX4_takeList_37 rfl (fun hc => ?_) (fun hc => ?_)
        · have hf := itp0 hc hf
          refine aw_aload_n 2 dX4_takeList_41 rfl ?_
          refine aw_gR fl_RX4_106 dX4_takeList_42 hf (fun x4 hf => ?_)
          refine aw_iload_n 3 dX4_takeList_45 rfl ?_
          refine aw_iload_n 0 dX4_takeList_46 rfl ?_
          refine aw_stI dX4_takeList_47 hf (fun h5 hf => ?_)
          refine aw_aload_n 2 dX4_takeList_48 rfl ?_
          refine aw_iload_n 3 dX4_takeList_49 rfl ?_
          refine aw_iconst (v := 1) dX4_takeList_50 rfl ?_
          refine aw_iadd dX4_takeList_51 ?_
          refine aw_pI fp_RX4_109 dX4_takeList_52 hf (fun h6 hf => ?_)
          refine aw_iinc (y2 + 1) [(2, .int (y2 + 1)), (3, .int x1), (0, .ref y0), (1, .ref y1)] 3 dX4_takeList_55 rfl rfl (Nat.le_of_ble_eq_true rfl) rfl ?_
          refine aw_goto (tgt := 6) dX4_takeList_58 rfl ?_
          refine aw_pick [2, 3, 0] rfl ?_
          exact ih h6 y0 y1 (y2 + 1) o hf
        · have hf := itn0 hc hf
          obtain rfl := so1 hf
          exact aw_vret dX4_takeList_40 rfl rfl
      · have hf := itn0 hc hf
        refine aw_aload_n 0 dX4_takeList_16 rfl ?_
        refine aw_gI fl_RX4_25 dX4_takeList_17 hf (fun x7 hf => ?_)
        refine aw_iconst (v := 2) dX4_takeList_20 rfl ?_
        refine aw_icmp_ne (tgt := 61) dX4_takeList_21 rfl (fun hc => ?_) (fun hc => ?_)
        · have hf := itn0 hc hf
          obtain rfl := so1 hf
          exact aw_vret dX4_takeList_61 rfl rfl
        · have hf := itp0 hc hf
          refine aw_aload_n 0 dX4_takeList_24 rfl ?_
          refine aw_iconst (v := 0) dX4_takeList_25 rfl ?_
          refine aw_bipush (v := 7) dX4_takeList_26 rfl ?_
          refine aw_cV_wi (st := []) [.int 0, .int 7] wV_RX4_91 (ci := 4) rfl (fun xr hr er => c_X4_number g h y0 0 7 xr hr er) dX4_takeList_28 rfl rfl (Nat.le_of_ble_eq_true rfl) (Nat.le_of_ble_eq_true rfl) (Nat.le_of_ble_eq_true rfl) (Nat.le_of_ble_eq_true rfl) hf (fun x8 h9 hf => ?_)
          refine aw_istore_n [(3, .int x8), (0, .ref y0), (1, .ref y1), (2, .int y2)] dX4_takeList_31 (Nat.le_of_ble_eq_true rfl) rfl ?_
          refine aw_aload_n 1 dX4_takeList_32 rfl ?_
          refine aw_gI fl_RX4_31 dX4_takeList_33 hf (fun x10 hf => ?_)
          refine aw_iconst (v := (-1)) dX4_takeList_36 rfl ?_
          refine aw_icmp_eq (tgt := 41) dX4_takeList_37 rfl (fun hc => ?_) (fun hc => ?_)
          · have hf := itp0 hc hf
            refine aw_aload_n 2 dX4_takeList_41 rfl ?_
            refine aw_gR fl_RX4_106 dX4_takeList_42 hf (fun x11 hf => ?_)
            refine aw_iload_n 3 dX4_takeList_45 rfl ?_
            refine aw_iload_n 0 dX4_takeList_46 rfl ?_
            refine aw_stI dX4_takeList_47 hf (fun h12 hf => ?_)
            refine aw_aload_n 2 dX4_takeList_48 rfl ?_
            refine aw_iload_n 3 dX4_takeList_49 rfl ?_
            refine aw_iconst (v := 1) dX4_takeList_50 rfl ?_
            refine aw_iadd dX4_takeList_51 ?_
            refine aw_pI fp_RX4_109 dX4_takeList_52 hf (fun h13 hf => ?_)
            refine aw_iinc (y2 + 1) [(2, .int (y2 + 1)), (3, .int x8), (0, .ref y0), (1, .ref y1)] 3 dX4_takeList_55 rfl rfl (Nat.le_of_ble_eq_true rfl) rfl ?_
            refine aw_goto (tgt := 6) dX4_takeList_58 rfl ?_
            refine aw_pick [2, 3, 0] rfl ?_
            exact ih h13 y0 y1 (y2 + 1) o hf
          · have hf := itn0 hc hf
            obtain rfl := so1 hf
            exact aw_vret dX4_takeList_40 rfl rfl
set_option maxRecDepth 100000 in
set_option maxHeartbeats 4000000 in
theorem c_X4_takeList (g : Gx) (h : Hea) (a0 : Nat) (a1 : Nat) (o : Hea) (hf : f_X4_takeList h a0 a1 = some o) : MC g yX4_takeList cX4_takeList 4 none 3 0 0 [.ref a0, .ref a1] h (none, o) := by
  refine MC_of (own := RX4) (nm := "takeList") [(0, .ref a0), (1, .ref a1)] rfl rfl pn_RX4 (Nat.le_of_ble_eq_true rfl) rfl ?_
  rw [f_X4_takeList] at hf
  refine aw_aload_n 0 dX4_takeList_0 rfl ?_
  refine aw_cV_v (st := []) [] wV_RX4_43 (ci := 4) rfl (fun hr er => c_X4_advance g h a0 hr er) dX4_takeList_1 rfl rfl (Nat.le_of_ble_eq_true rfl) (Nat.le_of_ble_eq_true rfl) (Nat.le_of_ble_eq_true rfl) (Nat.le_of_ble_eq_true rfl) hf (fun h1 hf => ?_)
  refine aw_iconst (v := 0) dX4_takeList_4 rfl ?_
  refine aw_istore_n [(2, .int 0), (0, .ref a0), (1, .ref a1)] dX4_takeList_5 (Nat.le_of_ble_eq_true rfl) rfl ?_
  refine aw_pick [1, 2, 0] rfl ?_
  exact l_X4_takeList_6 g lots h1 a0 a1 0 _ hf
set_option maxRecDepth 100000 in
set_option maxHeartbeats 4000000 in
theorem c_X4_takeHeir (g : Gx) (h : Hea) (a0 : Nat) (a1 : Nat) (o : Hea) (hf : f_X4_takeHeir h a0 a1 = some o) : MC g yX4_takeHeir cX4_takeHeir 5 none 3 0 0 [.ref a0, .ref a1] h (none, o) := by
  refine MC_of (own := RX4) (nm := "takeHeir") [(0, .ref a0), (1, .ref a1)] rfl rfl pn_RX4 (Nat.le_of_ble_eq_true rfl) rfl ?_
  rw [f_X4_takeHeir] at hf
  refine aw_aload_n 0 dX4_takeHeir_0 rfl ?_
  refine aw_cV_v (st := []) [] wV_RX4_43 (ci := 4) rfl (fun hr er => c_X4_advance g h a0 hr er) dX4_takeHeir_1 rfl rfl (Nat.le_of_ble_eq_true rfl) (Nat.le_of_ble_eq_true rfl) (Nat.le_of_ble_eq_true rfl) (Nat.le_of_ble_eq_true rfl) hf (fun h1 hf => ?_)
  refine aw_aload_n 0 dX4_takeHeir_4 rfl ?_
  refine aw_iconst (v := 0) dX4_takeHeir_5 rfl ?_
  refine aw_iconst (v := 5) dX4_takeHeir_6 rfl ?_
  refine aw_cV_wi (st := []) [.int 0, .int 5] wV_RX4_91 (ci := 4) rfl (fun xr hr er => c_X4_number g h1 a0 0 5 xr hr er) dX4_takeHeir_7 rfl rfl (Nat.le_of_ble_eq_true rfl) (Nat.le_of_ble_eq_true rfl) (Nat.le_of_ble_eq_true rfl) (Nat.le_of_ble_eq_true rfl) hf (fun x2 h3 hf => ?_)
  refine aw_istore_n [(2, .int x2), (0, .ref a0), (1, .ref a1)] dX4_takeHeir_10 (Nat.le_of_ble_eq_true rfl) rfl ?_
  refine aw_aload_n 1 dX4_takeHeir_11 rfl ?_
  refine aw_iconst (v := 0) dX4_takeHeir_12 rfl ?_
  refine aw_bipush (v := 7) dX4_takeHeir_13 rfl ?_
  refine aw_cV_wi (st := []) [.int 0, .int 7] wV_RX4_91 (ci := 4) rfl (fun xr hr er => c_X4_number g h3 a0 0 7 xr hr er) dX4_takeHeir_15 rfl rfl (Nat.le_of_ble_eq_true rfl) (Nat.le_of_ble_eq_true rfl) (Nat.le_of_ble_eq_true rfl) (Nat.le_of_ble_eq_true rfl) hf (fun x4 h5 hf => ?_)
  refine aw_istore_n [(3, .int x4), (2, .int x2), (0, .ref a0), (1, .ref a1)] dX4_takeHeir_18 (Nat.le_of_ble_eq_true rfl) rfl ?_
  refine aw_aload_n 2 dX4_takeHeir_19 rfl ?_
  refine aw_iconst (v := 0) dX4_takeHeir_20 rfl ?_
  refine aw_bipush (v := 9) dX4_takeHeir_21 rfl ?_
  refine aw_cV_wi (st := []) [.int 0, .int 9] wV_RX4_91 (ci := 4) rfl (fun xr hr er => c_X4_number g h5 a0 0 9 xr hr er) dX4_takeHeir_23 rfl rfl (Nat.le_of_ble_eq_true rfl) (Nat.le_of_ble_eq_true rfl) (Nat.le_of_ble_eq_true rfl) (Nat.le_of_ble_eq_true rfl) hf (fun x6 h7 hf => ?_)
  refine aw_istore [(4, .int x6), (3, .int x4), (2, .int x2), (0, .ref a0), (1, .ref a1)] dX4_takeHeir_26 (Nat.le_of_ble_eq_true rfl) rfl ?_
  refine aw_aload_n 3 dX4_takeHeir_28 rfl ?_
  refine aw_gI fl_RX4_31 dX4_takeHeir_29 hf (fun x8 hf => ?_)
  refine aw_iconst (v := (-1)) dX4_takeHeir_32 rfl ?_
  refine reg1 (fun (h9 : Hea) => AW g RX4 cX4_takeHeir (5, none, "takeHeir", 3, 0, 0) (none, o) 45 [] [] h9 0 0) hf (fun h9 hf => ?_) (fun h9 hf hJ45 => ?_)
  · obtain rfl := so1 hf
    exact aw_vret dX4_takeHeir_45 rfl rfl
  · refine aw_icmp_ne (tgt := 45) dX4_takeHeir_33 rfl (fun hc => ?_) (fun hc => ?_)
    · have hf := itn0 hc hf
      obtain rfl := so1 hf
      exact aw_pick [] rfl hJ45
    · have hf := itp0 hc hf
      refine aw_aload_n 4 dX4_takeHeir_36 rfl ?_
      refine aw_iload_n 2 dX4_takeHeir_37 rfl ?_
      refine aw_iload_n 1 dX4_takeHeir_38 rfl ?_
      refine aw_iload 0 dX4_takeHeir_39 rfl ?_
      refine aw_cV_wi (st := []) [.int x2, .int x4, .int x6] wV_RX4_112 (ci := 1) rfl (fun xr hr er => c_X1_bring g h7 a1 x2 x4 x6 xr hr er) dX4_takeHeir_41 rfl rfl (Nat.le_of_ble_eq_true rfl) (Nat.le_of_ble_eq_true rfl) (Nat.le_of_ble_eq_true rfl) (Nat.le_of_ble_eq_true rfl) hf (fun x10 h11 hf => ?_)
      refine aw_pop dX4_takeHeir_44 rfl ?_
      obtain rfl := so1 hf
      exact aw_pick [] rfl hJ45
set_option maxRecDepth 100000 in
set_option maxHeartbeats 4000000 in
theorem c_X4_takeStop (g : Gx) (h : Hea) (a0 : Nat) (o : Hea) (hf : f_X4_takeStop h a0 = some o) : MC g yX4_takeStop cX4_takeStop 1 none 2 0 0 [.ref a0] h (none, o) := by
  refine MC_of (own := RX4) (nm := "takeStop") [(0, .ref a0)] rfl rfl pn_RX4 (Nat.le_of_ble_eq_true rfl) rfl ?_
  rw [f_X4_takeStop] at hf
  refine aw_aload_n 0 dX4_takeStop_0 rfl ?_
  refine aw_gI fl_RX4_31 dX4_takeStop_1 hf (fun x1 hf => ?_)
  refine aw_iconst (v := (-1)) dX4_takeStop_4 rfl ?_
  refine reg1 (fun (h2 : Hea) => AW g RX4 cX4_takeStop (1, none, "takeStop", 2, 0, 0) (none, o) 24 [(0, .ref a0)] [] h2 0 0) hf (fun h2 hf => ?_) (fun h2 hf hJ24 => ?_)
  · refine aw_aload_n 0 dX4_takeStop_24 rfl ?_
    refine aw_gI fl_RX4_31 dX4_takeStop_25 hf (fun x6 hf => ?_)
    refine aw_iconst (v := (-1)) dX4_takeStop_28 rfl ?_
    refine reg1 (fun (h7 : Hea) => AW g RX4 cX4_takeStop (1, none, "takeStop", 2, 0, 0) (none, o) 36 [] [] h7 0 0) hf (fun h7 hf => ?_) (fun h7 hf hJ36 => ?_)
    · obtain rfl := so1 hf
      exact aw_vret dX4_takeStop_36 rfl rfl
    · refine aw_icmp_ne (tgt := 36) dX4_takeStop_29 rfl (fun hc => ?_) (fun hc => ?_)
      · have hf := itn0 hc hf
        obtain rfl := so1 hf
        exact aw_pick [] rfl hJ36
      · have hf := itp0 hc hf
        refine aw_aload_n 0 dX4_takeStop_32 rfl ?_
        refine aw_cV_v (st := []) [] wV_RX4_43 (ci := 4) rfl (fun hr er => c_X4_advance g h2 a0 hr er) dX4_takeStop_33 rfl rfl (Nat.le_of_ble_eq_true rfl) (Nat.le_of_ble_eq_true rfl) (Nat.le_of_ble_eq_true rfl) (Nat.le_of_ble_eq_true rfl) hf (fun h8 hf => ?_)
        obtain rfl := so1 hf
        exact aw_pick [] rfl hJ36
  · refine aw_icmp_ne (tgt := 24) dX4_takeStop_5 rfl (fun hc => ?_) (fun hc => ?_)
    · have hf := itn0 hc hf
      obtain rfl := so1 hf
      exact aw_pick [0] rfl hJ24
    · have hf := itp0 hc hf
      refine aw_aload_n 0 dX4_takeStop_8 rfl ?_
      refine aw_gI fl_RX4_25 dX4_takeStop_9 hf (fun x3 hf => ?_)
      refine aw_iconst (v := 3) dX4_takeStop_12 rfl ?_
      refine aw_icmp_eq (tgt := 24) dX4_takeStop_13 rfl (fun hc => ?_) (fun hc => ?_)
      · have hf := itp0 hc hf
        obtain rfl := so1 hf
        exact aw_pick [0] rfl hJ24
      · have hf := itn0 hc hf
        refine aw_aload_n 0 dX4_takeStop_16 rfl ?_
        refine aw_aload_n 0 dX4_takeStop_17 rfl ?_
        refine aw_gI fl_RX4_22 dX4_takeStop_18 hf (fun x4 hf => ?_)
        refine aw_pI fp_RX4_31 dX4_takeStop_21 hf (fun h5 hf => ?_)
        obtain rfl := so1 hf
        exact aw_pick [0] rfl hJ24
set_option maxRecDepth 100000 in
set_option maxHeartbeats 4000000 in
theorem c_X4_takeItem (g : Gx) (h : Hea) (a0 : Nat) (a1 : Nat) (o : Hea) (hf : f_X4_takeItem h a0 a1 = some o) : MC g yX4_takeItem cX4_takeItem 2 none 6 0 0 [.ref a0, .ref a1] h (none, o) := by
  refine MC_of (own := RX4) (nm := "takeItem") [(0, .ref a0), (1, .ref a1)] rfl rfl pn_RX4 (Nat.le_of_ble_eq_true rfl) rfl ?_
  rw [f_X4_takeItem] at hf
  refine aw_aload_n 0 dX4_takeItem_0 rfl ?_
  refine aw_gI fl_RX4_34 dX4_takeItem_1 hf (fun x1 hf => ?_)
  refine reg1 (fun (h2 : Hea) => AW g RX4 cX4_takeItem (2, none, "takeItem", 6, 0, 0) (none, o) 100 [(0, .ref a0)] [] h2 0 0) hf (fun h2 hf => ?_) (fun h2 hf hJ100 => ?_)
  · refine aw_aload_n 0 dX4_takeItem_100 rfl ?_
    refine aw_cV_v (st := []) [] wV_RX4_86 (ci := 4) rfl (fun hr er => c_X4_takeStop g h2 a0 hr er) dX4_takeItem_101 rfl rfl (Nat.le_of_ble_eq_true rfl) (Nat.le_of_ble_eq_true rfl) (Nat.le_of_ble_eq_true rfl) (Nat.le_of_ble_eq_true rfl) hf (fun h17 hf => ?_)
    refine aw_aload_n 0 dX4_takeItem_104 rfl ?_
    refine aw_dup dX4_takeItem_105 rfl ?_
    refine aw_gI fl_RX4_34 dX4_takeItem_106 hf (fun x18 hf => ?_)
    refine aw_iconst (v := 1) dX4_takeItem_109 rfl ?_
    refine aw_iadd dX4_takeItem_110 ?_
    refine aw_pI fp_RX4_34 dX4_takeItem_111 hf (fun h19 hf => ?_)
    obtain rfl := so1 hf
    exact aw_vret dX4_takeItem_114 rfl rfl
  · refine aw_if_ne (tgt := 15) dX4_takeItem_4 rfl (fun hc => ?_) (fun hc => ?_)
    · have hf := itn0 hc hf
      refine aw_aload_n 0 dX4_takeItem_15 rfl ?_
      refine aw_ldcS (q := g.2.2.1 0) ldS_0 dX4_takeItem_16 ?_
      refine aw_cV_i (st := []) [.ref (g.2.2.1 0)] wV_RX4_59 (ci := 4) rfl (fun xr er => c_X4_isWord g h a0 0 xr er) dX4_takeItem_18 rfl rfl (Nat.le_of_ble_eq_true rfl) (Nat.le_of_ble_eq_true rfl) (Nat.le_of_ble_eq_true rfl) (Nat.le_of_ble_eq_true rfl) hf (fun x3 hf => ?_)
      refine aw_if_eq (tgt := 32) dX4_takeItem_21 rfl (fun hc => ?_) (fun hc => ?_)
      · have hf := itp0 hc hf
        refine aw_aload_n 0 dX4_takeItem_32 rfl ?_
        refine aw_ldcS (q := g.2.2.1 1) ldS_1 dX4_takeItem_33 ?_
        refine aw_cV_i (st := []) [.ref (g.2.2.1 1)] wV_RX4_59 (ci := 4) rfl (fun xr er => c_X4_isWord g h a0 1 xr er) dX4_takeItem_35 rfl rfl (Nat.le_of_ble_eq_true rfl) (Nat.le_of_ble_eq_true rfl) (Nat.le_of_ble_eq_true rfl) (Nat.le_of_ble_eq_true rfl) hf (fun x4 hf => ?_)
        refine aw_if_eq (tgt := 49) dX4_takeItem_38 rfl (fun hc => ?_) (fun hc => ?_)
        · have hf := itp0 hc hf
          refine aw_aload_n 0 dX4_takeItem_49 rfl ?_
          refine aw_ldcS (q := g.2.2.1 2) ldS_2 dX4_takeItem_50 ?_
          refine aw_cV_i (st := []) [.ref (g.2.2.1 2)] wV_RX4_59 (ci := 4) rfl (fun xr er => c_X4_isWord g h a0 2 xr er) dX4_takeItem_52 rfl rfl (Nat.le_of_ble_eq_true rfl) (Nat.le_of_ble_eq_true rfl) (Nat.le_of_ble_eq_true rfl) (Nat.le_of_ble_eq_true rfl) hf (fun x5 hf => ?_)
          refine aw_if_eq (tgt := 66) dX4_takeItem_55 rfl (fun hc => ?_) (fun hc => ?_)
          · have hf := itp0 hc hf
            refine aw_aload_n 0 dX4_takeItem_66 rfl ?_
            refine aw_ldcS (q := g.2.2.1 3) ldS_3 dX4_takeItem_67 ?_
            refine aw_cV_i (st := []) [.ref (g.2.2.1 3)] wV_RX4_59 (ci := 4) rfl (fun xr er => c_X4_isWord g h a0 3 xr er) dX4_takeItem_69 rfl rfl (Nat.le_of_ble_eq_true rfl) (Nat.le_of_ble_eq_true rfl) (Nat.le_of_ble_eq_true rfl) (Nat.le_of_ble_eq_true rfl) hf (fun x6 hf => ?_)
            refine aw_if_eq (tgt := 92) dX4_takeItem_72 rfl (fun hc => ?_) (fun hc => ?_)
            · have hf := itp0 hc hf
              refine aw_aload_n 0 dX4_takeItem_92 rfl ?_
              refine aw_aload_n 0 dX4_takeItem_93 rfl ?_
              refine aw_gI fl_RX4_22 dX4_takeItem_94 hf (fun x7 hf => ?_)
              refine aw_pI fp_RX4_31 dX4_takeItem_97 hf (fun h8 hf => ?_)
              obtain rfl := so1 hf
              exact aw_pick [0] rfl hJ100
            · have hf := itn0 hc hf
              refine aw_aload_n 1 dX4_takeItem_75 rfl ?_
              refine aw_gI fl_RX4_78 dX4_takeItem_76 hf (fun x9 hf => ?_)
              refine aw_bipush (v := 6) dX4_takeItem_79 rfl ?_
              refine aw_icmp_ge (tgt := 92) dX4_takeItem_81 rfl (fun hc => ?_) (fun hc => ?_)
              · have hf := itp0 hc hf
                refine aw_aload_n 0 dX4_takeItem_92 rfl ?_
                refine aw_aload_n 0 dX4_takeItem_93 rfl ?_
                refine aw_gI fl_RX4_22 dX4_takeItem_94 hf (fun x10 hf => ?_)
                refine aw_pI fp_RX4_31 dX4_takeItem_97 hf (fun h11 hf => ?_)
                obtain rfl := so1 hf
                exact aw_pick [0] rfl hJ100
              · have hf := itn0 hc hf
                refine aw_aload_n 0 dX4_takeItem_84 rfl ?_
                refine aw_aload_n 1 dX4_takeItem_85 rfl ?_
                refine aw_cV_v (st := []) [.ref a1] wV_RX4_83 (ci := 4) rfl (fun hr er => c_X4_takeHeir g h a0 a1 hr er) dX4_takeItem_86 rfl rfl (Nat.le_of_ble_eq_true rfl) (Nat.le_of_ble_eq_true rfl) (Nat.le_of_ble_eq_true rfl) (Nat.le_of_ble_eq_true rfl) hf (fun h12 hf => ?_)
                refine aw_goto (tgt := 100) dX4_takeItem_89 rfl ?_
                obtain rfl := so1 hf
                exact aw_pick [0] rfl hJ100
          · have hf := itn0 hc hf
            refine aw_aload_n 0 dX4_takeItem_58 rfl ?_
            refine aw_aload_n 1 dX4_takeItem_59 rfl ?_
            refine aw_cV_v (st := []) [.ref a1] wV_RX4_73 (ci := 4) rfl (fun hr er => c_X4_takeList g h a0 a1 hr er) dX4_takeItem_60 rfl rfl (Nat.le_of_ble_eq_true rfl) (Nat.le_of_ble_eq_true rfl) (Nat.le_of_ble_eq_true rfl) (Nat.le_of_ble_eq_true rfl) hf (fun h13 hf => ?_)
            refine aw_goto (tgt := 100) dX4_takeItem_63 rfl ?_
            obtain rfl := so1 hf
            exact aw_pick [0] rfl hJ100
        · have hf := itn0 hc hf
          refine aw_aload_n 0 dX4_takeItem_41 rfl ?_
          refine aw_aload_n 1 dX4_takeItem_42 rfl ?_
          refine aw_cV_v (st := []) [.ref a1] wV_RX4_68 (ci := 4) rfl (fun hr er => c_X4_takeDoor g h a0 a1 hr er) dX4_takeItem_43 rfl rfl (Nat.le_of_ble_eq_true rfl) (Nat.le_of_ble_eq_true rfl) (Nat.le_of_ble_eq_true rfl) (Nat.le_of_ble_eq_true rfl) hf (fun h14 hf => ?_)
          refine aw_goto (tgt := 100) dX4_takeItem_46 rfl ?_
          obtain rfl := so1 hf
          exact aw_pick [0] rfl hJ100
      · have hf := itn0 hc hf
        refine aw_aload_n 0 dX4_takeItem_24 rfl ?_
        refine aw_aload_n 1 dX4_takeItem_25 rfl ?_
        refine aw_cV_v (st := []) [.ref a1] wV_RX4_63 (ci := 4) rfl (fun hr er => c_X4_takeRoom g h a0 a1 hr er) dX4_takeItem_26 rfl rfl (Nat.le_of_ble_eq_true rfl) (Nat.le_of_ble_eq_true rfl) (Nat.le_of_ble_eq_true rfl) (Nat.le_of_ble_eq_true rfl) hf (fun h15 hf => ?_)
        refine aw_goto (tgt := 100) dX4_takeItem_29 rfl ?_
        obtain rfl := so1 hf
        exact aw_pick [0] rfl hJ100
    · have hf := itp0 hc hf
      refine aw_aload_n 0 dX4_takeItem_7 rfl ?_
      refine aw_aload_n 1 dX4_takeItem_8 rfl ?_
      refine aw_cV_v (st := []) [.ref a1] wV_RX4_54 (ci := 4) rfl (fun hr er => c_X4_takeHouse g h a0 a1 hr er) dX4_takeItem_9 rfl rfl (Nat.le_of_ble_eq_true rfl) (Nat.le_of_ble_eq_true rfl) (Nat.le_of_ble_eq_true rfl) (Nat.le_of_ble_eq_true rfl) hf (fun h16 hf => ?_)
      refine aw_goto (tgt := 100) dX4_takeItem_12 rfl ?_
      obtain rfl := so1 hf
      exact aw_pick [0] rfl hJ100
set_option maxRecDepth 100000 in
set_option maxHeartbeats 4000000 in
theorem l_X4_readInto_37 (g : Gx) {res : Option Value × Hea} : ∀ (n : Nat) (h : Hea) (y0 : Nat) (y1 : Nat) (y4 : Int32) (ho : Hea) (hf : f_X4_readInto_37 n h y0 y1 y4 = some ho) (kk : AW g RX4 cX4_readInto (5, some .int, "readInto", 7, 0, 0) res 63 [(0, .ref y0)] [] ho 0 0), AW g RX4 cX4_readInto (5, some .int, "readInto", 7, 0, 0) res 37 [(0, .ref y0), (1, .ref y1), (4, .int y4)] [] h 0 0 := by
  intro n
  induction n with
  | zero =>
    intro h y0 y1 y4 ho hf kk
    rw [f_X4_readInto_37] at hf
    cases hf
  | succ n ih =>
    intro h y0 y1 y4 ho hf kk
    rw [f_X4_readInto_37] at hf
    refine aw_iload 2 dX4_readInto_37 rfl ?_
    refine aw_sipush (v := 150) dX4_readInto_39 rfl ?_
    refine aw_icmp_ge (tgt := 63) dX4_readInto_42 rfl (fun hc => ?_) (fun hc => ?_)
    · have hf := itp0 hc hf
      obtain rfl := so1 hf
      exact aw_pick [0] rfl kk
    · have hf := itn0 hc hf
      refine aw_aload_n 0 dX4_readInto_45 rfl ?_
      refine aw_cV_i (st := []) [] wV_RX4_46 (ci := 4) rfl (fun xr er => c_X4_goesOn g h y0 xr er) dX4_readInto_46 rfl rfl (Nat.le_of_ble_eq_true rfl) (Nat.le_of_ble_eq_true rfl) (Nat.le_of_ble_eq_true rfl) (Nat.le_of_ble_eq_true rfl) hf (fun x1 hf => ?_)
      refine aw_if_eq (tgt := 63) dX4_readInto_49 rfl (fun hc => ?_) (fun hc => ?_)
      · have hf := itp0 hc hf
        obtain rfl := so1 hf
        exact aw_pick [0] rfl kk
      · have hf := itn0 hc hf
        refine aw_aload_n 0 dX4_readInto_52 rfl ?_
        refine aw_aload_n 1 dX4_readInto_53 rfl ?_
        refine aw_cV_v (st := []) [.ref y1] wV_RX4_50 (ci := 4) rfl (fun hr er => c_X4_takeItem g h y0 y1 hr er) dX4_readInto_54 rfl rfl (Nat.le_of_ble_eq_true rfl) (Nat.le_of_ble_eq_true rfl) (Nat.le_of_ble_eq_true rfl) (Nat.le_of_ble_eq_true rfl) hf (fun h2 hf => ?_)
        refine aw_iinc (y4 + 1) [(4, .int (y4 + 1)), (0, .ref y0), (1, .ref y1)] 2 dX4_readInto_57 rfl rfl (Nat.le_of_ble_eq_true rfl) rfl ?_
        refine aw_goto (tgt := 37) dX4_readInto_60 rfl ?_
        refine aw_pick [1, 2, 0] rfl ?_
        exact ih h2 y0 y1 (y4 + 1) ho hf kk
set_option maxRecDepth 100000 in
set_option maxHeartbeats 4000000 in
theorem c_X4_readInto (g : Gx) (h : Hea) (a0 : Nat) (a1 : Nat) (a2 : Nat) (a3 : Int32) (o : Int32) (hz : Hea) (hf : f_X4_readInto h a0 a1 a2 a3 = some (o, hz)) : MC g yX4_readInto cX4_readInto 5 (some .int) 7 0 0 [.ref a0, .ref a1, .ref a2, .int a3] h (some (.int o), hz) := by
  refine MC_of (own := RX4) (nm := "readInto") [(0, .ref a0), (1, .ref a1), (2, .ref a2), (3, .int a3)] rfl rfl pn_RX4 (Nat.le_of_ble_eq_true rfl) rfl ?_
  rw [f_X4_readInto] at hf
  refine aw_aload_n 0 dX4_readInto_0 rfl ?_
  refine aw_aload_n 2 dX4_readInto_1 rfl ?_
  refine aw_pR fp_RX4_9 dX4_readInto_2 rfl rfl (fun q => by cases q) hf (fun h1 hf => ?_)
  refine aw_aload_n 0 dX4_readInto_5 rfl ?_
  refine aw_iload_n 3 dX4_readInto_6 rfl ?_
  refine aw_aload_n 2 dX4_readInto_7 rfl ?_
  refine aw_alen (fun _ => rfl) dX4_readInto_8 hf (fun x2 hf => ?_)
  refine aw_mmin km_RX4_37 dX4_readInto_9 (Nat.le_of_ble_eq_true rfl) (Nat.le_of_ble_eq_true rfl) (Nat.le_of_ble_eq_true rfl) (Nat.le_of_ble_eq_true rfl) ?_
  refine aw_pI fp_RX4_15 dX4_readInto_12 hf (fun h3 hf => ?_)
  refine aw_aload_n 0 dX4_readInto_15 rfl ?_
  refine aw_iconst (v := 0) dX4_readInto_16 rfl ?_
  refine aw_pI fp_RX4_19 dX4_readInto_17 hf (fun h4 hf => ?_)
  refine aw_aload_n 0 dX4_readInto_20 rfl ?_
  refine aw_iconst (v := (-1)) dX4_readInto_21 rfl ?_
  refine aw_pI fp_RX4_31 dX4_readInto_22 hf (fun h5 hf => ?_)
  refine aw_aload_n 0 dX4_readInto_25 rfl ?_
  refine aw_iconst (v := 0) dX4_readInto_26 rfl ?_
  refine aw_pI fp_RX4_34 dX4_readInto_27 hf (fun h6 hf => ?_)
  refine aw_aload_n 0 dX4_readInto_30 rfl ?_
  refine aw_cV_v (st := []) [] wV_RX4_43 (ci := 4) rfl (fun hr er => c_X4_advance g h6 a0 hr er) dX4_readInto_31 rfl rfl (Nat.le_of_ble_eq_true rfl) (Nat.le_of_ble_eq_true rfl) (Nat.le_of_ble_eq_true rfl) (Nat.le_of_ble_eq_true rfl) hf (fun h7 hf => ?_)
  refine aw_iconst (v := 0) dX4_readInto_34 rfl ?_
  refine aw_istore [(4, .int 0), (0, .ref a0), (1, .ref a1), (2, .ref a2), (3, .int a3)] dX4_readInto_35 (Nat.le_of_ble_eq_true rfl) rfl ?_
  refine aw_pick [1, 2, 0] rfl ?_
  refine reg1 (fun (h8 : Hea) => AW g RX4 cX4_readInto (5, some .int, "readInto", 7, 0, 0) (some (.int o), hz) 63 [(0, .ref a0)] [] h8 0 0) hf (fun h8 hf => ?_) (fun h8 hf hJ => l_X4_readInto_37 g  lots h7 a0 a1 0 h8 hf hJ)
  refine aw_aload_n 0 dX4_readInto_63 rfl ?_
  refine aw_gI fl_RX4_31 dX4_readInto_64 hf (fun x9 hf => ?_)
  refine aw_iconst (v := (-1)) dX4_readInto_67 rfl ?_
  refine reg1 (fun (v10 : Int32) => AW g RX4 cX4_readInto (5, some .int, "readInto", 7, 0, 0) (some (.int o), hz) 85 [] [.int v10] h8 0 0) hf (fun v10 hf => ?_) (fun v10 hf hJ85 => ?_)
  · obtain ⟨rfl, rfl⟩ := so2 hf
    exact aw_iret dX4_readInto_85 rfl rfl
  · refine aw_icmp_ne (tgt := 78) dX4_readInto_68 rfl (fun hc => ?_) (fun hc => ?_)
    · have hf := itn0 hc hf
      refine aw_bipush (v := (-10)) dX4_readInto_78 rfl ?_
      refine aw_aload_n 0 dX4_readInto_80 rfl ?_
      refine aw_gI fl_RX4_31 dX4_readInto_81 hf (fun x11 hf => ?_)
      refine aw_isub dX4_readInto_84 ?_
      obtain rfl := so1 hf
      exact aw_pick [] rfl hJ85
    · have hf := itp0 hc hf
      refine aw_aload_n 0 dX4_readInto_71 rfl ?_
      refine aw_gI fl_RX4_34 dX4_readInto_72 hf (fun x12 hf => ?_)
      refine aw_goto (tgt := 85) dX4_readInto_75 rfl ?_
      obtain rfl := so1 hf
      exact aw_pick [] rfl hJ85
set_option maxRecDepth 100000 in
set_option maxHeartbeats 4000000 in
theorem c_X3_take (g : Gx) (h : Hea) (a0 : Nat) (a1 : Nat) (o : Hea) (hf : f_X3_take h a0 a1 = some o) : MC g yX3_take cX3_take 2 none 1 0 0 [.ref a0, .ref a1] h (none, o) := by
  refine MC_of (own := RX3) (nm := "take") [(0, .ref a0), (1, .ref a1)] rfl rfl pn_RX3 (Nat.le_of_ble_eq_true rfl) rfl ?_
  rw [f_X3_take] at hf
  refine aw_aload_n 0 dX3_take_0 rfl ?_
  refine aw_aload_n 1 dX3_take_1 rfl ?_
  refine aw_gI fl_RX3_9 dX3_take_2 hf (fun x1 hf => ?_)
  refine aw_pI fp_RX3_9 dX3_take_5 hf (fun h2 hf => ?_)
  refine aw_aload_n 1 dX3_take_8 rfl ?_
  refine aw_gR fl_RX3_15 dX3_take_9 hf (fun x3 hf => ?_)
  refine aw_iconst (v := 0) dX3_take_12 rfl ?_
  refine aw_aload_n 0 dX3_take_13 rfl ?_
  refine aw_gR fl_RX3_15 dX3_take_14 hf (fun x4 hf => ?_)
  refine aw_iconst (v := 0) dX3_take_17 rfl ?_
  refine aw_bipush (v := 6) dX3_take_18 rfl ?_
  refine aw_cpI kw_RX3_35 dX3_take_20 (Nat.le_of_ble_eq_true rfl) (Nat.le_of_ble_eq_true rfl) hf (fun h5 hf => ?_)
  refine aw_aload_n 1 dX3_take_23 rfl ?_
  refine aw_gR fl_RX3_19 dX3_take_24 hf (fun x6 hf => ?_)
  refine aw_iconst (v := 0) dX3_take_27 rfl ?_
  refine aw_aload_n 0 dX3_take_28 rfl ?_
  refine aw_gR fl_RX3_19 dX3_take_29 hf (fun x7 hf => ?_)
  refine aw_iconst (v := 0) dX3_take_32 rfl ?_
  refine aw_bipush (v := 6) dX3_take_33 rfl ?_
  refine aw_cpI kw_RX3_35 dX3_take_35 (Nat.le_of_ble_eq_true rfl) (Nat.le_of_ble_eq_true rfl) hf (fun h8 hf => ?_)
  refine aw_aload_n 1 dX3_take_38 rfl ?_
  refine aw_gR fl_RX3_22 dX3_take_39 hf (fun x9 hf => ?_)
  refine aw_iconst (v := 0) dX3_take_42 rfl ?_
  refine aw_aload_n 0 dX3_take_43 rfl ?_
  refine aw_gR fl_RX3_22 dX3_take_44 hf (fun x10 hf => ?_)
  refine aw_iconst (v := 0) dX3_take_47 rfl ?_
  refine aw_bipush (v := 6) dX3_take_48 rfl ?_
  refine aw_cpI kw_RX3_35 dX3_take_50 (Nat.le_of_ble_eq_true rfl) (Nat.le_of_ble_eq_true rfl) hf (fun h11 hf => ?_)
  refine aw_aload_n 1 dX3_take_53 rfl ?_
  refine aw_gR fl_RX3_25 dX3_take_54 hf (fun x12 hf => ?_)
  refine aw_iconst (v := 0) dX3_take_57 rfl ?_
  refine aw_aload_n 0 dX3_take_58 rfl ?_
  refine aw_gR fl_RX3_25 dX3_take_59 hf (fun x13 hf => ?_)
  refine aw_iconst (v := 0) dX3_take_62 rfl ?_
  refine aw_bipush (v := 6) dX3_take_63 rfl ?_
  refine aw_cpI kw_RX3_35 dX3_take_65 (Nat.le_of_ble_eq_true rfl) (Nat.le_of_ble_eq_true rfl) hf (fun h14 hf => ?_)
  refine aw_aload_n 1 dX3_take_68 rfl ?_
  refine aw_gR fl_RX3_28 dX3_take_69 hf (fun x15 hf => ?_)
  refine aw_iconst (v := 0) dX3_take_72 rfl ?_
  refine aw_aload_n 0 dX3_take_73 rfl ?_
  refine aw_gR fl_RX3_28 dX3_take_74 hf (fun x16 hf => ?_)
  refine aw_iconst (v := 0) dX3_take_77 rfl ?_
  refine aw_bipush (v := 6) dX3_take_78 rfl ?_
  refine aw_cpI kw_RX3_35 dX3_take_80 (Nat.le_of_ble_eq_true rfl) (Nat.le_of_ble_eq_true rfl) hf (fun h17 hf => ?_)
  obtain rfl := so1 hf
  exact aw_vret dX3_take_83 rfl rfl
set_option maxRecDepth 100000 in
set_option maxHeartbeats 4000000 in
theorem c_X1_take (g : Gx) (h : Hea) (a0 : Nat) (a1 : Nat) (o : Hea) (hf : f_X1_take h a0 a1 = some o) : MC g yX1_take cX1_take 2 none 2 0 0 [.ref a0, .ref a1] h (none, o) := by
  refine MC_of (own := RX1) (nm := "take") [(0, .ref a0), (1, .ref a1)] rfl rfl pn_RX1 (Nat.le_of_ble_eq_true rfl) rfl ?_
  rw [f_X1_take] at hf
  refine aw_aload_n 0 dX1_take_0 rfl ?_
  refine aw_aload_n 1 dX1_take_1 rfl ?_
  refine aw_gI fl_RX1_47 dX1_take_2 hf (fun x1 hf => ?_)
  refine aw_pI fp_RX1_47 dX1_take_5 hf (fun h2 hf => ?_)
  refine aw_aload_n 0 dX1_take_8 rfl ?_
  refine aw_aload_n 1 dX1_take_9 rfl ?_
  refine aw_gI fl_RX1_51 dX1_take_10 hf (fun x3 hf => ?_)
  refine aw_pI fp_RX1_51 dX1_take_13 hf (fun h4 hf => ?_)
  refine aw_aload_n 1 dX1_take_16 rfl ?_
  refine aw_gR fl_RX1_9 dX1_take_17 hf (fun x5 hf => ?_)
  refine aw_iconst (v := 0) dX1_take_20 rfl ?_
  refine aw_aload_n 0 dX1_take_21 rfl ?_
  refine aw_gR fl_RX1_9 dX1_take_22 hf (fun x6 hf => ?_)
  refine aw_iconst (v := 0) dX1_take_25 rfl ?_
  refine aw_bipush (v := 8) dX1_take_26 rfl ?_
  refine aw_cpI kw_RX1_66 dX1_take_28 (Nat.le_of_ble_eq_true rfl) (Nat.le_of_ble_eq_true rfl) hf (fun h7 hf => ?_)
  refine aw_aload_n 1 dX1_take_31 rfl ?_
  refine aw_gR fl_RX1_15 dX1_take_32 hf (fun x8 hf => ?_)
  refine aw_iconst (v := 0) dX1_take_35 rfl ?_
  refine aw_aload_n 0 dX1_take_36 rfl ?_
  refine aw_gR fl_RX1_15 dX1_take_37 hf (fun x9 hf => ?_)
  refine aw_iconst (v := 0) dX1_take_40 rfl ?_
  refine aw_bipush (v := 64) dX1_take_41 rfl ?_
  refine aw_cpI kw_RX1_66 dX1_take_43 (Nat.le_of_ble_eq_true rfl) (Nat.le_of_ble_eq_true rfl) hf (fun h10 hf => ?_)
  refine aw_aload_n 1 dX1_take_46 rfl ?_
  refine aw_gR fl_RX1_18 dX1_take_47 hf (fun x11 hf => ?_)
  refine aw_iconst (v := 0) dX1_take_50 rfl ?_
  refine aw_aload_n 0 dX1_take_51 rfl ?_
  refine aw_gR fl_RX1_18 dX1_take_52 hf (fun x12 hf => ?_)
  refine aw_iconst (v := 0) dX1_take_55 rfl ?_
  refine aw_bipush (v := 12) dX1_take_56 rfl ?_
  refine aw_cpI kw_RX1_66 dX1_take_58 (Nat.le_of_ble_eq_true rfl) (Nat.le_of_ble_eq_true rfl) hf (fun h13 hf => ?_)
  refine aw_aload_n 0 dX1_take_61 rfl ?_
  refine aw_aload_n 1 dX1_take_62 rfl ?_
  refine aw_gI fl_RX1_54 dX1_take_63 hf (fun x14 hf => ?_)
  refine aw_pI fp_RX1_54 dX1_take_66 hf (fun h15 hf => ?_)
  refine aw_aload_n 0 dX1_take_69 rfl ?_
  refine aw_aload_n 1 dX1_take_70 rfl ?_
  refine aw_gI fl_RX1_57 dX1_take_71 hf (fun x16 hf => ?_)
  refine aw_pI fp_RX1_57 dX1_take_74 hf (fun h17 hf => ?_)
  refine aw_aload_n 1 dX1_take_77 rfl ?_
  refine aw_gR fl_RX1_21 dX1_take_78 hf (fun x18 hf => ?_)
  refine aw_iconst (v := 0) dX1_take_81 rfl ?_
  refine aw_aload_n 0 dX1_take_82 rfl ?_
  refine aw_gR fl_RX1_21 dX1_take_83 hf (fun x19 hf => ?_)
  refine aw_iconst (v := 0) dX1_take_86 rfl ?_
  refine aw_bipush (v := 6) dX1_take_87 rfl ?_
  refine aw_cpI kw_RX1_66 dX1_take_89 (Nat.le_of_ble_eq_true rfl) (Nat.le_of_ble_eq_true rfl) hf (fun h20 hf => ?_)
  refine aw_aload_n 1 dX1_take_92 rfl ?_
  refine aw_gR fl_RX1_24 dX1_take_93 hf (fun x21 hf => ?_)
  refine aw_iconst (v := 0) dX1_take_96 rfl ?_
  refine aw_aload_n 0 dX1_take_97 rfl ?_
  refine aw_gR fl_RX1_24 dX1_take_98 hf (fun x22 hf => ?_)
  refine aw_iconst (v := 0) dX1_take_101 rfl ?_
  refine aw_bipush (v := 6) dX1_take_102 rfl ?_
  refine aw_cpI kw_RX1_66 dX1_take_104 (Nat.le_of_ble_eq_true rfl) (Nat.le_of_ble_eq_true rfl) hf (fun h23 hf => ?_)
  refine aw_aload_n 0 dX1_take_107 rfl ?_
  refine aw_gR fl_RX1_30 dX1_take_108 hf (fun x24 hf => ?_)
  refine aw_aload_n 1 dX1_take_111 rfl ?_
  refine aw_gR fl_RX1_30 dX1_take_112 hf (fun x25 hf => ?_)
  refine aw_cV_v (st := []) [.ref x25] wV_RX1_72 (ci := 3) rfl (fun hr er => c_X3_take g h23 x24 x25 hr er) dX1_take_115 rfl rfl (Nat.le_of_ble_eq_true rfl) (Nat.le_of_ble_eq_true rfl) (Nat.le_of_ble_eq_true rfl) (Nat.le_of_ble_eq_true rfl) hf (fun h26 hf => ?_)
  refine aw_aload_n 0 dX1_take_118 rfl ?_
  refine aw_aload_n 1 dX1_take_119 rfl ?_
  refine aw_gI fl_RX1_63 dX1_take_120 hf (fun x27 hf => ?_)
  refine aw_pI fp_RX1_63 dX1_take_123 hf (fun h28 hf => ?_)
  refine aw_aload_n 1 dX1_take_126 rfl ?_
  refine aw_gR fl_RX1_34 dX1_take_127 hf (fun x29 hf => ?_)
  refine aw_iconst (v := 0) dX1_take_130 rfl ?_
  refine aw_aload_n 0 dX1_take_131 rfl ?_
  refine aw_gR fl_RX1_34 dX1_take_132 hf (fun x30 hf => ?_)
  refine aw_iconst (v := 0) dX1_take_135 rfl ?_
  refine aw_bipush (v := 6) dX1_take_136 rfl ?_
  refine aw_cpI kw_RX1_66 dX1_take_138 (Nat.le_of_ble_eq_true rfl) (Nat.le_of_ble_eq_true rfl) hf (fun h31 hf => ?_)
  refine aw_aload_n 1 dX1_take_141 rfl ?_
  refine aw_gR fl_RX1_37 dX1_take_142 hf (fun x32 hf => ?_)
  refine aw_iconst (v := 0) dX1_take_145 rfl ?_
  refine aw_aload_n 0 dX1_take_146 rfl ?_
  refine aw_gR fl_RX1_37 dX1_take_147 hf (fun x33 hf => ?_)
  refine aw_iconst (v := 0) dX1_take_150 rfl ?_
  refine aw_bipush (v := 6) dX1_take_151 rfl ?_
  refine aw_cpI kw_RX1_66 dX1_take_153 (Nat.le_of_ble_eq_true rfl) (Nat.le_of_ble_eq_true rfl) hf (fun h34 hf => ?_)
  refine aw_aload_n 1 dX1_take_156 rfl ?_
  refine aw_gR fl_RX1_40 dX1_take_157 hf (fun x35 hf => ?_)
  refine aw_iconst (v := 0) dX1_take_160 rfl ?_
  refine aw_aload_n 0 dX1_take_161 rfl ?_
  refine aw_gR fl_RX1_40 dX1_take_162 hf (fun x36 hf => ?_)
  refine aw_iconst (v := 0) dX1_take_165 rfl ?_
  refine aw_bipush (v := 6) dX1_take_166 rfl ?_
  refine aw_cpI kw_RX1_66 dX1_take_168 (Nat.le_of_ble_eq_true rfl) (Nat.le_of_ble_eq_true rfl) hf (fun h37 hf => ?_)
  obtain rfl := so1 hf
  exact aw_vret dX1_take_171 rfl rfl
set_option maxRecDepth 100000 in
set_option maxHeartbeats 4000000 in
theorem c_X7_read (g : Gx) (h : Hea) (a0 : Nat) (o : Int32) (hz : Hea) (hf : f_X7_read h a0 = some (o, hz)) : MC g yX7_read cX7_read 2 (some .int) 8 0 0 [.ref a0] h (some (.int o), hz) := by
  refine MC_of (own := RX7) (nm := "read") [(0, .ref a0)] rfl rfl pn_RX7 (Nat.le_of_ble_eq_true rfl) rfl ?_
  rw [f_X7_read] at hf
  refine aw_aload_n 0 dX7_read_0 rfl ?_
  refine aw_gR fl_RX7_62 dX7_read_1 hf (fun x1 hf => ?_)
  refine aw_aload_n 0 dX7_read_4 rfl ?_
  refine aw_gR fl_RX7_23 dX7_read_5 hf (fun x2 hf => ?_)
  refine aw_aload_n 0 dX7_read_8 rfl ?_
  refine aw_gR fl_RX7_66 dX7_read_9 hf (fun x3 hf => ?_)
  refine aw_aload_n 0 dX7_read_12 rfl ?_
  refine aw_gI fl_RX7_70 dX7_read_13 hf (fun x4 hf => ?_)
  refine aw_cV_wi (st := []) [.ref x2, .ref x3, .int x4] wV_RX7_140 (ci := 4) rfl (fun xr hr er => c_X4_readInto g h x1 x2 x3 x4 xr hr er) dX7_read_16 rfl rfl (Nat.le_of_ble_eq_true rfl) (Nat.le_of_ble_eq_true rfl) (Nat.le_of_ble_eq_true rfl) (Nat.le_of_ble_eq_true rfl) hf (fun x5 h6 hf => ?_)
  refine aw_istore_n [(1, .int x5), (0, .ref a0)] dX7_read_19 (Nat.le_of_ble_eq_true rfl) rfl ?_
  refine aw_iload_n 0 dX7_read_20 rfl ?_
  refine reg1 (fun (h7 : Hea) => AW g RX7 cX7_read (2, some .int, "read", 8, 0, 0) (some (.int o), hz) 43 [(1, .int x5)] [] h7 0 0) hf (fun h7 hf => ?_) (fun h7 hf hJ43 => ?_)
  · refine aw_iload_n 0 dX7_read_43 rfl ?_
    obtain ⟨rfl, rfl⟩ := so2 hf
    exact aw_iret dX7_read_44 rfl rfl
  · refine aw_if_lt (tgt := 43) dX7_read_21 rfl (fun hc => ?_) (fun hc => ?_)
    · have hf := itp0 hc hf
      obtain rfl := so1 hf
      exact aw_pick [0] rfl hJ43
    · have hf := itn0 hc hf
      refine aw_aload_n 1 dX7_read_24 rfl ?_
      refine aw_gR fl_RX7_10 dX7_read_25 hf (fun x8 hf => ?_)
      refine aw_aload_n 1 dX7_read_28 rfl ?_
      refine aw_gR fl_RX7_23 dX7_read_29 hf (fun x9 hf => ?_)
      refine aw_cV_v (st := []) [.ref x9] wV_RX7_144 (ci := 1) rfl (fun hr er => c_X1_take g h6 x8 x9 hr er) dX7_read_32 rfl rfl (Nat.le_of_ble_eq_true rfl) (Nat.le_of_ble_eq_true rfl) (Nat.le_of_ble_eq_true rfl) (Nat.le_of_ble_eq_true rfl) hf (fun h10 hf => ?_)
      refine aw_aload_n 1 dX7_read_35 rfl ?_
      refine aw_gR fl_RX7_19 dX7_read_36 hf (fun x11 hf => ?_)
      refine aw_iconst (v := 0) dX7_read_39 rfl ?_
      refine aw_pI fp_RX7_105 dX7_read_40 hf (fun h12 hf => ?_)
      obtain rfl := so1 hf
      exact aw_pick [0] rfl hJ43
set_option maxRecDepth 100000 in
set_option maxHeartbeats 4000000 in
theorem c_X7_isHeir (g : Gx) (h : Hea) (a0 : Nat) (a1 : Int32) (o : Int32) (hf : f_X7_isHeir h a0 a1 = some o) : MC g yX7_isHeir cX7_isHeir 2 (some .boolean) 1 0 0 [.ref a0, .int a1] h (some (.int o), h) := by
  refine MC_of (own := RX7) (nm := "isHeir") [(0, .ref a0), (1, .int a1)] rfl rfl pn_RX7 (Nat.le_of_ble_eq_true rfl) rfl ?_
  rw [f_X7_isHeir] at hf
  refine aw_iload_n 1 dX7_isHeir_0 rfl ?_
  refine aw_iconst (v := 0) dX7_isHeir_1 rfl ?_
  refine aw_aload_n 0 dX7_isHeir_2 rfl ?_
  refine aw_gR fl_RX7_10 dX7_isHeir_3 hf (fun x1 hf => ?_)
  refine aw_gI fl_RX7_98 dX7_isHeir_6 hf (fun x2 hf => ?_)
  refine aw_iconst (v := 1) dX7_isHeir_9 rfl ?_
  refine aw_isub dX7_isHeir_10 ?_
  refine aw_cS_i (st := []) [.int a1, .int 0, .int (x2 - 1)] wS_RX7_90 (fun xr er => c_X7_within g h a1 0 (x2 - 1) xr er) dX7_isHeir_11 rfl rfl (Nat.le_of_ble_eq_true rfl) (Nat.le_of_ble_eq_true rfl) (Nat.le_of_ble_eq_true rfl) (Nat.le_of_ble_eq_true rfl) hf (fun x3 hf => ?_)
  exact aw_zretb dX7_isHeir_14 rfl hf rfl
set_option maxRecDepth 100000 in
set_option maxHeartbeats 4000000 in
theorem c_X7_refuseNo (g : Gx) (h : Hea) (a0 : Nat) (o : Int32) (hz : Hea) (hf : f_X7_refuseNo h a0 = some (o, hz)) : MC g yX7_refuseNo cX7_refuseNo 1 (some .int) 0 0 0 [.ref a0] h (some (.int o), hz) := by
  refine MC_of (own := RX7) (nm := "refuseNo") [(0, .ref a0)] rfl rfl pn_RX7 (Nat.le_of_ble_eq_true rfl) rfl ?_
  rw [f_X7_refuseNo] at hf
  refine aw_aload_n 0 dX7_refuseNo_0 rfl ?_
  refine aw_dup dX7_refuseNo_1 rfl ?_
  refine aw_gI fl_RX7_84 dX7_refuseNo_2 hf (fun x1 hf => ?_)
  refine aw_iconst (v := 1) dX7_refuseNo_5 rfl ?_
  refine aw_iadd dX7_refuseNo_6 ?_
  refine aw_pI fp_RX7_84 dX7_refuseNo_7 hf (fun h2 hf => ?_)
  refine aw_bipush (v := (-3)) dX7_refuseNo_10 rfl ?_
  obtain ⟨rfl, rfl⟩ := so2 hf
  exact aw_iret dX7_refuseNo_12 rfl rfl
set_option maxRecDepth 100000 in
set_option maxHeartbeats 4000000 in
theorem l_X2_dropOldest_9 (g : Gx) {res : Option Value × Hea} : ∀ (n : Nat) (h : Hea) (y0 : Nat) (y1 : Nat) (y2 : Int32) (ho : Hea) (hf : f_X2_dropOldest_9 n h y0 y2 = some ho) (kk : AW g RX2 cX2_dropOldest (3, none, "dropOldest", 0, 0, 0) res 35 [(0, .ref y0), (1, .ref y1)] [] ho 0 0), AW g RX2 cX2_dropOldest (3, none, "dropOldest", 0, 0, 0) res 9 [(0, .ref y0), (1, .ref y1), (2, .int y2)] [] h 0 0 := by
  intro n
  induction n with
  | zero =>
    intro h y0 y1 y2 ho hf kk
    rw [f_X2_dropOldest_9] at hf
    cases hf
  | succ n ih =>
    intro h y0 y1 y2 ho hf kk
    rw [f_X2_dropOldest_9] at hf
    refine aw_iload_n 2 dX2_dropOldest_9 rfl ?_
    refine aw_bipush (v := 8) dX2_dropOldest_10 rfl ?_
    refine aw_icmp_ge (tgt := 35) dX2_dropOldest_12 rfl (fun hc => ?_) (fun hc => ?_)
    · have hf := itp0 hc hf
      obtain rfl := so1 hf
      exact aw_pick [0, 1] rfl kk
    · have hf := itn0 hc hf
      refine aw_aload_n 0 dX2_dropOldest_15 rfl ?_
      refine aw_gR fl_RX2_11 dX2_dropOldest_16 hf (fun x1 hf => ?_)
      refine aw_iload_n 2 dX2_dropOldest_19 rfl ?_
      refine aw_iconst (v := 1) dX2_dropOldest_20 rfl ?_
      refine aw_isub dX2_dropOldest_21 ?_
      refine aw_aload_n 0 dX2_dropOldest_22 rfl ?_
      refine aw_gR fl_RX2_11 dX2_dropOldest_23 hf (fun x2 hf => ?_)
      refine aw_iload_n 2 dX2_dropOldest_26 rfl ?_
      refine aw_ldR (fun _ => rfl) dX2_dropOldest_27 hf (fun x3 hf => ?_)
      refine aw_stR (fun _ => rfl) rfl dX2_dropOldest_28 hf (fun h4 hf => ?_)
      refine aw_iinc (y2 + 1) [(2, .int (y2 + 1)), (0, .ref y0), (1, .ref y1)] 2 dX2_dropOldest_29 rfl rfl (Nat.le_of_ble_eq_true rfl) rfl ?_
      refine aw_goto (tgt := 9) dX2_dropOldest_32 rfl ?_
      refine aw_pick [1, 2, 0] rfl ?_
      exact ih h4 y0 y1 (y2 + 1) ho hf kk
set_option maxRecDepth 100000 in
set_option maxHeartbeats 4000000 in
theorem c_X2_dropOldest (g : Gx) (h : Hea) (a0 : Nat) (o : Hea) (hf : f_X2_dropOldest h a0 = some o) : MC g yX2_dropOldest cX2_dropOldest 3 none 0 0 0 [.ref a0] h (none, o) := by
  refine MC_of (own := RX2) (nm := "dropOldest") [(0, .ref a0)] rfl rfl pn_RX2 (Nat.le_of_ble_eq_true rfl) rfl ?_
  rw [f_X2_dropOldest] at hf
  refine aw_aload_n 0 dX2_dropOldest_0 rfl ?_
  refine aw_gR fl_RX2_11 dX2_dropOldest_1 hf (fun x1 hf => ?_)
  refine aw_iconst (v := 0) dX2_dropOldest_4 rfl ?_
  refine aw_ldR (fun _ => rfl) dX2_dropOldest_5 hf (fun x2 hf => ?_)
  refine aw_astore_n [(1, .ref x2), (0, .ref a0)] dX2_dropOldest_6 (Nat.le_of_ble_eq_true rfl) rfl ?_
  refine aw_iconst (v := 1) dX2_dropOldest_7 rfl ?_
  refine aw_istore_n [(2, .int 1), (1, .ref x2), (0, .ref a0)] dX2_dropOldest_8 (Nat.le_of_ble_eq_true rfl) rfl ?_
  refine aw_pick [2, 1, 0] rfl ?_
  refine reg1 (fun (h3 : Hea) => AW g RX2 cX2_dropOldest (3, none, "dropOldest", 0, 0, 0) (none, o) 35 [(0, .ref a0), (1, .ref x2)] [] h3 0 0) hf (fun h3 hf => ?_) (fun h3 hf hJ => l_X2_dropOldest_9 g  lots h a0 x2 1 h3 hf hJ)
  refine aw_aload_n 0 dX2_dropOldest_35 rfl ?_
  refine aw_gR fl_RX2_11 dX2_dropOldest_36 hf (fun x4 hf => ?_)
  refine aw_bipush (v := 7) dX2_dropOldest_39 rfl ?_
  refine aw_aload_n 1 dX2_dropOldest_41 rfl ?_
  refine aw_stR (fun _ => rfl) rfl dX2_dropOldest_42 hf (fun h5 hf => ?_)
  refine aw_aload_n 0 dX2_dropOldest_43 rfl ?_
  refine aw_bipush (v := 7) dX2_dropOldest_44 rfl ?_
  refine aw_pI fp_RX2_17 dX2_dropOldest_46 hf (fun h6 hf => ?_)
  obtain rfl := so1 hf
  exact aw_vret dX2_dropOldest_49 rfl rfl
set_option maxRecDepth 100000 in
set_option maxHeartbeats 4000000 in
theorem c_X2_keep (g : Gx) (h : Hea) (a0 : Nat) (a1 : Nat) (o : Hea) (hf : f_X2_keep h a0 a1 = some o) : MC g yX2_keep cX2_keep 2 none 2 0 0 [.ref a0, .ref a1] h (none, o) := by
  refine MC_of (own := RX2) (nm := "keep") [(0, .ref a0), (1, .ref a1)] rfl rfl pn_RX2 (Nat.le_of_ble_eq_true rfl) rfl ?_
  rw [f_X2_keep] at hf
  refine aw_aload_n 0 dX2_keep_0 rfl ?_
  refine aw_gI fl_RX2_17 dX2_keep_1 hf (fun x1 hf => ?_)
  refine aw_bipush (v := 8) dX2_keep_4 rfl ?_
  refine reg1 (fun (h2 : Hea) => AW g RX2 cX2_keep (2, none, "keep", 2, 0, 0) (none, o) 13 [(0, .ref a0), (1, .ref a1)] [] h2 0 0) hf (fun h2 hf => ?_) (fun h2 hf hJ13 => ?_)
  · refine aw_aload_n 0 dX2_keep_13 rfl ?_
    refine aw_gR fl_RX2_11 dX2_keep_14 hf (fun x4 hf => ?_)
    refine aw_aload_n 0 dX2_keep_17 rfl ?_
    refine aw_gI fl_RX2_17 dX2_keep_18 hf (fun x5 hf => ?_)
    refine aw_ldR (fun _ => rfl) dX2_keep_21 hf (fun x6 hf => ?_)
    refine aw_aload_n 1 dX2_keep_22 rfl ?_
    refine aw_cV_v (st := []) [.ref a1] wV_RX2_25 (ci := 3) rfl (fun hr er => c_X3_take g h2 x6 a1 hr er) dX2_keep_23 rfl rfl (Nat.le_of_ble_eq_true rfl) (Nat.le_of_ble_eq_true rfl) (Nat.le_of_ble_eq_true rfl) (Nat.le_of_ble_eq_true rfl) hf (fun h7 hf => ?_)
    refine aw_aload_n 0 dX2_keep_26 rfl ?_
    refine aw_dup dX2_keep_27 rfl ?_
    refine aw_gI fl_RX2_17 dX2_keep_28 hf (fun x8 hf => ?_)
    refine aw_iconst (v := 1) dX2_keep_31 rfl ?_
    refine aw_iadd dX2_keep_32 ?_
    refine aw_pI fp_RX2_17 dX2_keep_33 hf (fun h9 hf => ?_)
    obtain rfl := so1 hf
    exact aw_vret dX2_keep_36 rfl rfl
  · refine aw_icmp_lt (tgt := 13) dX2_keep_6 rfl (fun hc => ?_) (fun hc => ?_)
    · have hf := itp0 hc hf
      obtain rfl := so1 hf
      exact aw_pick [0, 1] rfl hJ13
    · have hf := itn0 hc hf
      refine aw_aload_n 0 dX2_keep_9 rfl ?_
      refine aw_cV_v (st := []) [] wV_RX2_22 (ci := 2) rfl (fun hr er => c_X2_dropOldest g h a0 hr er) dX2_keep_10 rfl rfl (Nat.le_of_ble_eq_true rfl) (Nat.le_of_ble_eq_true rfl) (Nat.le_of_ble_eq_true rfl) (Nat.le_of_ble_eq_true rfl) hf (fun h3 hf => ?_)
      obtain rfl := so1 hf
      exact aw_pick [0, 1] rfl hJ13
set_option maxRecDepth 100000 in
set_option maxHeartbeats 4000000 in
theorem c_X3_go (g : Gx) (h : Hea) (a0 : Nat) (a1 : Int32) (a2 : Int32) (o : Hea) (hf : f_X3_go h a0 a1 a2 = some o) : MC g yX3_go cX3_go 3 none 0 0 0 [.ref a0, .int a1, .int a2] h (none, o) := by
  refine MC_of (own := RX3) (nm := "go") [(0, .ref a0), (1, .int a1), (2, .int a2)] rfl rfl pn_RX3 (Nat.le_of_ble_eq_true rfl) rfl ?_
  rw [f_X3_go] at hf
  refine aw_aload_n 0 dX3_go_0 rfl ?_
  refine aw_gR fl_RX3_15 dX3_go_1 hf (fun x1 hf => ?_)
  refine aw_iload_n 1 dX3_go_4 rfl ?_
  refine aw_iload_n 2 dX3_go_5 rfl ?_
  refine aw_stI dX3_go_6 hf (fun h2 hf => ?_)
  refine aw_aload_n 0 dX3_go_7 rfl ?_
  refine aw_gR fl_RX3_19 dX3_go_8 hf (fun x3 hf => ?_)
  refine aw_iload_n 1 dX3_go_11 rfl ?_
  refine aw_iconst (v := 0) dX3_go_12 rfl ?_
  refine aw_stI dX3_go_13 hf (fun h4 hf => ?_)
  refine aw_aload_n 0 dX3_go_14 rfl ?_
  refine aw_gR fl_RX3_28 dX3_go_15 hf (fun x5 hf => ?_)
  refine aw_iload_n 1 dX3_go_18 rfl ?_
  refine aw_iconst (v := 1) dX3_go_19 rfl ?_
  refine aw_stI dX3_go_20 hf (fun h6 hf => ?_)
  obtain rfl := so1 hf
  exact aw_vret dX3_go_21 rfl rfl
set_option maxRecDepth 100000 in
set_option maxHeartbeats 4000000 in
theorem c_X7_move (g : Gx) (h : Hea) (a0 : Nat) (a1 : Int32) (a2 : Int32) (o : Int32) (hz : Hea) (hf : f_X7_move h a0 a1 a2 = some (o, hz)) : MC g yX7_move cX7_move 5 (some .int) 3 0 0 [.ref a0, .int a1, .int a2] h (some (.int o), hz) := by
  refine MC_of (own := RX7) (nm := "move") [(0, .ref a0), (1, .int a1), (2, .int a2)] rfl rfl pn_RX7 (Nat.le_of_ble_eq_true rfl) rfl ?_
  rw [f_X7_move] at hf
  refine aw_aload_n 0 dX7_move_0 rfl ?_
  refine aw_iload_n 1 dX7_move_1 rfl ?_
  refine aw_cV_i (st := []) [.int a1] wV_RX7_148 (ci := 7) rfl (fun xr er => c_X7_isHeir g h a0 a1 xr er) dX7_move_2 rfl rfl (Nat.le_of_ble_eq_true rfl) (Nat.le_of_ble_eq_true rfl) (Nat.le_of_ble_eq_true rfl) (Nat.le_of_ble_eq_true rfl) hf (fun x1 hf => ?_)
  refine aw_if_eq (tgt := 15) dX7_move_5 rfl (fun hc => ?_) (fun hc => ?_)
  · have hf := itp0 hc hf
    refine aw_aload_n 0 dX7_move_15 rfl ?_
    refine aw_cV_wi (st := []) [] wV_RX7_94 (ci := 7) rfl (fun xr hr er => c_X7_refuseBad g h a0 xr hr er) dX7_move_16 rfl rfl (Nat.le_of_ble_eq_true rfl) (Nat.le_of_ble_eq_true rfl) (Nat.le_of_ble_eq_true rfl) (Nat.le_of_ble_eq_true rfl) hf (fun x2 h3 hf => ?_)
    obtain ⟨rfl, rfl⟩ := so2 hf
    exact aw_iret dX7_move_19 rfl rfl
  · have hf := itn0 hc hf
    refine aw_iload_n 2 dX7_move_8 rfl ?_
    refine aw_cS_i (st := []) [.int a2] wS_RX7_108 (fun xr er => c_X7_isRoom g h a2 xr er) dX7_move_9 rfl rfl (Nat.le_of_ble_eq_true rfl) (Nat.le_of_ble_eq_true rfl) (Nat.le_of_ble_eq_true rfl) (Nat.le_of_ble_eq_true rfl) hf (fun x4 hf => ?_)
    refine aw_if_ne (tgt := 20) dX7_move_12 rfl (fun hc => ?_) (fun hc => ?_)
    · have hf := itn0 hc hf
      refine aw_aload_n 0 dX7_move_20 rfl ?_
      refine aw_gR fl_RX7_10 dX7_move_21 hf (fun x5 hf => ?_)
      refine aw_gR fl_RX7_151 dX7_move_24 hf (fun x6 hf => ?_)
      refine aw_astore_n [(3, .ref x6), (0, .ref a0), (1, .int a1), (2, .int a2)] dX7_move_27 (Nat.le_of_ble_eq_true rfl) rfl ?_
      refine aw_aload_n 1 dX7_move_28 rfl ?_
      refine aw_gR fl_RX7_10 dX7_move_29 hf (fun x7 hf => ?_)
      refine aw_aload_n 0 dX7_move_32 rfl ?_
      refine aw_gR fl_RX7_155 dX7_move_33 hf (fun x8 hf => ?_)
      refine aw_iload_n 2 dX7_move_36 rfl ?_
      refine aw_ldI dX7_move_37 hf (fun x9 hf => ?_)
      refine aw_iload_n 3 dX7_move_38 rfl ?_
      refine aw_cV_i (st := []) [.int x9, .int a2] wV_RX7_116 (ci := 1) rfl (fun xr er => c_X1_creaksBetween g h x7 x9 a2 xr er) dX7_move_39 rfl rfl (Nat.le_of_ble_eq_true rfl) (Nat.le_of_ble_eq_true rfl) (Nat.le_of_ble_eq_true rfl) (Nat.le_of_ble_eq_true rfl) hf (fun x10 hf => ?_)
      refine aw_istore [(4, .int x10), (3, .ref x6), (0, .ref a0), (1, .int a1), (2, .int a2)] dX7_move_42 (Nat.le_of_ble_eq_true rfl) rfl ?_
      refine aw_aload_n 1 dX7_move_44 rfl ?_
      refine aw_gR fl_RX7_160 dX7_move_45 hf (fun x11 hf => ?_)
      refine aw_iload_n 3 dX7_move_48 rfl ?_
      refine aw_ldI dX7_move_49 hf (fun x12 hf => ?_)
      refine aw_if_ne (tgt := 68) dX7_move_50 rfl (fun hc => ?_) (fun hc => ?_)
      · have hf := itn0 hc hf
        refine aw_aload_n 2 dX7_move_68 rfl ?_
        refine aw_cV_wi (st := []) [] wV_RX7_166 (ci := 7) rfl (fun xr hr er => c_X7_refuseNo g h a0 xr hr er) dX7_move_69 rfl rfl (Nat.le_of_ble_eq_true rfl) (Nat.le_of_ble_eq_true rfl) (Nat.le_of_ble_eq_true rfl) (Nat.le_of_ble_eq_true rfl) hf (fun x13 h14 hf => ?_)
        obtain ⟨rfl, rfl⟩ := so2 hf
        exact aw_iret dX7_move_72 rfl rfl
      · have hf := itp0 hc hf
        refine aw_iload 0 dX7_move_53 rfl ?_
        refine aw_if_eq (tgt := 68) dX7_move_55 rfl (fun hc => ?_) (fun hc => ?_)
        · have hf := itp0 hc hf
          refine aw_aload_n 2 dX7_move_68 rfl ?_
          refine aw_cV_wi (st := []) [] wV_RX7_166 (ci := 7) rfl (fun xr hr er => c_X7_refuseNo g h a0 xr hr er) dX7_move_69 rfl rfl (Nat.le_of_ble_eq_true rfl) (Nat.le_of_ble_eq_true rfl) (Nat.le_of_ble_eq_true rfl) (Nat.le_of_ble_eq_true rfl) hf (fun x15 h16 hf => ?_)
          obtain ⟨rfl, rfl⟩ := so2 hf
          exact aw_iret dX7_move_72 rfl rfl
        · have hf := itn0 hc hf
          refine aw_aload_n 1 dX7_move_58 rfl ?_
          refine aw_gR fl_RX7_163 dX7_move_59 hf (fun x17 hf => ?_)
          refine aw_iload_n 3 dX7_move_62 rfl ?_
          refine aw_ldI dX7_move_63 hf (fun x18 hf => ?_)
          refine aw_iconst (v := 1) dX7_move_64 rfl ?_
          refine aw_icmp_ne (tgt := 73) dX7_move_65 rfl (fun hc => ?_) (fun hc => ?_)
          · have hf := itn0 hc hf
            refine aw_aload_n 2 dX7_move_73 rfl ?_
            refine aw_gR fl_RX7_19 dX7_move_74 hf (fun x19 hf => ?_)
            refine aw_aload_n 1 dX7_move_77 rfl ?_
            refine aw_cV_v (st := []) [.ref x6] wV_RX7_169 (ci := 2) rfl (fun hr er => c_X2_keep g h x19 x6 hr er) dX7_move_78 rfl rfl (Nat.le_of_ble_eq_true rfl) (Nat.le_of_ble_eq_true rfl) (Nat.le_of_ble_eq_true rfl) (Nat.le_of_ble_eq_true rfl) hf (fun h20 hf => ?_)
            refine aw_aload_n 1 dX7_move_81 rfl ?_
            refine aw_iload_n 3 dX7_move_82 rfl ?_
            refine aw_iload_n 4 dX7_move_83 rfl ?_
            refine aw_cV_v (st := []) [.int a1, .int a2] wV_RX7_173 (ci := 3) rfl (fun hr er => c_X3_go g h20 x6 a1 a2 hr er) dX7_move_84 rfl rfl (Nat.le_of_ble_eq_true rfl) (Nat.le_of_ble_eq_true rfl) (Nat.le_of_ble_eq_true rfl) (Nat.le_of_ble_eq_true rfl) hf (fun h21 hf => ?_)
            refine aw_iload 0 dX7_move_87 rfl ?_
            obtain ⟨rfl, rfl⟩ := so2 hf
            exact aw_iret dX7_move_89 rfl rfl
          · have hf := itp0 hc hf
            refine aw_aload_n 2 dX7_move_68 rfl ?_
            refine aw_cV_wi (st := []) [] wV_RX7_166 (ci := 7) rfl (fun xr hr er => c_X7_refuseNo g h a0 xr hr er) dX7_move_69 rfl rfl (Nat.le_of_ble_eq_true rfl) (Nat.le_of_ble_eq_true rfl) (Nat.le_of_ble_eq_true rfl) (Nat.le_of_ble_eq_true rfl) hf (fun x22 h23 hf => ?_)
            obtain ⟨rfl, rfl⟩ := so2 hf
            exact aw_iret dX7_move_72 rfl rfl
    · have hf := itp0 hc hf
      refine aw_aload_n 0 dX7_move_15 rfl ?_
      refine aw_cV_wi (st := []) [] wV_RX7_94 (ci := 7) rfl (fun xr hr er => c_X7_refuseBad g h a0 xr hr er) dX7_move_16 rfl rfl (Nat.le_of_ble_eq_true rfl) (Nat.le_of_ble_eq_true rfl) (Nat.le_of_ble_eq_true rfl) (Nat.le_of_ble_eq_true rfl) hf (fun x24 h25 hf => ?_)
      obtain ⟨rfl, rfl⟩ := so2 hf
      exact aw_iret dX7_move_19 rfl rfl
set_option maxRecDepth 100000 in
set_option maxHeartbeats 4000000 in
theorem l_X1_hasCompany_2 (g : Gx) : ∀ (n : Nat) (h : Hea) (y0 : Nat) (y1 : Nat) (y2 : Int32) (y3 : Int32) (o : Int32) (hf : f_X1_hasCompany_2 n h y0 y1 y2 y3 = some o), AW g RX1 cX1_hasCompany (4, some .boolean, "hasCompany", 0, 0, 0) (some (.int o), h) 2 [(0, .ref y0), (1, .ref y1), (2, .int y2), (3, .int y3)] [] h 0 0 := by
  intro n
  induction n with
  | zero =>
    intro h y0 y1 y2 y3 o hf
    rw [f_X1_hasCompany_2] at hf
    cases hf
  | succ n ih =>
    intro h y0 y1 y2 y3 o hf
    rw [f_X1_hasCompany_2] at hf
    refine aw_iload_n 3 dX1_hasCompany_2 rfl ?_
    refine aw_aload_n 0 dX1_hasCompany_3 rfl ?_
    refine aw_gI fl_RX1_57 dX1_hasCompany_4 hf (fun x1 hf => ?_)
    refine aw_icmp_ge (tgt := 47) dX1_hasCompany_7 rfl (fun hc => ?_) (fun hc => ?_)
    · have hf := itp0 hc hf
      refine aw_iconst (v := 0) dX1_hasCompany_47 rfl ?_
      obtain rfl := so1 hf
      exact aw_zret dX1_hasCompany_48 rfl rfl rfl
    · have hf := itn0 hc hf
      refine aw_iload_n 3 dX1_hasCompany_10 rfl ?_
      refine aw_iload_n 2 dX1_hasCompany_11 rfl ?_
      refine aw_icmp_eq (tgt := 41) dX1_hasCompany_12 rfl (fun hc => ?_) (fun hc => ?_)
      · have hf := itp0 hc hf
        refine aw_iinc (y3 + 1) [(3, .int (y3 + 1)), (0, .ref y0), (1, .ref y1), (2, .int y2)] 3 dX1_hasCompany_41 rfl rfl (Nat.le_of_ble_eq_true rfl) rfl ?_
        refine aw_goto (tgt := 2) dX1_hasCompany_44 rfl ?_
        refine aw_pick [1, 2, 3, 0] rfl ?_
        exact ih h y0 y1 y2 (y3 + 1) o hf
      · have hf := itn0 hc hf
        refine aw_aload_n 1 dX1_hasCompany_15 rfl ?_
        refine aw_gR fl_RX1_98 dX1_hasCompany_16 hf (fun x2 hf => ?_)
        refine aw_iload_n 3 dX1_hasCompany_19 rfl ?_
        refine aw_ldI dX1_hasCompany_20 hf (fun x3 hf => ?_)
        refine aw_if_ne (tgt := 41) dX1_hasCompany_21 rfl (fun hc => ?_) (fun hc => ?_)
        · have hf := itn0 hc hf
          refine aw_iinc (y3 + 1) [(3, .int (y3 + 1)), (0, .ref y0), (1, .ref y1), (2, .int y2)] 3 dX1_hasCompany_41 rfl rfl (Nat.le_of_ble_eq_true rfl) rfl ?_
          refine aw_goto (tgt := 2) dX1_hasCompany_44 rfl ?_
          refine aw_pick [1, 2, 3, 0] rfl ?_
          exact ih h y0 y1 y2 (y3 + 1) o hf
        · have hf := itp0 hc hf
          refine aw_aload_n 1 dX1_hasCompany_24 rfl ?_
          refine aw_gR fl_RX1_82 dX1_hasCompany_25 hf (fun x4 hf => ?_)
          refine aw_iload_n 3 dX1_hasCompany_28 rfl ?_
          refine aw_ldI dX1_hasCompany_29 hf (fun x5 hf => ?_)
          refine aw_aload_n 1 dX1_hasCompany_30 rfl ?_
          refine aw_gR fl_RX1_82 dX1_hasCompany_31 hf (fun x6 hf => ?_)
          refine aw_iload_n 2 dX1_hasCompany_34 rfl ?_
          refine aw_ldI dX1_hasCompany_35 hf (fun x7 hf => ?_)
          refine aw_icmp_ne (tgt := 41) dX1_hasCompany_36 rfl (fun hc => ?_) (fun hc => ?_)
          · have hf := itn0 hc hf
            refine aw_iinc (y3 + 1) [(3, .int (y3 + 1)), (0, .ref y0), (1, .ref y1), (2, .int y2)] 3 dX1_hasCompany_41 rfl rfl (Nat.le_of_ble_eq_true rfl) rfl ?_
            refine aw_goto (tgt := 2) dX1_hasCompany_44 rfl ?_
            refine aw_pick [1, 2, 3, 0] rfl ?_
            exact ih h y0 y1 y2 (y3 + 1) o hf
          · have hf := itp0 hc hf
            refine aw_iconst (v := 1) dX1_hasCompany_39 rfl ?_
            obtain rfl := so1 hf
            exact aw_zret dX1_hasCompany_40 rfl rfl rfl
set_option maxRecDepth 100000 in
set_option maxHeartbeats 4000000 in
theorem c_X1_hasCompany (g : Gx) (h : Hea) (a0 : Nat) (a1 : Nat) (a2 : Int32) (o : Int32) (hf : f_X1_hasCompany h a0 a1 a2 = some o) : MC g yX1_hasCompany cX1_hasCompany 4 (some .boolean) 0 0 0 [.ref a0, .ref a1, .int a2] h (some (.int o), h) := by
  refine MC_of (own := RX1) (nm := "hasCompany") [(0, .ref a0), (1, .ref a1), (2, .int a2)] rfl rfl pn_RX1 (Nat.le_of_ble_eq_true rfl) rfl ?_
  rw [f_X1_hasCompany] at hf
  refine aw_iconst (v := 0) dX1_hasCompany_0 rfl ?_
  refine aw_istore_n [(3, .int 0), (0, .ref a0), (1, .ref a1), (2, .int a2)] dX1_hasCompany_1 (Nat.le_of_ble_eq_true rfl) rfl ?_
  refine aw_pick [1, 2, 3, 0] rfl ?_
  exact l_X1_hasCompany_2 g lots h a0 a1 a2 0 _ hf
set_option maxRecDepth 100000 in
set_option maxHeartbeats 4000000 in
theorem c_X1_hidden (g : Gx) (h : Hea) (a0 : Nat) (a1 : Nat) (a2 : Int32) (o : Int32) (hf : f_X1_hidden h a0 a1 a2 = some o) : MC g yX1_hidden cX1_hidden 7 (some .int) 1 0 0 [.ref a0, .ref a1, .int a2] h (some (.int o), h) := by
  refine MC_of (own := RX1) (nm := "hidden") [(0, .ref a0), (1, .ref a1), (2, .int a2)] rfl rfl pn_RX1 (Nat.le_of_ble_eq_true rfl) rfl ?_
  rw [f_X1_hidden] at hf
  refine aw_aload_n 1 dX1_hidden_0 rfl ?_
  refine aw_gR fl_RX1_79 dX1_hidden_1 hf (fun x1 hf => ?_)
  refine aw_iload_n 2 dX1_hidden_4 rfl ?_
  refine aw_ldI dX1_hidden_5 hf (fun x2 hf => ?_)
  refine aw_istore_n [(3, .int x2), (0, .ref a0), (1, .ref a1), (2, .int a2)] dX1_hidden_6 (Nat.le_of_ble_eq_true rfl) rfl ?_
  refine aw_aload_n 1 dX1_hidden_7 rfl ?_
  refine aw_gR fl_RX1_9 dX1_hidden_8 hf (fun x3 hf => ?_)
  refine aw_aload_n 2 dX1_hidden_11 rfl ?_
  refine aw_gR fl_RX1_82 dX1_hidden_12 hf (fun x4 hf => ?_)
  refine aw_iload_n 3 dX1_hidden_15 rfl ?_
  refine aw_ldI dX1_hidden_16 hf (fun x5 hf => ?_)
  refine aw_ldI dX1_hidden_17 hf (fun x6 hf => ?_)
  refine aw_aload_n 1 dX1_hidden_18 rfl ?_
  refine aw_gR fl_RX1_24 dX1_hidden_19 hf (fun x7 hf => ?_)
  refine aw_iload_n 3 dX1_hidden_22 rfl ?_
  refine aw_ldI dX1_hidden_23 hf (fun x8 hf => ?_)
  refine aw_iadd dX1_hidden_24 ?_
  refine aw_istore [(4, .int (x6 + x8)), (3, .int x2), (0, .ref a0), (1, .ref a1), (2, .int a2)] dX1_hidden_25 (Nat.le_of_ble_eq_true rfl) rfl ?_
  refine aw_iconst (v := 0) dX1_hidden_27 rfl ?_
  refine aw_iload 0 dX1_hidden_28 rfl ?_
  refine aw_iconst (v := 3) dX1_hidden_30 rfl ?_
  refine aw_isub dX1_hidden_31 ?_
  refine aw_mmax km_RX1_85 dX1_hidden_32 (Nat.le_of_ble_eq_true rfl) (Nat.le_of_ble_eq_true rfl) (Nat.le_of_ble_eq_true rfl) (Nat.le_of_ble_eq_true rfl) ?_
  refine aw_istore [(5, .int (if 0 < (x6 + x8) - 3 then (x6 + x8) - 3 else 0)), (4, .int (x6 + x8)), (3, .int x2), (0, .ref a0), (1, .ref a1), (2, .int a2)] dX1_hidden_35 (Nat.le_of_ble_eq_true rfl) rfl ?_
  refine aw_iload 1 dX1_hidden_37 rfl ?_
  refine aw_iconst (v := 5) dX1_hidden_39 rfl ?_
  refine aw_iload_n 2 dX1_hidden_40 rfl ?_
  refine aw_mmin km_RX1_91 dX1_hidden_41 (Nat.le_of_ble_eq_true rfl) (Nat.le_of_ble_eq_true rfl) (Nat.le_of_ble_eq_true rfl) (Nat.le_of_ble_eq_true rfl) ?_
  refine aw_iadd dX1_hidden_44 ?_
  refine aw_istore [(6, .int ((x6 + x8) + (if x2 < 5 then x2 else 5))), (5, .int (if 0 < (x6 + x8) - 3 then (x6 + x8) - 3 else 0)), (4, .int (x6 + x8)), (3, .int x2), (0, .ref a0), (1, .ref a1), (2, .int a2)] dX1_hidden_45 (Nat.le_of_ble_eq_true rfl) rfl ?_
  refine aw_aload_n 4 dX1_hidden_47 rfl ?_
  refine aw_gR fl_RX1_21 dX1_hidden_48 hf (fun x9 hf => ?_)
  refine aw_iload_n 6 dX1_hidden_51 rfl ?_
  refine aw_ldI dX1_hidden_52 hf (fun x10 hf => ?_)
  by_cases hc0 : x10 = 1
  · have hf := itp0 hc0 hf
    refine aw_tsK (tgt := 88) (off := 35) (k := 1) hc0 rfl dX1_hidden_53 (by decide) (by decide) rfl rfl ?_
    refine aw_iload 1 dX1_hidden_88 rfl ?_
    obtain rfl := so1 hf
    exact aw_iret dX1_hidden_90 rfl rfl
  have hf := itn0 hc0 hf
  by_cases hc1 : x10 = 2
  · have hf := itp0 hc1 hf
    refine aw_tsK (tgt := 91) (off := 38) (k := 2) hc1 rfl dX1_hidden_53 (by decide) (by decide) rfl rfl ?_
    refine aw_aload_n 4 dX1_hidden_91 rfl ?_
    refine aw_aload_n 5 dX1_hidden_92 rfl ?_
    refine aw_iload_n 6 dX1_hidden_93 rfl ?_
    refine aw_cV_i (st := []) [.ref a1, .int a2] wV_RX1_94 (ci := 1) rfl (fun xr er => c_X1_hasCompany g h a0 a1 a2 xr er) dX1_hidden_94 rfl rfl (Nat.le_of_ble_eq_true rfl) (Nat.le_of_ble_eq_true rfl) (Nat.le_of_ble_eq_true rfl) (Nat.le_of_ble_eq_true rfl) hf (fun x11 hf => ?_)
    refine reg1 (fun (v12 : Int32) => AW g RX1 cX1_hidden (7, some .int, "hidden", 1, 0, 0) (some (.int o), h) 109 [] [.int v12] h 0 0) hf (fun v12 hf => ?_) (fun v12 hf hJ109 => ?_)
    · obtain rfl := so1 hf
      exact aw_iret dX1_hidden_109 rfl rfl
    · refine aw_if_eq (tgt := 107) dX1_hidden_97 rfl (fun hc => ?_) (fun hc => ?_)
      · have hf := itp0 hc hf
        refine aw_iload 2 dX1_hidden_107 rfl ?_
        obtain rfl := so1 hf
        exact aw_pick [] rfl hJ109
      · have hf := itn0 hc hf
        refine aw_iload 2 dX1_hidden_100 rfl ?_
        refine aw_iconst (v := 2) dX1_hidden_102 rfl ?_
        refine aw_idiv0 dX1_hidden_103 (by decide) ?_
        refine aw_goto (tgt := 109) dX1_hidden_104 rfl ?_
        obtain rfl := so1 hf
        exact aw_pick [] rfl hJ109
  have hf := itn0 hc1 hf
  by_cases hc2 : x10 = 3
  · have hf := itp0 hc2 hf
    refine aw_tsK (tgt := 110) (off := 57) (k := 3) hc2 rfl dX1_hidden_53 (by decide) (by decide) rfl rfl ?_
    refine aw_iload 0 dX1_hidden_110 rfl ?_
    obtain rfl := so1 hf
    exact aw_iret dX1_hidden_112 rfl rfl
  have hf := itn0 hc2 hf
  by_cases hc3 : x10 = 4
  · have hf := itp0 hc3 hf
    refine aw_tsK (tgt := 113) (off := 60) (k := 4) hc3 rfl dX1_hidden_53 (by decide) (by decide) rfl rfl ?_
    refine aw_iload_n 3 dX1_hidden_113 rfl ?_
    refine reg1 (fun (v13 : Int32) => AW g RX1 cX1_hidden (7, some .int, "hidden", 1, 0, 0) (some (.int o), h) 130 [] [.int v13] h 0 0) hf (fun v13 hf => ?_) (fun v13 hf hJ130 => ?_)
    · obtain rfl := so1 hf
      exact aw_iret dX1_hidden_130 rfl rfl
    · refine aw_if_ne (tgt := 128) dX1_hidden_114 rfl (fun hc => ?_) (fun hc => ?_)
      · have hf := itn0 hc hf
        refine aw_iload 1 dX1_hidden_128 rfl ?_
        obtain rfl := so1 hf
        exact aw_pick [] rfl hJ130
      · have hf := itp0 hc hf
        refine aw_iconst (v := 0) dX1_hidden_117 rfl ?_
        refine aw_iload 1 dX1_hidden_118 rfl ?_
        refine aw_iconst (v := 2) dX1_hidden_120 rfl ?_
        refine aw_isub dX1_hidden_121 ?_
        refine aw_mmax km_RX1_85 dX1_hidden_122 (Nat.le_of_ble_eq_true rfl) (Nat.le_of_ble_eq_true rfl) (Nat.le_of_ble_eq_true rfl) (Nat.le_of_ble_eq_true rfl) ?_
        refine aw_goto (tgt := 130) dX1_hidden_125 rfl ?_
        obtain rfl := so1 hf
        exact aw_pick [] rfl hJ130
  have hf := itn0 hc3 hf
  by_cases hc4 : x10 = 5
  · have hf := itp0 hc4 hf
    refine aw_tsK (tgt := 131) (off := 78) (k := 5) hc4 rfl dX1_hidden_53 (by decide) (by decide) rfl rfl ?_
    refine aw_aload_n 4 dX1_hidden_131 rfl ?_
    refine aw_gI fl_RX1_51 dX1_hidden_132 hf (fun x14 hf => ?_)
    refine aw_iload 0 dX1_hidden_135 rfl ?_
    refine aw_mmin km_RX1_91 dX1_hidden_137 (Nat.le_of_ble_eq_true rfl) (Nat.le_of_ble_eq_true rfl) (Nat.le_of_ble_eq_true rfl) (Nat.le_of_ble_eq_true rfl) ?_
    obtain rfl := so1 hf
    exact aw_iret dX1_hidden_140 rfl rfl
  have hf := itn0 hc4 hf
  refine aw_tsOut (tgt := 141) dX1_hidden_53 (ts_out 1 5 (by decide) (by decide) (fun i hi => by rcases (show i = 0 ∨ i = 1 ∨ i = 2 ∨ i = 3 ∨ i = 4 by omega) with rfl | rfl | rfl | rfl | rfl <;> assumption)) rfl ?_
  refine aw_iload 2 dX1_hidden_141 rfl ?_
  obtain rfl := so1 hf
  exact aw_iret dX1_hidden_143 rfl rfl
set_option maxRecDepth 100000 in
set_option maxHeartbeats 4000000 in
theorem l_X1_goingOut_4 (g : Gx) {res : Option Value × Hea} : ∀ (n : Nat) (h : Hea) (y0 : Nat) (y1 : Nat) (y2 : Int32) (y3 : Int32) (o2 : Int32) (hf : f_X1_goingOut_4 n h y0 y1 y2 y3 = some o2) (kk : AW g RX1 cX1_goingOut (4, some .int, "goingOut", 2, 0, 0) res 46 [(2, .int o2)] [] h 0 0), AW g RX1 cX1_goingOut (4, some .int, "goingOut", 2, 0, 0) res 4 [(0, .ref y0), (1, .ref y1), (2, .int y2), (3, .int y3)] [] h 0 0 := by
  intro n
  induction n with
  | zero =>
    intro h y0 y1 y2 y3 o2 hf kk
    rw [f_X1_goingOut_4] at hf
    cases hf
  | succ n ih =>
    intro h y0 y1 y2 y3 o2 hf kk
    rw [f_X1_goingOut_4] at hf
    refine aw_iload_n 3 dX1_goingOut_4 rfl ?_
    refine aw_aload_n 0 dX1_goingOut_5 rfl ?_
    refine aw_gI fl_RX1_57 dX1_goingOut_6 hf (fun x1 hf => ?_)
    refine aw_icmp_ge (tgt := 46) dX1_goingOut_9 rfl (fun hc => ?_) (fun hc => ?_)
    · have hf := itp0 hc hf
      obtain rfl := so1 hf
      exact aw_pick [2] rfl kk
    · have hf := itn0 hc hf
      refine aw_aload_n 1 dX1_goingOut_12 rfl ?_
      refine aw_gR fl_RX1_98 dX1_goingOut_13 hf (fun x2 hf => ?_)
      refine aw_iload_n 3 dX1_goingOut_16 rfl ?_
      refine aw_ldI dX1_goingOut_17 hf (fun x3 hf => ?_)
      refine reg1 (fun (v4 : Int32) => AW g RX1 cX1_goingOut (4, some .int, "goingOut", 2, 0, 0) res 40 [(0, .ref y0), (1, .ref y1), (2, .int v4), (3, .int y3)] [] h 0 0) hf (fun v4 hf => ?_) (fun v4 hf hJ40 => ?_)
      · refine aw_iinc (y3 + 1) [(3, .int (y3 + 1)), (0, .ref y0), (1, .ref y1), (2, .int v4)] 3 dX1_goingOut_40 rfl rfl (Nat.le_of_ble_eq_true rfl) rfl ?_
        refine aw_goto (tgt := 4) dX1_goingOut_43 rfl ?_
        refine aw_pick [1, 2, 3, 0] rfl ?_
        exact ih h y0 y1 v4 (y3 + 1) o2 hf kk
      · refine aw_if_ne (tgt := 40) dX1_goingOut_18 rfl (fun hc => ?_) (fun hc => ?_)
        · have hf := itn0 hc hf
          obtain rfl := so1 hf
          exact aw_pick [0, 1, 2, 3] rfl hJ40
        · have hf := itp0 hc hf
          refine aw_aload_n 0 dX1_goingOut_21 rfl ?_
          refine aw_aload_n 1 dX1_goingOut_22 rfl ?_
          refine aw_iload_n 3 dX1_goingOut_23 rfl ?_
          refine aw_cV_i (st := []) [.ref y1, .int y3] wV_RX1_101 (ci := 1) rfl (fun xr er => c_X1_hidden g h y0 y1 y3 xr er) dX1_goingOut_24 rfl rfl (Nat.le_of_ble_eq_true rfl) (Nat.le_of_ble_eq_true rfl) (Nat.le_of_ble_eq_true rfl) (Nat.le_of_ble_eq_true rfl) hf (fun x5 hf => ?_)
          refine aw_aload_n 0 dX1_goingOut_27 rfl ?_
          refine aw_gI fl_RX1_51 dX1_goingOut_28 hf (fun x6 hf => ?_)
          refine aw_icmp_ge (tgt := 40) dX1_goingOut_31 rfl (fun hc => ?_) (fun hc => ?_)
          · have hf := itp0 hc hf
            obtain rfl := so1 hf
            exact aw_pick [0, 1, 2, 3] rfl hJ40
          · have hf := itn0 hc hf
            refine aw_iload_n 2 dX1_goingOut_34 rfl ?_
            refine aw_iconst (v := 1) dX1_goingOut_35 rfl ?_
            refine aw_iload_n 3 dX1_goingOut_36 rfl ?_
            refine aw_ishl dX1_goingOut_37 ?_
            refine aw_ior dX1_goingOut_38 ?_
            refine aw_istore_n [(2, .int (y2 ||| ((1 : Int32) <<< (y3 &&& 31)))), (0, .ref y0), (1, .ref y1), (3, .int y3)] dX1_goingOut_39 (Nat.le_of_ble_eq_true rfl) rfl ?_
            obtain rfl := so1 hf
            exact aw_pick [1, 2, 0, 3] rfl hJ40
set_option maxRecDepth 100000 in
set_option maxHeartbeats 4000000 in
theorem c_X1_goingOut (g : Gx) (h : Hea) (a0 : Nat) (a1 : Nat) (o : Int32) (hf : f_X1_goingOut h a0 a1 = some o) : MC g yX1_goingOut cX1_goingOut 4 (some .int) 2 0 0 [.ref a0, .ref a1] h (some (.int o), h) := by
  refine MC_of (own := RX1) (nm := "goingOut") [(0, .ref a0), (1, .ref a1)] rfl rfl pn_RX1 (Nat.le_of_ble_eq_true rfl) rfl ?_
  rw [f_X1_goingOut] at hf
  refine aw_iconst (v := 0) dX1_goingOut_0 rfl ?_
  refine aw_istore_n [(2, .int 0), (0, .ref a0), (1, .ref a1)] dX1_goingOut_1 (Nat.le_of_ble_eq_true rfl) rfl ?_
  refine aw_iconst (v := 0) dX1_goingOut_2 rfl ?_
  refine aw_istore_n [(3, .int 0), (2, .int 0), (0, .ref a0), (1, .ref a1)] dX1_goingOut_3 (Nat.le_of_ble_eq_true rfl) rfl ?_
  refine aw_pick [2, 3, 1, 0] rfl ?_
  refine reg1 (fun (v1 : Int32) => AW g RX1 cX1_goingOut (4, some .int, "goingOut", 2, 0, 0) (some (.int o), h) 46 [(2, .int v1)] [] h 0 0) hf (fun v1 hf => ?_) (fun v1 hf hJ => l_X1_goingOut_4 g  lots h a0 a1 0 0 v1 hf hJ)
  refine aw_iload_n 0 dX1_goingOut_46 rfl ?_
  obtain rfl := so1 hf
  exact aw_iret dX1_goingOut_47 rfl rfl
set_option maxRecDepth 100000 in
set_option maxHeartbeats 4000000 in
theorem c_X1_lookedInto (g : Gx) (h : Hea) (a0 : Nat) (a1 : Int32) (o : Int32) (hf : f_X1_lookedInto h a0 a1 = some o) : MC g yX1_lookedInto cX1_lookedInto 3 (some .int) 0 0 0 [.ref a0, .int a1] h (some (.int o), h) := by
  refine MC_of (own := RX1) (nm := "lookedInto") [(0, .ref a0), (1, .int a1)] rfl rfl pn_RX1 (Nat.le_of_ble_eq_true rfl) rfl ?_
  rw [f_X1_lookedInto] at hf
  refine aw_aload_n 0 dX1_lookedInto_0 rfl ?_
  refine aw_gI fl_RX1_54 dX1_lookedInto_1 hf (fun x1 hf => ?_)
  refine aw_iconst (v := 1) dX1_lookedInto_4 rfl ?_
  refine aw_icmp_ge (tgt := 15) dX1_lookedInto_5 rfl (fun hc => ?_) (fun hc => ?_)
  · have hf := itp0 hc hf
    refine aw_iload_n 1 dX1_lookedInto_15 rfl ?_
    refine aw_aload_n 0 dX1_lookedInto_16 rfl ?_
    refine aw_gI fl_RX1_54 dX1_lookedInto_17 hf (fun x2 hf => ?_)
    refine aw_irem dX1_lookedInto_20 hf (fun hf => ?_)
    refine aw_istore_n [(2, .int (a1 - a1 / x2 * x2)), (0, .ref a0), (1, .int a1)] dX1_lookedInto_21 (Nat.le_of_ble_eq_true rfl) rfl ?_
    refine aw_iload_n 2 dX1_lookedInto_22 rfl ?_
    refine aw_bipush (v := 7) dX1_lookedInto_23 rfl ?_
    refine aw_irem0 dX1_lookedInto_25 (by decide) ?_
    refine aw_bipush (v := 6) dX1_lookedInto_26 rfl ?_
    refine reg1 (fun (v3 : Int32) => AW g RX1 cX1_lookedInto (3, some .int, "lookedInto", 0, 0, 0) (some (.int o), h) 53 [] [.int v3] h 0 0) hf (fun v3 hf => ?_) (fun v3 hf hJ53 => ?_)
    · obtain rfl := so1 hf
      exact aw_iret dX1_lookedInto_53 rfl rfl
    · refine aw_icmp_ne (tgt := 47) dX1_lookedInto_28 rfl (fun hc => ?_) (fun hc => ?_)
      · have hf := itn0 hc hf
        refine aw_aload_n 1 dX1_lookedInto_47 rfl ?_
        refine aw_gR fl_RX1_18 dX1_lookedInto_48 hf (fun x4 hf => ?_)
        refine aw_iload_n 0 dX1_lookedInto_51 rfl ?_
        refine aw_ldI dX1_lookedInto_52 hf (fun x5 hf => ?_)
        obtain rfl := so1 hf
        exact aw_pick [] rfl hJ53
      · have hf := itp0 hc hf
        refine aw_aload_n 1 dX1_lookedInto_31 rfl ?_
        refine aw_gR fl_RX1_18 dX1_lookedInto_32 hf (fun x6 hf => ?_)
        refine aw_aload_n 1 dX1_lookedInto_35 rfl ?_
        refine aw_gI fl_RX1_54 dX1_lookedInto_36 hf (fun x7 hf => ?_)
        refine aw_iconst (v := 1) dX1_lookedInto_39 rfl ?_
        refine aw_isub dX1_lookedInto_40 ?_
        refine aw_iload_n 0 dX1_lookedInto_41 rfl ?_
        refine aw_isub dX1_lookedInto_42 ?_
        refine aw_ldI dX1_lookedInto_43 hf (fun x8 hf => ?_)
        refine aw_goto (tgt := 53) dX1_lookedInto_44 rfl ?_
        obtain rfl := so1 hf
        exact aw_pick [] rfl hJ53
  · have hf := itn0 hc hf
    refine aw_aload_n 0 dX1_lookedInto_8 rfl ?_
    refine aw_gR fl_RX1_18 dX1_lookedInto_9 hf (fun x9 hf => ?_)
    refine aw_iconst (v := 0) dX1_lookedInto_12 rfl ?_
    refine aw_ldI dX1_lookedInto_13 hf (fun x10 hf => ?_)
    obtain rfl := so1 hf
    exact aw_iret dX1_lookedInto_14 rfl rfl
set_option maxRecDepth 100000 in
set_option maxHeartbeats 4000000 in
theorem l_X1_inSight_15 (g : Gx) {res : Option Value × Hea} : ∀ (n : Nat) (h : Hea) (y0 : Nat) (y1 : Nat) (y2 : Int32) (y3 : Int32) (y4 : Int32) (y5 : Int32) (o4 : Int32) (hf : f_X1_inSight_15 n h y0 y1 y3 y4 y5 = some o4) (kk : AW g RX1 cX1_inSight (6, some .int, "inSight", 1, 0, 0) res 60 [(2, .int y2), (4, .int o4)] [] h 0 0), AW g RX1 cX1_inSight (6, some .int, "inSight", 1, 0, 0) res 15 [(0, .ref y0), (1, .ref y1), (2, .int y2), (3, .int y3), (4, .int y4), (5, .int y5)] [] h 0 0 := by
  intro n
  induction n with
  | zero =>
    intro h y0 y1 y2 y3 y4 y5 o4 hf kk
    rw [f_X1_inSight_15] at hf
    cases hf
  | succ n ih =>
    intro h y0 y1 y2 y3 y4 y5 o4 hf kk
    rw [f_X1_inSight_15] at hf
    refine aw_iload 5 dX1_inSight_15 rfl ?_
    refine aw_aload_n 0 dX1_inSight_17 rfl ?_
    refine aw_gI fl_RX1_57 dX1_inSight_18 hf (fun x1 hf => ?_)
    refine aw_icmp_ge (tgt := 60) dX1_inSight_21 rfl (fun hc => ?_) (fun hc => ?_)
    · have hf := itp0 hc hf
      obtain rfl := so1 hf
      exact aw_pick [2, 4] rfl kk
    · have hf := itn0 hc hf
      refine aw_aload_n 1 dX1_inSight_24 rfl ?_
      refine aw_gR fl_RX1_98 dX1_inSight_25 hf (fun x2 hf => ?_)
      refine aw_iload 5 dX1_inSight_28 rfl ?_
      refine aw_ldI dX1_inSight_30 hf (fun x3 hf => ?_)
      refine reg1 (fun (v4 : Int32) => AW g RX1 cX1_inSight (6, some .int, "inSight", 1, 0, 0) res 54 [(0, .ref y0), (1, .ref y1), (2, .int y2), (3, .int y3), (4, .int v4), (5, .int y5)] [] h 0 0) hf (fun v4 hf => ?_) (fun v4 hf hJ54 => ?_)
      · refine aw_iinc (y5 + 1) [(5, .int (y5 + 1)), (0, .ref y0), (1, .ref y1), (2, .int y2), (3, .int y3), (4, .int v4)] 5 dX1_inSight_54 rfl rfl (Nat.le_of_ble_eq_true rfl) rfl ?_
        refine aw_goto (tgt := 15) dX1_inSight_57 rfl ?_
        refine aw_pick [1, 2, 3, 4, 5, 0] rfl ?_
        exact ih h y0 y1 y2 y3 v4 (y5 + 1) o4 hf kk
      · refine aw_if_ne (tgt := 54) dX1_inSight_31 rfl (fun hc => ?_) (fun hc => ?_)
        · have hf := itn0 hc hf
          obtain rfl := so1 hf
          exact aw_pick [0, 1, 2, 3, 4, 5] rfl hJ54
        · have hf := itp0 hc hf
          refine aw_aload_n 1 dX1_inSight_34 rfl ?_
          refine aw_gR fl_RX1_82 dX1_inSight_35 hf (fun x5 hf => ?_)
          refine aw_iload 5 dX1_inSight_38 rfl ?_
          refine aw_ldI dX1_inSight_40 hf (fun x6 hf => ?_)
          refine aw_iload_n 3 dX1_inSight_41 rfl ?_
          refine aw_icmp_ne (tgt := 54) dX1_inSight_42 rfl (fun hc => ?_) (fun hc => ?_)
          · have hf := itn0 hc hf
            obtain rfl := so1 hf
            exact aw_pick [0, 1, 2, 3, 4, 5] rfl hJ54
          · have hf := itp0 hc hf
            refine aw_iload 4 dX1_inSight_45 rfl ?_
            refine aw_iconst (v := 1) dX1_inSight_47 rfl ?_
            refine aw_iload 5 dX1_inSight_48 rfl ?_
            refine aw_ishl dX1_inSight_50 ?_
            refine aw_ior dX1_inSight_51 ?_
            refine aw_istore [(4, .int (y4 ||| ((1 : Int32) <<< (y5 &&& 31)))), (0, .ref y0), (1, .ref y1), (2, .int y2), (3, .int y3), (5, .int y5)] dX1_inSight_52 (Nat.le_of_ble_eq_true rfl) rfl ?_
            obtain rfl := so1 hf
            exact aw_pick [1, 2, 3, 4, 0, 5] rfl hJ54
set_option maxRecDepth 100000 in
set_option maxHeartbeats 4000000 in
theorem c_X1_inSight (g : Gx) (h : Hea) (a0 : Nat) (a1 : Nat) (a2 : Int32) (o : Int32) (hf : f_X1_inSight h a0 a1 a2 = some o) : MC g yX1_inSight cX1_inSight 6 (some .int) 1 0 0 [.ref a0, .ref a1, .int a2] h (some (.int o), h) := by
  refine MC_of (own := RX1) (nm := "inSight") [(0, .ref a0), (1, .ref a1), (2, .int a2)] rfl rfl pn_RX1 (Nat.le_of_ble_eq_true rfl) rfl ?_
  rw [f_X1_inSight] at hf
  refine aw_aload_n 0 dX1_inSight_0 rfl ?_
  refine aw_aload_n 1 dX1_inSight_1 rfl ?_
  refine aw_gI fl_RX1_60 dX1_inSight_2 hf (fun x1 hf => ?_)
  refine aw_cV_i (st := []) [.int x1] wV_RX1_105 (ci := 1) rfl (fun xr er => c_X1_lookedInto g h a0 x1 xr er) dX1_inSight_5 rfl rfl (Nat.le_of_ble_eq_true rfl) (Nat.le_of_ble_eq_true rfl) (Nat.le_of_ble_eq_true rfl) (Nat.le_of_ble_eq_true rfl) hf (fun x2 hf => ?_)
  refine aw_istore_n [(3, .int x2), (0, .ref a0), (1, .ref a1), (2, .int a2)] dX1_inSight_8 (Nat.le_of_ble_eq_true rfl) rfl ?_
  refine aw_iconst (v := 0) dX1_inSight_9 rfl ?_
  refine aw_istore [(4, .int 0), (3, .int x2), (0, .ref a0), (1, .ref a1), (2, .int a2)] dX1_inSight_10 (Nat.le_of_ble_eq_true rfl) rfl ?_
  refine aw_iconst (v := 0) dX1_inSight_12 rfl ?_
  refine aw_istore [(5, .int 0), (4, .int 0), (3, .int x2), (0, .ref a0), (1, .ref a1), (2, .int a2)] dX1_inSight_13 (Nat.le_of_ble_eq_true rfl) rfl ?_
  refine aw_pick [3, 4, 5, 2, 1, 0] rfl ?_
  refine reg1 (fun (v3 : Int32) => AW g RX1 cX1_inSight (6, some .int, "inSight", 1, 0, 0) (some (.int o), h) 60 [(2, .int a2), (4, .int v3)] [] h 0 0) hf (fun v3 hf => ?_) (fun v3 hf hJ => l_X1_inSight_15 g  lots h a0 a1 a2 x2 0 0 v3 hf hJ)
  refine aw_iload 1 dX1_inSight_60 rfl ?_
  refine aw_iload_n 0 dX1_inSight_62 rfl ?_
  refine aw_iconst (v := (-1)) dX1_inSight_63 rfl ?_
  refine aw_ixor dX1_inSight_64 ?_
  refine aw_iand dX1_inSight_65 ?_
  obtain rfl := so1 hf
  exact aw_iret dX1_inSight_66 rfl rfl
set_option maxRecDepth 100000 in
set_option maxHeartbeats 4000000 in
theorem l_X1_beingFound_14 (g : Gx) {res : Option Value × Hea} : ∀ (n : Nat) (h : Hea) (y0 : Nat) (y1 : Nat) (y3 : Int32) (y4 : Int32) (y5 : Int32) (y6 : Int32) (o5 : Int32) (hf : f_X1_beingFound_14 n h y0 y1 y3 y4 y5 y6 = some o5) (kk : AW g RX1 cX1_beingFound (7, some .int, "beingFound", 2, 0, 0) res 60 [(5, .int o5)] [] h 0 0), AW g RX1 cX1_beingFound (7, some .int, "beingFound", 2, 0, 0) res 14 [(0, .ref y0), (1, .ref y1), (3, .int y3), (4, .int y4), (5, .int y5), (6, .int y6)] [] h 0 0 := by
  intro n
  induction n with
  | zero =>
    intro h y0 y1 y3 y4 y5 y6 o5 hf kk
    rw [f_X1_beingFound_14] at hf
    cases hf
  | succ n ih =>
    intro h y0 y1 y3 y4 y5 y6 o5 hf kk
    rw [f_X1_beingFound_14] at hf
    refine aw_iload 5 dX1_beingFound_14 rfl ?_
    refine aw_aload_n 0 dX1_beingFound_16 rfl ?_
    refine aw_gI fl_RX1_57 dX1_beingFound_17 hf (fun x1 hf => ?_)
    refine aw_icmp_ge (tgt := 60) dX1_beingFound_20 rfl (fun hc => ?_) (fun hc => ?_)
    · have hf := itp0 hc hf
      obtain rfl := so1 hf
      exact aw_pick [4] rfl kk
    · have hf := itn0 hc hf
      refine aw_iload 3 dX1_beingFound_23 rfl ?_
      refine aw_iload 5 dX1_beingFound_25 rfl ?_
      refine aw_ishr dX1_beingFound_27 ?_
      refine aw_iconst (v := 1) dX1_beingFound_28 rfl ?_
      refine aw_iand dX1_beingFound_29 ?_
      refine aw_iconst (v := 1) dX1_beingFound_30 rfl ?_
      refine reg1 (fun (v2 : Int32) => AW g RX1 cX1_beingFound (7, some .int, "beingFound", 2, 0, 0) res 54 [(0, .ref y0), (1, .ref y1), (3, .int y3), (4, .int y4), (5, .int v2), (6, .int y6)] [] h 0 0) hf (fun v2 hf => ?_) (fun v2 hf hJ54 => ?_)
      · refine aw_iinc (y6 + 1) [(6, .int (y6 + 1)), (0, .ref y0), (1, .ref y1), (3, .int y3), (4, .int y4), (5, .int v2)] 5 dX1_beingFound_54 rfl rfl (Nat.le_of_ble_eq_true rfl) rfl ?_
        refine aw_goto (tgt := 14) dX1_beingFound_57 rfl ?_
        refine aw_pick [1, 2, 3, 4, 5, 0] rfl ?_
        exact ih h y0 y1 y3 y4 v2 (y6 + 1) o5 hf kk
      · refine aw_icmp_ne (tgt := 54) dX1_beingFound_31 rfl (fun hc => ?_) (fun hc => ?_)
        · have hf := itn0 hc hf
          obtain rfl := so1 hf
          exact aw_pick [0, 1, 2, 3, 4, 5] rfl hJ54
        · have hf := itp0 hc hf
          refine aw_aload_n 0 dX1_beingFound_34 rfl ?_
          refine aw_aload_n 1 dX1_beingFound_35 rfl ?_
          refine aw_iload 5 dX1_beingFound_36 rfl ?_
          refine aw_cV_i (st := []) [.ref y1, .int y6] wV_RX1_101 (ci := 1) rfl (fun xr er => c_X1_hidden g h y0 y1 y6 xr er) dX1_beingFound_38 rfl rfl (Nat.le_of_ble_eq_true rfl) (Nat.le_of_ble_eq_true rfl) (Nat.le_of_ble_eq_true rfl) (Nat.le_of_ble_eq_true rfl) hf (fun x3 hf => ?_)
          refine aw_iload_n 2 dX1_beingFound_41 rfl ?_
          refine aw_icmp_ge (tgt := 54) dX1_beingFound_42 rfl (fun hc => ?_) (fun hc => ?_)
          · have hf := itp0 hc hf
            obtain rfl := so1 hf
            exact aw_pick [0, 1, 2, 3, 4, 5] rfl hJ54
          · have hf := itn0 hc hf
            refine aw_iload 4 dX1_beingFound_45 rfl ?_
            refine aw_iconst (v := 1) dX1_beingFound_47 rfl ?_
            refine aw_iload 5 dX1_beingFound_48 rfl ?_
            refine aw_ishl dX1_beingFound_50 ?_
            refine aw_ior dX1_beingFound_51 ?_
            refine aw_istore [(5, .int (y5 ||| ((1 : Int32) <<< (y6 &&& 31)))), (0, .ref y0), (1, .ref y1), (3, .int y3), (4, .int y4), (6, .int y6)] dX1_beingFound_52 (Nat.le_of_ble_eq_true rfl) rfl ?_
            obtain rfl := so1 hf
            exact aw_pick [1, 2, 3, 4, 0, 5] rfl hJ54
set_option maxRecDepth 100000 in
set_option maxHeartbeats 4000000 in
theorem c_X1_beingFound (g : Gx) (h : Hea) (a0 : Nat) (a1 : Nat) (a2 : Int32) (a3 : Int32) (o : Int32) (hf : f_X1_beingFound h a0 a1 a2 a3 = some o) : MC g yX1_beingFound cX1_beingFound 7 (some .int) 2 0 0 [.ref a0, .ref a1, .int a2, .int a3] h (some (.int o), h) := by
  refine MC_of (own := RX1) (nm := "beingFound") [(0, .ref a0), (1, .ref a1), (2, .int a2), (3, .int a3)] rfl rfl pn_RX1 (Nat.le_of_ble_eq_true rfl) rfl ?_
  rw [f_X1_beingFound] at hf
  refine aw_aload_n 0 dX1_beingFound_0 rfl ?_
  refine aw_aload_n 1 dX1_beingFound_1 rfl ?_
  refine aw_iload_n 2 dX1_beingFound_2 rfl ?_
  refine aw_cV_i (st := []) [.ref a1, .int a2] wV_RX1_109 (ci := 1) rfl (fun xr er => c_X1_inSight g h a0 a1 a2 xr er) dX1_beingFound_3 rfl rfl (Nat.le_of_ble_eq_true rfl) (Nat.le_of_ble_eq_true rfl) (Nat.le_of_ble_eq_true rfl) (Nat.le_of_ble_eq_true rfl) hf (fun x1 hf => ?_)
  refine aw_istore [(4, .int x1), (0, .ref a0), (1, .ref a1), (2, .int a2), (3, .int a3)] dX1_beingFound_6 (Nat.le_of_ble_eq_true rfl) rfl ?_
  refine aw_iconst (v := 0) dX1_beingFound_8 rfl ?_
  refine aw_istore [(5, .int 0), (4, .int x1), (0, .ref a0), (1, .ref a1), (2, .int a2), (3, .int a3)] dX1_beingFound_9 (Nat.le_of_ble_eq_true rfl) rfl ?_
  refine aw_iconst (v := 0) dX1_beingFound_11 rfl ?_
  refine aw_istore [(6, .int 0), (5, .int 0), (4, .int x1), (0, .ref a0), (1, .ref a1), (2, .int a2), (3, .int a3)] dX1_beingFound_12 (Nat.le_of_ble_eq_true rfl) rfl ?_
  refine aw_pick [3, 4, 6, 2, 1, 0] rfl ?_
  refine reg1 (fun (v2 : Int32) => AW g RX1 cX1_beingFound (7, some .int, "beingFound", 2, 0, 0) (some (.int o), h) 60 [(5, .int v2)] [] h 0 0) hf (fun v2 hf => ?_) (fun v2 hf hJ => l_X1_beingFound_14 g  lots h a0 a1 a3 x1 0 0 v2 hf hJ)
  refine aw_iload 0 dX1_beingFound_60 rfl ?_
  obtain rfl := so1 hf
  exact aw_iret dX1_beingFound_62 rfl rfl
set_option maxRecDepth 100000 in
set_option maxHeartbeats 4000000 in
theorem c_X3_leave (g : Gx) (h : Hea) (a0 : Nat) (a1 : Int32) (a2 : Int32) (o : Hea) (hf : f_X3_leave h a0 a1 a2 = some o) : MC g yX3_leave cX3_leave 3 none 0 0 0 [.ref a0, .int a1, .int a2] h (none, o) := by
  refine MC_of (own := RX3) (nm := "leave") [(0, .ref a0), (1, .int a1), (2, .int a2)] rfl rfl pn_RX3 (Nat.le_of_ble_eq_true rfl) rfl ?_
  rw [f_X3_leave] at hf
  refine aw_aload_n 0 dX3_leave_0 rfl ?_
  refine aw_gR fl_RX3_22 dX3_leave_1 hf (fun x1 hf => ?_)
  refine aw_iload_n 1 dX3_leave_4 rfl ?_
  refine aw_iload_n 2 dX3_leave_5 rfl ?_
  refine aw_stI dX3_leave_6 hf (fun h2 hf => ?_)
  refine aw_aload_n 0 dX3_leave_7 rfl ?_
  refine aw_gR fl_RX3_25 dX3_leave_8 hf (fun x3 hf => ?_)
  refine aw_iload_n 1 dX3_leave_11 rfl ?_
  refine aw_aload_n 0 dX3_leave_12 rfl ?_
  refine aw_gI fl_RX3_9 dX3_leave_13 hf (fun x4 hf => ?_)
  refine aw_stI dX3_leave_16 hf (fun h5 hf => ?_)
  obtain rfl := so1 hf
  exact aw_vret dX3_leave_17 rfl rfl
set_option maxRecDepth 100000 in
set_option maxHeartbeats 4000000 in
theorem l_X3_close_3 (g : Gx) {res : Option Value × Hea} : ∀ (n : Nat) (h : Hea) (y0 : Nat) (y1 : Int32) (y2 : Int32) (y3 : Int32) (y4 : Int32) (ho : Hea) (hf : f_X3_close_3 n h y0 y1 y2 y3 y4 = some ho) (kk : AW g RX3 cX3_close (5, none, "close", 1, 0, 0) res 84 [(0, .ref y0)] [] ho 0 0), AW g RX3 cX3_close (5, none, "close", 1, 0, 0) res 3 [(0, .ref y0), (1, .int y1), (2, .int y2), (3, .int y3), (4, .int y4)] [] h 0 0 := by
  intro n
  induction n with
  | zero =>
    intro h y0 y1 y2 y3 y4 ho hf kk
    rw [f_X3_close_3] at hf
    cases hf
  | succ n ih =>
    intro h y0 y1 y2 y3 y4 ho hf kk
    rw [f_X3_close_3] at hf
    refine aw_iload 4 dX3_close_3 rfl ?_
    refine aw_iload_n 1 dX3_close_5 rfl ?_
    refine aw_icmp_ge (tgt := 84) dX3_close_6 rfl (fun hc => ?_) (fun hc => ?_)
    · have hf := itp0 hc hf
      obtain rfl := so1 hf
      exact aw_pick [0] rfl kk
    · have hf := itn0 hc hf
      refine aw_iload_n 2 dX3_close_9 rfl ?_
      refine aw_iload 4 dX3_close_10 rfl ?_
      refine aw_ishr dX3_close_12 ?_
      refine aw_iconst (v := 1) dX3_close_13 rfl ?_
      refine aw_iand dX3_close_14 ?_
      refine aw_iconst (v := 1) dX3_close_15 rfl ?_
      refine reg1 (fun (h1 : Hea) => AW g RX3 cX3_close (5, none, "close", 1, 0, 0) res 70 [(0, .ref y0), (1, .int y1), (2, .int y2), (3, .int y3), (4, .int y4)] [] h1 0 0) hf (fun h1 hf => ?_) (fun h1 hf hJ70 => ?_)
      · refine aw_aload_n 0 dX3_close_70 rfl ?_
        refine aw_gR fl_RX3_28 dX3_close_71 hf (fun x9 hf => ?_)
        refine aw_iload 4 dX3_close_74 rfl ?_
        refine aw_iconst (v := 0) dX3_close_76 rfl ?_
        refine aw_stI dX3_close_77 hf (fun h10 hf => ?_)
        refine aw_iinc (y4 + 1) [(4, .int (y4 + 1)), (0, .ref y0), (1, .int y1), (2, .int y2), (3, .int y3)] 4 dX3_close_78 rfl rfl (Nat.le_of_ble_eq_true rfl) rfl ?_
        refine aw_goto (tgt := 3) dX3_close_81 rfl ?_
        refine aw_pick [1, 2, 3, 4, 0] rfl ?_
        exact ih h10 y0 y1 y2 y3 (y4 + 1) ho hf kk
      · refine aw_icmp_ne (tgt := 29) dX3_close_16 rfl (fun hc => ?_) (fun hc => ?_)
        · have hf := itn0 hc hf
          refine aw_iload_n 3 dX3_close_29 rfl ?_
          refine aw_iload 4 dX3_close_30 rfl ?_
          refine aw_ishr dX3_close_32 ?_
          refine aw_iconst (v := 1) dX3_close_33 rfl ?_
          refine aw_iand dX3_close_34 ?_
          refine aw_iconst (v := 1) dX3_close_35 rfl ?_
          refine aw_icmp_ne (tgt := 49) dX3_close_36 rfl (fun hc => ?_) (fun hc => ?_)
          · have hf := itn0 hc hf
            refine aw_aload_n 0 dX3_close_49 rfl ?_
            refine aw_gR fl_RX3_22 dX3_close_50 hf (fun x2 hf => ?_)
            refine aw_iload 4 dX3_close_53 rfl ?_
            refine aw_ldI dX3_close_55 hf (fun x3 hf => ?_)
            refine aw_if_ne (tgt := 70) dX3_close_56 rfl (fun hc => ?_) (fun hc => ?_)
            · have hf := itn0 hc hf
              obtain rfl := so1 hf
              exact aw_pick [0, 1, 2, 3, 4] rfl hJ70
            · have hf := itp0 hc hf
              refine aw_aload_n 0 dX3_close_59 rfl ?_
              refine aw_gR fl_RX3_19 dX3_close_60 hf (fun x4 hf => ?_)
              refine aw_iload 4 dX3_close_63 rfl ?_
              refine aw_dup2 dX3_close_65 rfl rfl ?_
              refine aw_ldI dX3_close_66 hf (fun x5 hf => ?_)
              refine aw_iconst (v := 1) dX3_close_67 rfl ?_
              refine aw_iadd dX3_close_68 ?_
              refine aw_stI dX3_close_69 hf (fun h6 hf => ?_)
              obtain rfl := so1 hf
              exact aw_pick [0, 1, 2, 3, 4] rfl hJ70
          · have hf := itp0 hc hf
            refine aw_aload_n 0 dX3_close_39 rfl ?_
            refine aw_iload 4 dX3_close_40 rfl ?_
            refine aw_iconst (v := 2) dX3_close_42 rfl ?_
            refine aw_cV_v (st := []) [.int y4, .int 2] wV_RX3_31 (ci := 3) rfl (fun hr er => c_X3_leave g h y0 y4 2 hr er) dX3_close_43 rfl rfl (Nat.le_of_ble_eq_true rfl) (Nat.le_of_ble_eq_true rfl) (Nat.le_of_ble_eq_true rfl) (Nat.le_of_ble_eq_true rfl) hf (fun h7 hf => ?_)
            refine aw_goto (tgt := 70) dX3_close_46 rfl ?_
            obtain rfl := so1 hf
            exact aw_pick [0, 1, 2, 3, 4] rfl hJ70
        · have hf := itp0 hc hf
          refine aw_aload_n 0 dX3_close_19 rfl ?_
          refine aw_iload 4 dX3_close_20 rfl ?_
          refine aw_iconst (v := 1) dX3_close_22 rfl ?_
          refine aw_cV_v (st := []) [.int y4, .int 1] wV_RX3_31 (ci := 3) rfl (fun hr er => c_X3_leave g h y0 y4 1 hr er) dX3_close_23 rfl rfl (Nat.le_of_ble_eq_true rfl) (Nat.le_of_ble_eq_true rfl) (Nat.le_of_ble_eq_true rfl) (Nat.le_of_ble_eq_true rfl) hf (fun h8 hf => ?_)
          refine aw_goto (tgt := 70) dX3_close_26 rfl ?_
          obtain rfl := so1 hf
          exact aw_pick [0, 1, 2, 3, 4] rfl hJ70
set_option maxRecDepth 100000 in
set_option maxHeartbeats 4000000 in
theorem c_X3_close (g : Gx) (h : Hea) (a0 : Nat) (a1 : Int32) (a2 : Int32) (a3 : Int32) (o : Hea) (hf : f_X3_close h a0 a1 a2 a3 = some o) : MC g yX3_close cX3_close 5 none 1 0 0 [.ref a0, .int a1, .int a2, .int a3] h (none, o) := by
  refine MC_of (own := RX3) (nm := "close") [(0, .ref a0), (1, .int a1), (2, .int a2), (3, .int a3)] rfl rfl pn_RX3 (Nat.le_of_ble_eq_true rfl) rfl ?_
  rw [f_X3_close] at hf
  refine aw_iconst (v := 0) dX3_close_0 rfl ?_
  refine aw_istore [(4, .int 0), (0, .ref a0), (1, .int a1), (2, .int a2), (3, .int a3)] dX3_close_1 (Nat.le_of_ble_eq_true rfl) rfl ?_
  refine aw_pick [1, 2, 3, 4, 0] rfl ?_
  refine reg1 (fun (h1 : Hea) => AW g RX3 cX3_close (5, none, "close", 1, 0, 0) (none, o) 84 [(0, .ref a0)] [] h1 0 0) hf (fun h1 hf => ?_) (fun h1 hf hJ => l_X3_close_3 g  lots h a0 a1 a2 a3 0 h1 hf hJ)
  refine aw_aload_n 0 dX3_close_84 rfl ?_
  refine aw_dup dX3_close_85 rfl ?_
  refine aw_gI fl_RX3_9 dX3_close_86 hf (fun x2 hf => ?_)
  refine aw_iconst (v := 1) dX3_close_89 rfl ?_
  refine aw_iadd dX3_close_90 ?_
  refine aw_pI fp_RX3_9 dX3_close_91 hf (fun h3 hf => ?_)
  obtain rfl := so1 hf
  exact aw_vret dX3_close_94 rfl rfl
set_option maxRecDepth 100000 in
set_option maxHeartbeats 4000000 in
theorem c_X1_runNight (g : Gx) (h : Hea) (a0 : Nat) (a1 : Nat) (a2 : Int32) (o : Int32) (hz : Hea) (hf : f_X1_runNight h a0 a1 a2 = some (o, hz)) : MC g yX1_runNight cX1_runNight 5 (some .int) 3 0 0 [.ref a0, .ref a1, .int a2] h (some (.int o), hz) := by
  refine MC_of (own := RX1) (nm := "runNight") [(0, .ref a0), (1, .ref a1), (2, .int a2)] rfl rfl pn_RX1 (Nat.le_of_ble_eq_true rfl) rfl ?_
  rw [f_X1_runNight] at hf
  refine aw_aload_n 0 dX1_runNight_0 rfl ?_
  refine aw_aload_n 1 dX1_runNight_1 rfl ?_
  refine aw_cV_i (st := []) [.ref a1] wV_RX1_112 (ci := 1) rfl (fun xr er => c_X1_goingOut g h a0 a1 xr er) dX1_runNight_2 rfl rfl (Nat.le_of_ble_eq_true rfl) (Nat.le_of_ble_eq_true rfl) (Nat.le_of_ble_eq_true rfl) (Nat.le_of_ble_eq_true rfl) hf (fun x1 hf => ?_)
  refine aw_istore_n [(3, .int x1), (0, .ref a0), (1, .ref a1), (2, .int a2)] dX1_runNight_5 (Nat.le_of_ble_eq_true rfl) rfl ?_
  refine aw_aload_n 1 dX1_runNight_6 rfl ?_
  refine aw_aload_n 2 dX1_runNight_7 rfl ?_
  refine aw_iload_n 0 dX1_runNight_8 rfl ?_
  refine aw_iload_n 3 dX1_runNight_9 rfl ?_
  refine aw_cV_i (st := []) [.ref a1, .int x1, .int a2] wV_RX1_116 (ci := 1) rfl (fun xr er => c_X1_beingFound g h a0 a1 x1 a2 xr er) dX1_runNight_10 rfl rfl (Nat.le_of_ble_eq_true rfl) (Nat.le_of_ble_eq_true rfl) (Nat.le_of_ble_eq_true rfl) (Nat.le_of_ble_eq_true rfl) hf (fun x2 hf => ?_)
  refine aw_istore [(4, .int x2), (3, .int x1), (0, .ref a0), (1, .ref a1), (2, .int a2)] dX1_runNight_13 (Nat.le_of_ble_eq_true rfl) rfl ?_
  refine aw_aload_n 3 dX1_runNight_15 rfl ?_
  refine aw_aload_n 2 dX1_runNight_16 rfl ?_
  refine aw_gI fl_RX1_57 dX1_runNight_17 hf (fun x3 hf => ?_)
  refine aw_iload_n 1 dX1_runNight_20 rfl ?_
  refine aw_iload 0 dX1_runNight_21 rfl ?_
  refine aw_cV_v (st := []) [.int x3, .int x1, .int x2] wV_RX1_120 (ci := 3) rfl (fun hr er => c_X3_close g h a1 x3 x1 x2 hr er) dX1_runNight_23 rfl rfl (Nat.le_of_ble_eq_true rfl) (Nat.le_of_ble_eq_true rfl) (Nat.le_of_ble_eq_true rfl) (Nat.le_of_ble_eq_true rfl) hf (fun h4 hf => ?_)
  refine aw_iload 0 dX1_runNight_26 rfl ?_
  obtain ⟨rfl, rfl⟩ := so2 hf
  exact aw_iret dX1_runNight_28 rfl rfl
set_option maxRecDepth 100000 in
set_option maxHeartbeats 4000000 in
theorem c_X7_night (g : Gx) (h : Hea) (a0 : Nat) (o : Int32) (hz : Hea) (hf : f_X7_night h a0 = some (o, hz)) : MC g yX7_night cX7_night 1 (some .int) 4 0 0 [.ref a0] h (some (.int o), hz) := by
  refine MC_of (own := RX7) (nm := "night") [(0, .ref a0)] rfl rfl pn_RX7 (Nat.le_of_ble_eq_true rfl) rfl ?_
  rw [f_X7_night] at hf
  refine aw_aload_n 0 dX7_night_0 rfl ?_
  refine aw_gR fl_RX7_19 dX7_night_1 hf (fun x1 hf => ?_)
  refine aw_aload_n 0 dX7_night_4 rfl ?_
  refine aw_gR fl_RX7_10 dX7_night_5 hf (fun x2 hf => ?_)
  refine aw_gR fl_RX7_151 dX7_night_8 hf (fun x3 hf => ?_)
  refine aw_cV_v (st := []) [.ref x3] wV_RX7_169 (ci := 2) rfl (fun hr er => c_X2_keep g h x1 x3 hr er) dX7_night_11 rfl rfl (Nat.le_of_ble_eq_true rfl) (Nat.le_of_ble_eq_true rfl) (Nat.le_of_ble_eq_true rfl) (Nat.le_of_ble_eq_true rfl) hf (fun h4 hf => ?_)
  refine aw_aload_n 0 dX7_night_14 rfl ?_
  refine aw_gR fl_RX7_10 dX7_night_15 hf (fun x5 hf => ?_)
  refine aw_aload_n 0 dX7_night_18 rfl ?_
  refine aw_gR fl_RX7_10 dX7_night_19 hf (fun x6 hf => ?_)
  refine aw_gR fl_RX7_151 dX7_night_22 hf (fun x7 hf => ?_)
  refine aw_aload_n 0 dX7_night_25 rfl ?_
  refine aw_gR fl_RX7_10 dX7_night_26 hf (fun x8 hf => ?_)
  refine aw_gI fl_RX7_133 dX7_night_29 hf (fun x9 hf => ?_)
  refine aw_cV_wi (st := []) [.ref x7, .int x9] wV_RX7_176 (ci := 1) rfl (fun xr hr er => c_X1_runNight g h4 x5 x7 x9 xr hr er) dX7_night_32 rfl rfl (Nat.le_of_ble_eq_true rfl) (Nat.le_of_ble_eq_true rfl) (Nat.le_of_ble_eq_true rfl) (Nat.le_of_ble_eq_true rfl) hf (fun x10 h11 hf => ?_)
  obtain ⟨rfl, rfl⟩ := so2 hf
  exact aw_iret dX7_night_35 rfl rfl
set_option maxRecDepth 100000 in
set_option maxHeartbeats 4000000 in
theorem c_X2_bringBack (g : Gx) (h : Hea) (a0 : Nat) (a1 : Nat) (o : Hea) (hf : f_X2_bringBack h a0 a1 = some o) : MC g yX2_bringBack cX2_bringBack 2 none 2 0 0 [.ref a0, .ref a1] h (none, o) := by
  refine MC_of (own := RX2) (nm := "bringBack") [(0, .ref a0), (1, .ref a1)] rfl rfl pn_RX2 (Nat.le_of_ble_eq_true rfl) rfl ?_
  rw [f_X2_bringBack] at hf
  refine aw_aload_n 0 dX2_bringBack_0 rfl ?_
  refine aw_gI fl_RX2_17 dX2_bringBack_1 hf (fun x1 hf => ?_)
  refine reg1 (fun (h2 : Hea) => AW g RX2 cX2_bringBack (2, none, "bringBack", 2, 0, 0) (none, o) 30 [] [] h2 0 0) hf (fun h2 hf => ?_) (fun h2 hf hJ30 => ?_)
  · obtain rfl := so1 hf
    exact aw_vret dX2_bringBack_30 rfl rfl
  · refine aw_if_le (tgt := 30) dX2_bringBack_4 rfl (fun hc => ?_) (fun hc => ?_)
    · have hf := itp0 hc hf
      obtain rfl := so1 hf
      exact aw_pick [] rfl hJ30
    · have hf := itn0 hc hf
      refine aw_aload_n 0 dX2_bringBack_7 rfl ?_
      refine aw_dup dX2_bringBack_8 rfl ?_
      refine aw_gI fl_RX2_17 dX2_bringBack_9 hf (fun x3 hf => ?_)
      refine aw_iconst (v := 1) dX2_bringBack_12 rfl ?_
      refine aw_isub dX2_bringBack_13 ?_
      refine aw_pI fp_RX2_17 dX2_bringBack_14 hf (fun h4 hf => ?_)
      refine aw_aload_n 1 dX2_bringBack_17 rfl ?_
      refine aw_aload_n 0 dX2_bringBack_18 rfl ?_
      refine aw_gR fl_RX2_11 dX2_bringBack_19 hf (fun x5 hf => ?_)
      refine aw_aload_n 0 dX2_bringBack_22 rfl ?_
      refine aw_gI fl_RX2_17 dX2_bringBack_23 hf (fun x6 hf => ?_)
      refine aw_ldR (fun _ => rfl) dX2_bringBack_26 hf (fun x7 hf => ?_)
      refine aw_cV_v (st := []) [.ref x7] wV_RX2_25 (ci := 3) rfl (fun hr er => c_X3_take g h4 a1 x7 hr er) dX2_bringBack_27 rfl rfl (Nat.le_of_ble_eq_true rfl) (Nat.le_of_ble_eq_true rfl) (Nat.le_of_ble_eq_true rfl) (Nat.le_of_ble_eq_true rfl) hf (fun h8 hf => ?_)
      obtain rfl := so1 hf
      exact aw_pick [] rfl hJ30
set_option maxRecDepth 100000 in
set_option maxHeartbeats 4000000 in
theorem c_X7_undo (g : Gx) (h : Hea) (a0 : Nat) (o : Int32) (hz : Hea) (hf : f_X7_undo h a0 = some (o, hz)) : MC g yX7_undo cX7_undo 1 (some .int) 3 0 0 [.ref a0] h (some (.int o), hz) := by
  refine MC_of (own := RX7) (nm := "undo") [(0, .ref a0)] rfl rfl pn_RX7 (Nat.le_of_ble_eq_true rfl) rfl ?_
  rw [f_X7_undo] at hf
  refine aw_aload_n 0 dX7_undo_0 rfl ?_
  refine aw_gR fl_RX7_19 dX7_undo_1 hf (fun x1 hf => ?_)
  refine aw_gI fl_RX7_105 dX7_undo_4 hf (fun x2 hf => ?_)
  refine aw_if_ne (tgt := 15) dX7_undo_7 rfl (fun hc => ?_) (fun hc => ?_)
  · have hf := itn0 hc hf
    refine aw_aload_n 0 dX7_undo_15 rfl ?_
    refine aw_gR fl_RX7_19 dX7_undo_16 hf (fun x3 hf => ?_)
    refine aw_aload_n 0 dX7_undo_19 rfl ?_
    refine aw_gR fl_RX7_10 dX7_undo_20 hf (fun x4 hf => ?_)
    refine aw_gR fl_RX7_151 dX7_undo_23 hf (fun x5 hf => ?_)
    refine aw_cV_v (st := []) [.ref x5] wV_RX7_180 (ci := 2) rfl (fun hr er => c_X2_bringBack g h x3 x5 hr er) dX7_undo_26 rfl rfl (Nat.le_of_ble_eq_true rfl) (Nat.le_of_ble_eq_true rfl) (Nat.le_of_ble_eq_true rfl) (Nat.le_of_ble_eq_true rfl) hf (fun h6 hf => ?_)
    refine aw_aload_n 0 dX7_undo_29 rfl ?_
    refine aw_gR fl_RX7_10 dX7_undo_30 hf (fun x7 hf => ?_)
    refine aw_gR fl_RX7_151 dX7_undo_33 hf (fun x8 hf => ?_)
    refine aw_gI fl_RX7_183 dX7_undo_36 hf (fun x9 hf => ?_)
    obtain ⟨rfl, rfl⟩ := so2 hf
    exact aw_iret dX7_undo_39 rfl rfl
  · have hf := itp0 hc hf
    refine aw_aload_n 0 dX7_undo_10 rfl ?_
    refine aw_cV_wi (st := []) [] wV_RX7_166 (ci := 7) rfl (fun xr hr er => c_X7_refuseNo g h a0 xr hr er) dX7_undo_11 rfl rfl (Nat.le_of_ble_eq_true rfl) (Nat.le_of_ble_eq_true rfl) (Nat.le_of_ble_eq_true rfl) (Nat.le_of_ble_eq_true rfl) hf (fun x10 h11 hf => ?_)
    obtain ⟨rfl, rfl⟩ := so2 hf
    exact aw_iret dX7_undo_14 rfl rfl
