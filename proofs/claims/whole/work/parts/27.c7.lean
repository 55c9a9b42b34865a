/-! ===== contracts, by program: X8_takesRoom .. X8_digest ===== -/
set_option maxRecDepth 100000 in
set_option maxHeartbeats 4000000 in
theorem c_X8_takesRoom (g : Gx) (h : Hea) (a0 : Nat) (o : Int32) (hz : Hea) (hf : f_X8_takesRoom h a0 = some (o, hz)) : MC g yX8_takesRoom cX8_takesRoom 1 (some .boolean) 5 0 0 [.ref a0] h (some (.int o), hz) := by
  refine MC_of (own := RX8) (nm := "takesRoom") [(0, .ref a0)] rfl rfl pn_RX8 (Nat.le_of_ble_eq_true rfl) rfl ?_
  rw [f_X8_takesRoom] at hf
  refine aw_aload_n 0 dX8_takesRoom_0 rfl ?_
  refine aw_cV_v (st := []) [] wV_RX8_257 (ci := 8) rfl (fun hr er => c_X8_goBehind g h a0 hr er) dX8_takesRoom_1 rfl rfl (Nat.le_of_ble_eq_true rfl) (Nat.le_of_ble_eq_true rfl) (Nat.le_of_ble_eq_true rfl) (Nat.le_of_ble_eq_true rfl) hf (fun h1 hf => ?_)
  refine aw_aload_n 0 dX8_takesRoom_4 rfl ?_
  refine aw_iconst (v := 0) dX8_takesRoom_5 rfl ?_
  refine aw_iconst (v := 0) dX8_takesRoom_6 rfl ?_
  refine aw_bipush (v := 7) dX8_takesRoom_7 rfl ?_
  refine aw_cV_wi (st := []) [.int 0, .int 0, .int 7] wV_RX8_264 (ci := 8) rfl (fun xr hr er => c_X8_takes g h1 a0 0 0 7 xr hr er) dX8_takesRoom_9 rfl rfl (Nat.le_of_ble_eq_true rfl) (Nat.le_of_ble_eq_true rfl) (Nat.le_of_ble_eq_true rfl) (Nat.le_of_ble_eq_true rfl) hf (fun x2 h3 hf => ?_)
  refine aw_if_eq (tgt := 26) dX8_takesRoom_12 rfl (fun hc => ?_) (fun hc => ?_)
  · have hf := itp0 hc hf
    refine aw_iconst (v := 0) dX8_takesRoom_26 rfl ?_
    obtain ⟨rfl, rfl⟩ := so2 hf
    exact aw_zret dX8_takesRoom_27 rfl rfl rfl
  · have hf := itn0 hc hf
    refine aw_aload_n 0 dX8_takesRoom_15 rfl ?_
    refine aw_iconst (v := 1) dX8_takesRoom_16 rfl ?_
    refine aw_iconst (v := 0) dX8_takesRoom_17 rfl ?_
    refine aw_bipush (v := 9) dX8_takesRoom_18 rfl ?_
    refine aw_cV_wi (st := []) [.int 1, .int 0, .int 9] wV_RX8_264 (ci := 8) rfl (fun xr hr er => c_X8_takes g h3 a0 1 0 9 xr hr er) dX8_takesRoom_20 rfl rfl (Nat.le_of_ble_eq_true rfl) (Nat.le_of_ble_eq_true rfl) (Nat.le_of_ble_eq_true rfl) (Nat.le_of_ble_eq_true rfl) hf (fun x4 h5 hf => ?_)
    refine aw_if_ne (tgt := 28) dX8_takesRoom_23 rfl (fun hc => ?_) (fun hc => ?_)
    · have hf := itn0 hc hf
      refine aw_aload_n 0 dX8_takesRoom_28 rfl ?_
      refine aw_gR fl_RX8_64 dX8_takesRoom_29 hf (fun x6 hf => ?_)
      refine aw_bipush (v := 7) dX8_takesRoom_32 rfl ?_
      refine aw_aload_n 0 dX8_takesRoom_34 rfl ?_
      refine aw_gR fl_RX8_67 dX8_takesRoom_35 hf (fun x7 hf => ?_)
      refine aw_iconst (v := 0) dX8_takesRoom_38 rfl ?_
      refine aw_ldI dX8_takesRoom_39 hf (fun x8 hf => ?_)
      refine aw_iadd dX8_takesRoom_40 ?_
      refine aw_aload_n 0 dX8_takesRoom_41 rfl ?_
      refine aw_gR fl_RX8_67 dX8_takesRoom_42 hf (fun x9 hf => ?_)
      refine aw_iconst (v := 1) dX8_takesRoom_45 rfl ?_
      refine aw_ldI dX8_takesRoom_46 hf (fun x10 hf => ?_)
      refine aw_stI dX8_takesRoom_47 hf (fun h11 hf => ?_)
      refine aw_iconst (v := 1) dX8_takesRoom_48 rfl ?_
      obtain ⟨rfl, rfl⟩ := so2 hf
      exact aw_zret dX8_takesRoom_49 rfl rfl rfl
    · have hf := itp0 hc hf
      refine aw_iconst (v := 0) dX8_takesRoom_26 rfl ?_
      obtain ⟨rfl, rfl⟩ := so2 hf
      exact aw_zret dX8_takesRoom_27 rfl rfl rfl
set_option maxRecDepth 100000 in
set_option maxHeartbeats 4000000 in
theorem c_X8_takesDoor (g : Gx) (h : Hea) (a0 : Nat) (o : Int32) (hz : Hea) (hf : f_X8_takesDoor h a0 = some (o, hz)) : MC g yX8_takesDoor cX8_takesDoor 1 (some .boolean) 5 0 0 [.ref a0] h (some (.int o), hz) := by
  refine MC_of (own := RX8) (nm := "takesDoor") [(0, .ref a0)] rfl rfl pn_RX8 (Nat.le_of_ble_eq_true rfl) rfl ?_
  rw [f_X8_takesDoor] at hf
  refine aw_aload_n 0 dX8_takesDoor_0 rfl ?_
  refine aw_cV_v (st := []) [] wV_RX8_257 (ci := 8) rfl (fun hr er => c_X8_goBehind g h a0 hr er) dX8_takesDoor_1 rfl rfl (Nat.le_of_ble_eq_true rfl) (Nat.le_of_ble_eq_true rfl) (Nat.le_of_ble_eq_true rfl) (Nat.le_of_ble_eq_true rfl) hf (fun h1 hf => ?_)
  refine aw_aload_n 0 dX8_takesDoor_4 rfl ?_
  refine aw_iconst (v := 0) dX8_takesDoor_5 rfl ?_
  refine aw_iconst (v := 0) dX8_takesDoor_6 rfl ?_
  refine aw_bipush (v := 7) dX8_takesDoor_7 rfl ?_
  refine aw_cV_wi (st := []) [.int 0, .int 0, .int 7] wV_RX8_264 (ci := 8) rfl (fun xr hr er => c_X8_takes g h1 a0 0 0 7 xr hr er) dX8_takesDoor_9 rfl rfl (Nat.le_of_ble_eq_true rfl) (Nat.le_of_ble_eq_true rfl) (Nat.le_of_ble_eq_true rfl) (Nat.le_of_ble_eq_true rfl) hf (fun x2 h3 hf => ?_)
  refine aw_if_eq (tgt := 58) dX8_takesDoor_12 rfl (fun hc => ?_) (fun hc => ?_)
  · have hf := itp0 hc hf
    refine aw_iconst (v := 0) dX8_takesDoor_58 rfl ?_
    obtain ⟨rfl, rfl⟩ := so2 hf
    exact aw_zret dX8_takesDoor_59 rfl rfl rfl
  · have hf := itn0 hc hf
    refine aw_aload_n 0 dX8_takesDoor_15 rfl ?_
    refine aw_gI fl_RX8_242 dX8_takesDoor_16 hf (fun x4 hf => ?_)
    refine aw_iconst (v := 2) dX8_takesDoor_19 rfl ?_
    refine aw_icmp_ne (tgt := 36) dX8_takesDoor_20 rfl (fun hc => ?_) (fun hc => ?_)
    · have hf := itn0 hc hf
      refine aw_aload_n 0 dX8_takesDoor_36 rfl ?_
      refine aw_iconst (v := 1) dX8_takesDoor_37 rfl ?_
      refine aw_iconst (v := 0) dX8_takesDoor_38 rfl ?_
      refine aw_bipush (v := 7) dX8_takesDoor_39 rfl ?_
      refine aw_cV_wi (st := []) [.int 1, .int 0, .int 7] wV_RX8_264 (ci := 8) rfl (fun xr hr er => c_X8_takes g h3 a0 1 0 7 xr hr er) dX8_takesDoor_41 rfl rfl (Nat.le_of_ble_eq_true rfl) (Nat.le_of_ble_eq_true rfl) (Nat.le_of_ble_eq_true rfl) (Nat.le_of_ble_eq_true rfl) hf (fun x5 h6 hf => ?_)
      refine aw_if_eq (tgt := 58) dX8_takesDoor_44 rfl (fun hc => ?_) (fun hc => ?_)
      · have hf := itp0 hc hf
        refine aw_iconst (v := 0) dX8_takesDoor_58 rfl ?_
        obtain ⟨rfl, rfl⟩ := so2 hf
        exact aw_zret dX8_takesDoor_59 rfl rfl rfl
      · have hf := itn0 hc hf
        refine aw_aload_n 0 dX8_takesDoor_47 rfl ?_
        refine aw_iconst (v := 2) dX8_takesDoor_48 rfl ?_
        refine aw_iconst (v := 1) dX8_takesDoor_49 rfl ?_
        refine aw_bipush (v := 9) dX8_takesDoor_50 rfl ?_
        refine aw_cV_wi (st := []) [.int 2, .int 1, .int 9] wV_RX8_264 (ci := 8) rfl (fun xr hr er => c_X8_takes g h6 a0 2 1 9 xr hr er) dX8_takesDoor_52 rfl rfl (Nat.le_of_ble_eq_true rfl) (Nat.le_of_ble_eq_true rfl) (Nat.le_of_ble_eq_true rfl) (Nat.le_of_ble_eq_true rfl) hf (fun x7 h8 hf => ?_)
        refine aw_if_ne (tgt := 60) dX8_takesDoor_55 rfl (fun hc => ?_) (fun hc => ?_)
        · have hf := itn0 hc hf
          refine aw_aload_n 0 dX8_takesDoor_60 rfl ?_
          refine aw_gR fl_RX8_64 dX8_takesDoor_61 hf (fun x9 hf => ?_)
          refine aw_aload_n 0 dX8_takesDoor_64 rfl ?_
          refine aw_gR fl_RX8_67 dX8_takesDoor_65 hf (fun x10 hf => ?_)
          refine aw_iconst (v := 0) dX8_takesDoor_68 rfl ?_
          refine aw_ldI dX8_takesDoor_69 hf (fun x11 hf => ?_)
          refine aw_aload_n 0 dX8_takesDoor_70 rfl ?_
          refine aw_gR fl_RX8_67 dX8_takesDoor_71 hf (fun x12 hf => ?_)
          refine aw_iconst (v := 1) dX8_takesDoor_74 rfl ?_
          refine aw_ldI dX8_takesDoor_75 hf (fun x13 hf => ?_)
          refine aw_aload_n 0 dX8_takesDoor_76 rfl ?_
          refine aw_gR fl_RX8_67 dX8_takesDoor_77 hf (fun x14 hf => ?_)
          refine aw_iconst (v := 2) dX8_takesDoor_80 rfl ?_
          refine aw_ldI dX8_takesDoor_81 hf (fun x15 hf => ?_)
          refine aw_cS_v (st := []) [.ref x9, .int x11, .int x13, .int x15] wS_RX8_100 (fun hr er => c_X8_layDoor g h8 x9 x11 x13 x15 hr er) dX8_takesDoor_82 rfl rfl (Nat.le_of_ble_eq_true rfl) (Nat.le_of_ble_eq_true rfl) (Nat.le_of_ble_eq_true rfl) (Nat.le_of_ble_eq_true rfl) hf (fun h16 hf => ?_)
          refine aw_iconst (v := 1) dX8_takesDoor_85 rfl ?_
          obtain ⟨rfl, rfl⟩ := so2 hf
          exact aw_zret dX8_takesDoor_86 rfl rfl rfl
        · have hf := itp0 hc hf
          refine aw_iconst (v := 0) dX8_takesDoor_58 rfl ?_
          obtain ⟨rfl, rfl⟩ := so2 hf
          exact aw_zret dX8_takesDoor_59 rfl rfl rfl
    · have hf := itp0 hc hf
      refine aw_aload_n 0 dX8_takesDoor_23 rfl ?_
      refine aw_gI fl_RX8_245 dX8_takesDoor_24 hf (fun x17 hf => ?_)
      refine aw_aload_n 0 dX8_takesDoor_27 rfl ?_
      refine aw_gR fl_RX8_67 dX8_takesDoor_28 hf (fun x18 hf => ?_)
      refine aw_iconst (v := 0) dX8_takesDoor_31 rfl ?_
      refine aw_ldI dX8_takesDoor_32 hf (fun x19 hf => ?_)
      refine aw_icmp_eq (tgt := 58) dX8_takesDoor_33 rfl (fun hc => ?_) (fun hc => ?_)
      · have hf := itp0 hc hf
        refine aw_iconst (v := 0) dX8_takesDoor_58 rfl ?_
        obtain ⟨rfl, rfl⟩ := so2 hf
        exact aw_zret dX8_takesDoor_59 rfl rfl rfl
      · have hf := itn0 hc hf
        refine aw_aload_n 0 dX8_takesDoor_36 rfl ?_
        refine aw_iconst (v := 1) dX8_takesDoor_37 rfl ?_
        refine aw_iconst (v := 0) dX8_takesDoor_38 rfl ?_
        refine aw_bipush (v := 7) dX8_takesDoor_39 rfl ?_
        refine aw_cV_wi (st := []) [.int 1, .int 0, .int 7] wV_RX8_264 (ci := 8) rfl (fun xr hr er => c_X8_takes g h3 a0 1 0 7 xr hr er) dX8_takesDoor_41 rfl rfl (Nat.le_of_ble_eq_true rfl) (Nat.le_of_ble_eq_true rfl) (Nat.le_of_ble_eq_true rfl) (Nat.le_of_ble_eq_true rfl) hf (fun x20 h21 hf => ?_)
        refine aw_if_eq (tgt := 58) dX8_takesDoor_44 rfl (fun hc => ?_) (fun hc => ?_)
        · have hf := itp0 hc hf
          refine aw_iconst (v := 0) dX8_takesDoor_58 rfl ?_
          obtain ⟨rfl, rfl⟩ := so2 hf
          exact aw_zret dX8_takesDoor_59 rfl rfl rfl
        · have hf := itn0 hc hf
          refine aw_aload_n 0 dX8_takesDoor_47 rfl ?_
          refine aw_iconst (v := 2) dX8_takesDoor_48 rfl ?_
          refine aw_iconst (v := 1) dX8_takesDoor_49 rfl ?_
          refine aw_bipush (v := 9) dX8_takesDoor_50 rfl ?_
          refine aw_cV_wi (st := []) [.int 2, .int 1, .int 9] wV_RX8_264 (ci := 8) rfl (fun xr hr er => c_X8_takes g h21 a0 2 1 9 xr hr er) dX8_takesDoor_52 rfl rfl (Nat.le_of_ble_eq_true rfl) (Nat.le_of_ble_eq_true rfl) (Nat.le_of_ble_eq_true rfl) (Nat.le_of_ble_eq_true rfl) hf (fun x22 h23 hf => ?_)
          refine aw_if_ne (tgt := 60) dX8_takesDoor_55 rfl (fun hc => ?_) (fun hc => ?_)
          · have hf := itn0 hc hf
            refine aw_aload_n 0 dX8_takesDoor_60 rfl ?_
            refine aw_gR fl_RX8_64 dX8_takesDoor_61 hf (fun x24 hf => ?_)
            refine aw_aload_n 0 dX8_takesDoor_64 rfl ?_
            refine aw_gR fl_RX8_67 dX8_takesDoor_65 hf (fun x25 hf => ?_)
            refine aw_iconst (v := 0) dX8_takesDoor_68 rfl ?_
            refine aw_ldI dX8_takesDoor_69 hf (fun x26 hf => ?_)
            refine aw_aload_n 0 dX8_takesDoor_70 rfl ?_
            refine aw_gR fl_RX8_67 dX8_takesDoor_71 hf (fun x27 hf => ?_)
            refine aw_iconst (v := 1) dX8_takesDoor_74 rfl ?_
            refine aw_ldI dX8_takesDoor_75 hf (fun x28 hf => ?_)
            refine aw_aload_n 0 dX8_takesDoor_76 rfl ?_
            refine aw_gR fl_RX8_67 dX8_takesDoor_77 hf (fun x29 hf => ?_)
            refine aw_iconst (v := 2) dX8_takesDoor_80 rfl ?_
            refine aw_ldI dX8_takesDoor_81 hf (fun x30 hf => ?_)
            refine aw_cS_v (st := []) [.ref x24, .int x26, .int x28, .int x30] wS_RX8_100 (fun hr er => c_X8_layDoor g h23 x24 x26 x28 x30 hr er) dX8_takesDoor_82 rfl rfl (Nat.le_of_ble_eq_true rfl) (Nat.le_of_ble_eq_true rfl) (Nat.le_of_ble_eq_true rfl) (Nat.le_of_ble_eq_true rfl) hf (fun h31 hf => ?_)
            refine aw_iconst (v := 1) dX8_takesDoor_85 rfl ?_
            obtain ⟨rfl, rfl⟩ := so2 hf
            exact aw_zret dX8_takesDoor_86 rfl rfl rfl
          · have hf := itp0 hc hf
            refine aw_iconst (v := 0) dX8_takesDoor_58 rfl ?_
            obtain ⟨rfl, rfl⟩ := so2 hf
            exact aw_zret dX8_takesDoor_59 rfl rfl rfl
set_option maxRecDepth 100000 in
set_option maxHeartbeats 4000000 in
theorem l_X8_takesList_6 (g : Gx) : ∀ (n : Nat) (h : Hea) (y0 : Nat) (y1 : Int32) (o : Int32) (ho : Hea) (hf : f_X8_takesList_6 n h y0 y1 = some (o, ho)), AW g RX8 cX8_takesList (2, some .boolean, "takesList", 5, 0, 0) (some (.int o), ho) 6 [(0, .ref y0), (1, .int y1)] [] h 0 0 := by
  intro n
  induction n with
  | zero =>
    intro h y0 y1 o ho hf
    rw [f_X8_takesList_6] at hf
    cases hf
  | succ n ih =>
    intro h y0 y1 o ho hf
    rw [f_X8_takesList_6] at hf
    refine aw_iload_n 1 dX8_takesList_6 rfl ?_
    refine aw_if_eq (tgt := 18) dX8_takesList_7 rfl (fun hc => ?_) (fun hc => ?_)
    · have hf := itp0 hc hf
      refine aw_iload_n 1 dX8_takesList_18 rfl ?_
      refine aw_bipush (v := 12) dX8_takesList_19 rfl ?_
      refine aw_icmp_eq (tgt := 35) dX8_takesList_21 rfl (fun hc => ?_) (fun hc => ?_)
      · have hf := itp0 hc hf
        refine aw_iconst (v := 0) dX8_takesList_35 rfl ?_
        obtain ⟨rfl, rfl⟩ := so2 hf
        exact aw_zret dX8_takesList_36 rfl rfl rfl
      · have hf := itn0 hc hf
        refine aw_aload_n 0 dX8_takesList_24 rfl ?_
        refine aw_iconst (v := 0) dX8_takesList_25 rfl ?_
        refine aw_iconst (v := 0) dX8_takesList_26 rfl ?_
        refine aw_bipush (v := 7) dX8_takesList_27 rfl ?_
        refine aw_cV_wi (st := []) [.int 0, .int 0, .int 7] wV_RX8_264 (ci := 8) rfl (fun xr hr er => c_X8_takes g h y0 0 0 7 xr hr er) dX8_takesList_29 rfl rfl (Nat.le_of_ble_eq_true rfl) (Nat.le_of_ble_eq_true rfl) (Nat.le_of_ble_eq_true rfl) (Nat.le_of_ble_eq_true rfl) hf (fun x1 h2 hf => ?_)
        refine aw_if_ne (tgt := 37) dX8_takesList_32 rfl (fun hc => ?_) (fun hc => ?_)
        · have hf := itn0 hc hf
          refine aw_aload_n 0 dX8_takesList_37 rfl ?_
          refine aw_gR fl_RX8_64 dX8_takesList_38 hf (fun x3 hf => ?_)
          refine aw_bipush (v := 79) dX8_takesList_41 rfl ?_
          refine aw_iload_n 1 dX8_takesList_43 rfl ?_
          refine aw_iadd dX8_takesList_44 ?_
          refine aw_aload_n 0 dX8_takesList_45 rfl ?_
          refine aw_gR fl_RX8_67 dX8_takesList_46 hf (fun x4 hf => ?_)
          refine aw_iconst (v := 0) dX8_takesList_49 rfl ?_
          refine aw_ldI dX8_takesList_50 hf (fun x5 hf => ?_)
          refine aw_stI dX8_takesList_51 hf (fun h6 hf => ?_)
          refine aw_iinc (y1 + 1) [(1, .int (y1 + 1)), (0, .ref y0)] 1 dX8_takesList_52 rfl rfl (Nat.le_of_ble_eq_true rfl) rfl ?_
          refine aw_goto (tgt := 6) dX8_takesList_55 rfl ?_
          refine aw_pick [1, 0] rfl ?_
          exact ih h6 y0 (y1 + 1) o ho hf
        · have hf := itp0 hc hf
          refine aw_iconst (v := 0) dX8_takesList_35 rfl ?_
          obtain ⟨rfl, rfl⟩ := so2 hf
          exact aw_zret dX8_takesList_36 rfl rfl rfl
    · have hf := itn0 hc hf
      refine aw_aload_n 0 dX8_takesList_10 rfl ?_
      refine aw_gI fl_RX8_242 dX8_takesList_11 hf (fun x7 hf => ?_)
      refine aw_iconst (v := 2) dX8_takesList_14 rfl ?_
      refine aw_icmp_ne (tgt := 58) dX8_takesList_15 rfl (fun hc => ?_) (fun hc => ?_)
      · have hf := itn0 hc hf
        refine aw_aload_n 0 dX8_takesList_58 rfl ?_
        refine aw_gR fl_RX8_64 dX8_takesList_59 hf (fun x8 hf => ?_)
        refine aw_iconst (v := 4) dX8_takesList_62 rfl ?_
        refine aw_iload_n 1 dX8_takesList_63 rfl ?_
        refine aw_stI dX8_takesList_64 hf (fun h9 hf => ?_)
        refine aw_iconst (v := 1) dX8_takesList_65 rfl ?_
        obtain ⟨rfl, rfl⟩ := so2 hf
        exact aw_zret dX8_takesList_66 rfl rfl rfl
      · have hf := itp0 hc hf
        refine aw_iload_n 1 dX8_takesList_18 rfl ?_
        refine aw_bipush (v := 12) dX8_takesList_19 rfl ?_
        refine aw_icmp_eq (tgt := 35) dX8_takesList_21 rfl (fun hc => ?_) (fun hc => ?_)
        · have hf := itp0 hc hf
          refine aw_iconst (v := 0) dX8_takesList_35 rfl ?_
          obtain ⟨rfl, rfl⟩ := so2 hf
          exact aw_zret dX8_takesList_36 rfl rfl rfl
        · have hf := itn0 hc hf
          refine aw_aload_n 0 dX8_takesList_24 rfl ?_
          refine aw_iconst (v := 0) dX8_takesList_25 rfl ?_
          refine aw_iconst (v := 0) dX8_takesList_26 rfl ?_
          refine aw_bipush (v := 7) dX8_takesList_27 rfl ?_
          refine aw_cV_wi (st := []) [.int 0, .int 0, .int 7] wV_RX8_264 (ci := 8) rfl (fun xr hr er => c_X8_takes g h y0 0 0 7 xr hr er) dX8_takesList_29 rfl rfl (Nat.le_of_ble_eq_true rfl) (Nat.le_of_ble_eq_true rfl) (Nat.le_of_ble_eq_true rfl) (Nat.le_of_ble_eq_true rfl) hf (fun x10 h11 hf => ?_)
          refine aw_if_ne (tgt := 37) dX8_takesList_32 rfl (fun hc => ?_) (fun hc => ?_)
          · have hf := itn0 hc hf
            refine aw_aload_n 0 dX8_takesList_37 rfl ?_
            refine aw_gR fl_RX8_64 dX8_takesList_38 hf (fun x12 hf => ?_)
            refine aw_bipush (v := 79) dX8_takesList_41 rfl ?_
            refine aw_iload_n 1 dX8_takesList_43 rfl ?_
            refine aw_iadd dX8_takesList_44 ?_
            refine aw_aload_n 0 dX8_takesList_45 rfl ?_
            refine aw_gR fl_RX8_67 dX8_takesList_46 hf (fun x13 hf => ?_)
            refine aw_iconst (v := 0) dX8_takesList_49 rfl ?_
            refine aw_ldI dX8_takesList_50 hf (fun x14 hf => ?_)
            refine aw_stI dX8_takesList_51 hf (fun h15 hf => ?_)
            refine aw_iinc (y1 + 1) [(1, .int (y1 + 1)), (0, .ref y0)] 1 dX8_takesList_52 rfl rfl (Nat.le_of_ble_eq_true rfl) rfl ?_
            refine aw_goto (tgt := 6) dX8_takesList_55 rfl ?_
            refine aw_pick [1, 0] rfl ?_
            exact ih h15 y0 (y1 + 1) o ho hf
          · have hf := itp0 hc hf
            refine aw_iconst (v := 0) dX8_takesList_35 rfl ?_
            obtain ⟨rfl, rfl⟩ := so2 hf
            exact aw_zret dX8_takesList_36 rfl rfl rfl
set_option maxRecDepth 100000 in
set_option maxHeartbeats 4000000 in
theorem c_X8_takesList (g : Gx) (h : Hea) (a0 : Nat) (o : Int32) (hz : Hea) (hf : f_X8_takesList h a0 = some (o, hz)) : MC g yX8_takesList cX8_takesList 2 (some .boolean) 5 0 0 [.ref a0] h (some (.int o), hz) := by
  refine MC_of (own := RX8) (nm := "takesList") [(0, .ref a0)] rfl rfl pn_RX8 (Nat.le_of_ble_eq_true rfl) rfl ?_
  rw [f_X8_takesList] at hf
  refine aw_aload_n 0 dX8_takesList_0 rfl ?_
  refine aw_cV_v (st := []) [] wV_RX8_257 (ci := 8) rfl (fun hr er => c_X8_goBehind g h a0 hr er) dX8_takesList_1 rfl rfl (Nat.le_of_ble_eq_true rfl) (Nat.le_of_ble_eq_true rfl) (Nat.le_of_ble_eq_true rfl) (Nat.le_of_ble_eq_true rfl) hf (fun h1 hf => ?_)
  refine aw_iconst (v := 0) dX8_takesList_4 rfl ?_
  refine aw_istore_n [(1, .int 0), (0, .ref a0)] dX8_takesList_5 (Nat.le_of_ble_eq_true rfl) rfl ?_
  refine aw_pick [1, 0] rfl ?_
  exact l_X8_takesList_6 g lots h1 a0 0 _ _ hf
set_option maxRecDepth 100000 in
set_option maxHeartbeats 4000000 in
theorem c_X8_takesHeir (g : Gx) (h : Hea) (a0 : Nat) (o : Int32) (hz : Hea) (hf : f_X8_takesHeir h a0 = some (o, hz)) : MC g yX8_takesHeir cX8_takesHeir 1 (some .boolean) 5 0 0 [.ref a0] h (some (.int o), hz) := by
  refine MC_of (own := RX8) (nm := "takesHeir") [(0, .ref a0)] rfl rfl pn_RX8 (Nat.le_of_ble_eq_true rfl) rfl ?_
  rw [f_X8_takesHeir] at hf
  refine aw_aload_n 0 dX8_takesHeir_0 rfl ?_
  refine aw_gR fl_RX8_64 dX8_takesHeir_1 hf (fun x1 hf => ?_)
  refine aw_iconst (v := 0) dX8_takesHeir_4 rfl ?_
  refine aw_ldI dX8_takesHeir_5 hf (fun x2 hf => ?_)
  refine aw_bipush (v := 6) dX8_takesHeir_6 rfl ?_
  refine aw_icmp_ne (tgt := 13) dX8_takesHeir_8 rfl (fun hc => ?_) (fun hc => ?_)
  · have hf := itn0 hc hf
    refine aw_aload_n 0 dX8_takesHeir_13 rfl ?_
    refine aw_cV_v (st := []) [] wV_RX8_257 (ci := 8) rfl (fun hr er => c_X8_goBehind g h a0 hr er) dX8_takesHeir_14 rfl rfl (Nat.le_of_ble_eq_true rfl) (Nat.le_of_ble_eq_true rfl) (Nat.le_of_ble_eq_true rfl) (Nat.le_of_ble_eq_true rfl) hf (fun h3 hf => ?_)
    refine aw_aload_n 0 dX8_takesHeir_17 rfl ?_
    refine aw_iconst (v := 0) dX8_takesHeir_18 rfl ?_
    refine aw_iconst (v := 0) dX8_takesHeir_19 rfl ?_
    refine aw_iconst (v := 5) dX8_takesHeir_20 rfl ?_
    refine aw_cV_wi (st := []) [.int 0, .int 0, .int 5] wV_RX8_264 (ci := 8) rfl (fun xr hr er => c_X8_takes g h3 a0 0 0 5 xr hr er) dX8_takesHeir_21 rfl rfl (Nat.le_of_ble_eq_true rfl) (Nat.le_of_ble_eq_true rfl) (Nat.le_of_ble_eq_true rfl) (Nat.le_of_ble_eq_true rfl) hf (fun x4 h5 hf => ?_)
    refine aw_if_eq (tgt := 49) dX8_takesHeir_24 rfl (fun hc => ?_) (fun hc => ?_)
    · have hf := itp0 hc hf
      refine aw_iconst (v := 0) dX8_takesHeir_49 rfl ?_
      obtain ⟨rfl, rfl⟩ := so2 hf
      exact aw_zret dX8_takesHeir_50 rfl rfl rfl
    · have hf := itn0 hc hf
      refine aw_aload_n 0 dX8_takesHeir_27 rfl ?_
      refine aw_iconst (v := 1) dX8_takesHeir_28 rfl ?_
      refine aw_iconst (v := 0) dX8_takesHeir_29 rfl ?_
      refine aw_bipush (v := 7) dX8_takesHeir_30 rfl ?_
      refine aw_cV_wi (st := []) [.int 1, .int 0, .int 7] wV_RX8_264 (ci := 8) rfl (fun xr hr er => c_X8_takes g h5 a0 1 0 7 xr hr er) dX8_takesHeir_32 rfl rfl (Nat.le_of_ble_eq_true rfl) (Nat.le_of_ble_eq_true rfl) (Nat.le_of_ble_eq_true rfl) (Nat.le_of_ble_eq_true rfl) hf (fun x6 h7 hf => ?_)
      refine aw_if_eq (tgt := 49) dX8_takesHeir_35 rfl (fun hc => ?_) (fun hc => ?_)
      · have hf := itp0 hc hf
        refine aw_iconst (v := 0) dX8_takesHeir_49 rfl ?_
        obtain ⟨rfl, rfl⟩ := so2 hf
        exact aw_zret dX8_takesHeir_50 rfl rfl rfl
      · have hf := itn0 hc hf
        refine aw_aload_n 0 dX8_takesHeir_38 rfl ?_
        refine aw_iconst (v := 2) dX8_takesHeir_39 rfl ?_
        refine aw_iconst (v := 0) dX8_takesHeir_40 rfl ?_
        refine aw_bipush (v := 9) dX8_takesHeir_41 rfl ?_
        refine aw_cV_wi (st := []) [.int 2, .int 0, .int 9] wV_RX8_264 (ci := 8) rfl (fun xr hr er => c_X8_takes g h7 a0 2 0 9 xr hr er) dX8_takesHeir_43 rfl rfl (Nat.le_of_ble_eq_true rfl) (Nat.le_of_ble_eq_true rfl) (Nat.le_of_ble_eq_true rfl) (Nat.le_of_ble_eq_true rfl) hf (fun x8 h9 hf => ?_)
        refine aw_if_ne (tgt := 51) dX8_takesHeir_46 rfl (fun hc => ?_) (fun hc => ?_)
        · have hf := itn0 hc hf
          refine aw_aload_n 0 dX8_takesHeir_51 rfl ?_
          refine aw_gR fl_RX8_64 dX8_takesHeir_52 hf (fun x10 hf => ?_)
          refine aw_aload_n 0 dX8_takesHeir_55 rfl ?_
          refine aw_gR fl_RX8_67 dX8_takesHeir_56 hf (fun x11 hf => ?_)
          refine aw_iconst (v := 0) dX8_takesHeir_59 rfl ?_
          refine aw_ldI dX8_takesHeir_60 hf (fun x12 hf => ?_)
          refine aw_aload_n 0 dX8_takesHeir_61 rfl ?_
          refine aw_gR fl_RX8_67 dX8_takesHeir_62 hf (fun x13 hf => ?_)
          refine aw_iconst (v := 1) dX8_takesHeir_65 rfl ?_
          refine aw_ldI dX8_takesHeir_66 hf (fun x14 hf => ?_)
          refine aw_aload_n 0 dX8_takesHeir_67 rfl ?_
          refine aw_gR fl_RX8_67 dX8_takesHeir_68 hf (fun x15 hf => ?_)
          refine aw_iconst (v := 2) dX8_takesHeir_71 rfl ?_
          refine aw_ldI dX8_takesHeir_72 hf (fun x16 hf => ?_)
          refine aw_cS_v (st := []) [.ref x10, .int x12, .int x14, .int x16] wS_RX8_109 (fun hr er => c_X8_layHeir g h9 x10 x12 x14 x16 hr er) dX8_takesHeir_73 rfl rfl (Nat.le_of_ble_eq_true rfl) (Nat.le_of_ble_eq_true rfl) (Nat.le_of_ble_eq_true rfl) (Nat.le_of_ble_eq_true rfl) hf (fun h17 hf => ?_)
          refine aw_iconst (v := 1) dX8_takesHeir_76 rfl ?_
          obtain ⟨rfl, rfl⟩ := so2 hf
          exact aw_zret dX8_takesHeir_77 rfl rfl rfl
        · have hf := itp0 hc hf
          refine aw_iconst (v := 0) dX8_takesHeir_49 rfl ?_
          obtain ⟨rfl, rfl⟩ := so2 hf
          exact aw_zret dX8_takesHeir_50 rfl rfl rfl
  · have hf := itp0 hc hf
    refine aw_iconst (v := 0) dX8_takesHeir_11 rfl ?_
    obtain ⟨rfl, rfl⟩ := so2 hf
    exact aw_zret dX8_takesHeir_12 rfl rfl rfl
set_option maxRecDepth 100000 in
set_option maxHeartbeats 4000000 in
theorem c_X8_takesItem (g : Gx) (h : Hea) (a0 : Nat) (o : Int32) (hz : Hea) (hf : f_X8_takesItem h a0 = some (o, hz)) : MC g yX8_takesItem cX8_takesItem 1 (some .boolean) 6 0 0 [.ref a0] h (some (.int o), hz) := by
  refine MC_of (own := RX8) (nm := "takesItem") [(0, .ref a0)] rfl rfl pn_RX8 (Nat.le_of_ble_eq_true rfl) rfl ?_
  rw [f_X8_takesItem] at hf
  refine aw_aload_n 0 dX8_takesItem_0 rfl ?_
  refine aw_iconst (v := 4) dX8_takesItem_1 rfl ?_
  refine aw_bipush (v := 114) dX8_takesItem_2 rfl ?_
  refine aw_bipush (v := 111) dX8_takesItem_4 rfl ?_
  refine aw_bipush (v := 111) dX8_takesItem_6 rfl ?_
  refine aw_bipush (v := 109) dX8_takesItem_8 rfl ?_
  refine aw_iconst (v := 0) dX8_takesItem_10 rfl ?_
  refine aw_cV_i (st := []) [.int 4, .int 114, .int 111, .int 111, .int 109, .int 0] wV_RX8_260 (ci := 8) rfl (fun xr er => c_X8_isWord g h a0 4 114 111 111 109 0 xr er) dX8_takesItem_11 rfl rfl (Nat.le_of_ble_eq_true rfl) (Nat.le_of_ble_eq_true rfl) (Nat.le_of_ble_eq_true rfl) (Nat.le_of_ble_eq_true rfl) hf (fun x1 hf => ?_)
  refine aw_if_eq (tgt := 22) dX8_takesItem_14 rfl (fun hc => ?_) (fun hc => ?_)
  · have hf := itp0 hc hf
    refine aw_aload_n 0 dX8_takesItem_22 rfl ?_
    refine aw_iconst (v := 4) dX8_takesItem_23 rfl ?_
    refine aw_bipush (v := 100) dX8_takesItem_24 rfl ?_
    refine aw_bipush (v := 111) dX8_takesItem_26 rfl ?_
    refine aw_bipush (v := 111) dX8_takesItem_28 rfl ?_
    refine aw_bipush (v := 114) dX8_takesItem_30 rfl ?_
    refine aw_iconst (v := 0) dX8_takesItem_32 rfl ?_
    refine aw_cV_i (st := []) [.int 4, .int 100, .int 111, .int 111, .int 114, .int 0] wV_RX8_260 (ci := 8) rfl (fun xr er => c_X8_isWord g h a0 4 100 111 111 114 0 xr er) dX8_takesItem_33 rfl rfl (Nat.le_of_ble_eq_true rfl) (Nat.le_of_ble_eq_true rfl) (Nat.le_of_ble_eq_true rfl) (Nat.le_of_ble_eq_true rfl) hf (fun x2 hf => ?_)
    refine aw_if_eq (tgt := 44) dX8_takesItem_36 rfl (fun hc => ?_) (fun hc => ?_)
    · have hf := itp0 hc hf
      refine aw_aload_n 0 dX8_takesItem_44 rfl ?_
      refine aw_iconst (v := 4) dX8_takesItem_45 rfl ?_
      refine aw_bipush (v := 108) dX8_takesItem_46 rfl ?_
      refine aw_bipush (v := 105) dX8_takesItem_48 rfl ?_
      refine aw_bipush (v := 115) dX8_takesItem_50 rfl ?_
      refine aw_bipush (v := 116) dX8_takesItem_52 rfl ?_
      refine aw_iconst (v := 0) dX8_takesItem_54 rfl ?_
      refine aw_cV_i (st := []) [.int 4, .int 108, .int 105, .int 115, .int 116, .int 0] wV_RX8_260 (ci := 8) rfl (fun xr er => c_X8_isWord g h a0 4 108 105 115 116 0 xr er) dX8_takesItem_55 rfl rfl (Nat.le_of_ble_eq_true rfl) (Nat.le_of_ble_eq_true rfl) (Nat.le_of_ble_eq_true rfl) (Nat.le_of_ble_eq_true rfl) hf (fun x3 hf => ?_)
      refine aw_if_eq (tgt := 66) dX8_takesItem_58 rfl (fun hc => ?_) (fun hc => ?_)
      · have hf := itp0 hc hf
        refine aw_aload_n 0 dX8_takesItem_66 rfl ?_
        refine aw_iconst (v := 4) dX8_takesItem_67 rfl ?_
        refine aw_bipush (v := 104) dX8_takesItem_68 rfl ?_
        refine aw_bipush (v := 101) dX8_takesItem_70 rfl ?_
        refine aw_bipush (v := 105) dX8_takesItem_72 rfl ?_
        refine aw_bipush (v := 114) dX8_takesItem_74 rfl ?_
        refine aw_iconst (v := 0) dX8_takesItem_76 rfl ?_
        refine aw_cV_i (st := []) [.int 4, .int 104, .int 101, .int 105, .int 114, .int 0] wV_RX8_260 (ci := 8) rfl (fun xr er => c_X8_isWord g h a0 4 104 101 105 114 0 xr er) dX8_takesItem_77 rfl rfl (Nat.le_of_ble_eq_true rfl) (Nat.le_of_ble_eq_true rfl) (Nat.le_of_ble_eq_true rfl) (Nat.le_of_ble_eq_true rfl) hf (fun x4 hf => ?_)
        refine reg2 (fun (v5 : Int32) (h6 : Hea) => AW g RX8 cX8_takesItem (1, some .boolean, "takesItem", 6, 0, 0) (some (.int o), hz) 95 [] [.int v5] h6 0 0) hf (fun v5 h6 hf => ?_) (fun v5 h6 hf hJ95 => ?_)
        · exact aw_zretw dX8_takesItem_95 rfl hf rfl
        · refine aw_if_eq (tgt := 94) dX8_takesItem_80 rfl (fun hc => ?_) (fun hc => ?_)
          · have hf := itp0 hc hf
            refine aw_iconst (v := 0) dX8_takesItem_94 rfl ?_
            obtain ⟨rfl, rfl⟩ := so2 hf
            exact aw_pick [] rfl hJ95
          · have hf := itn0 hc hf
            refine aw_aload_n 0 dX8_takesItem_83 rfl ?_
            refine aw_cV_wi (st := []) [] wV_RX8_278 (ci := 8) rfl (fun xr hr er => c_X8_takesHeir g h a0 xr hr er) dX8_takesItem_84 rfl rfl (Nat.le_of_ble_eq_true rfl) (Nat.le_of_ble_eq_true rfl) (Nat.le_of_ble_eq_true rfl) (Nat.le_of_ble_eq_true rfl) hf (fun x7 h8 hf => ?_)
            refine aw_if_eq (tgt := 94) dX8_takesItem_87 rfl (fun hc => ?_) (fun hc => ?_)
            · have hf := itp0 hc hf
              refine aw_iconst (v := 0) dX8_takesItem_94 rfl ?_
              obtain ⟨rfl, rfl⟩ := so2 hf
              exact aw_pick [] rfl hJ95
            · have hf := itn0 hc hf
              refine aw_iconst (v := 1) dX8_takesItem_90 rfl ?_
              refine aw_goto (tgt := 95) dX8_takesItem_91 rfl ?_
              obtain ⟨rfl, rfl⟩ := so2 hf
              exact aw_pick [] rfl hJ95
      · have hf := itn0 hc hf
        refine aw_aload_n 0 dX8_takesItem_61 rfl ?_
        refine aw_cV_wi (st := []) [] wV_RX8_275 (ci := 8) rfl (fun xr hr er => c_X8_takesList g h a0 xr hr er) dX8_takesItem_62 rfl rfl (Nat.le_of_ble_eq_true rfl) (Nat.le_of_ble_eq_true rfl) (Nat.le_of_ble_eq_true rfl) (Nat.le_of_ble_eq_true rfl) hf (fun x9 h10 hf => ?_)
        exact aw_zretw dX8_takesItem_65 rfl hf rfl
    · have hf := itn0 hc hf
      refine aw_aload_n 0 dX8_takesItem_39 rfl ?_
      refine aw_cV_wi (st := []) [] wV_RX8_272 (ci := 8) rfl (fun xr hr er => c_X8_takesDoor g h a0 xr hr er) dX8_takesItem_40 rfl rfl (Nat.le_of_ble_eq_true rfl) (Nat.le_of_ble_eq_true rfl) (Nat.le_of_ble_eq_true rfl) (Nat.le_of_ble_eq_true rfl) hf (fun x11 h12 hf => ?_)
      exact aw_zretw dX8_takesItem_43 rfl hf rfl
  · have hf := itn0 hc hf
    refine aw_aload_n 0 dX8_takesItem_17 rfl ?_
    refine aw_cV_wi (st := []) [] wV_RX8_268 (ci := 8) rfl (fun xr hr er => c_X8_takesRoom g h a0 xr hr er) dX8_takesItem_18 rfl rfl (Nat.le_of_ble_eq_true rfl) (Nat.le_of_ble_eq_true rfl) (Nat.le_of_ble_eq_true rfl) (Nat.le_of_ble_eq_true rfl) hf (fun x13 h14 hf => ?_)
    exact aw_zretw dX8_takesItem_21 rfl hf rfl
set_option maxRecDepth 100000 in
set_option maxHeartbeats 4000000 in
theorem l_X8_read_68 (g : Gx) {res : Option Value × Hea} : ∀ (n : Nat) (h : Hea) (y0 : Nat) (y1 : Int32) (y2 : Int32) (ho : Hea) (hf : f_X8_read_68 n h y0 y2 = some ho) (kk : AW g RX8 cX8_read (3, some .int, "read", 7, 0, 0) res 93 [(1, .int y1)] [] ho 0 0), AW g RX8 cX8_read (3, some .int, "read", 7, 0, 0) res 68 [(0, .ref y0), (1, .int y1), (2, .int y2)] [] h 0 0 := by
  intro n
  induction n with
  | zero =>
    intro h y0 y1 y2 ho hf kk
    rw [f_X8_read_68] at hf
    cases hf
  | succ n ih =>
    intro h y0 y1 y2 ho hf kk
    rw [f_X8_read_68] at hf
    refine aw_iload_n 2 dX8_read_68 rfl ?_
    refine aw_sipush (v := 151) dX8_read_69 rfl ?_
    refine aw_icmp_ge (tgt := 93) dX8_read_72 rfl (fun hc => ?_) (fun hc => ?_)
    · have hf := itp0 hc hf
      obtain rfl := so1 hf
      exact aw_pick [1] rfl kk
    · have hf := itn0 hc hf
      refine aw_aload_n 0 dX8_read_75 rfl ?_
      refine aw_gR fl_RX8_7 dX8_read_76 hf (fun x1 hf => ?_)
      refine aw_iload_n 2 dX8_read_79 rfl ?_
      refine aw_aload_n 0 dX8_read_80 rfl ?_
      refine aw_gR fl_RX8_64 dX8_read_81 hf (fun x2 hf => ?_)
      refine aw_iload_n 2 dX8_read_84 rfl ?_
      refine aw_ldI dX8_read_85 hf (fun x3 hf => ?_)
      refine aw_stI dX8_read_86 hf (fun h4 hf => ?_)
      refine aw_iinc (y2 + 1) [(2, .int (y2 + 1)), (0, .ref y0), (1, .int y1)] 2 dX8_read_87 rfl rfl (Nat.le_of_ble_eq_true rfl) rfl ?_
      refine aw_goto (tgt := 68) dX8_read_90 rfl ?_
      refine aw_pick [1, 2, 0] rfl ?_
      exact ih h4 y0 y1 (y2 + 1) ho hf kk
set_option maxRecDepth 100000 in
set_option maxHeartbeats 4000000 in
theorem l_X8_read_26 (g : Gx) : ∀ (n : Nat) (h : Hea) (y0 : Nat) (y1 : Int32) (o : Int32) (ho : Hea) (hf : f_X8_read_26 n h y0 y1 = some (o, ho)), AW g RX8 cX8_read (3, some .int, "read", 7, 0, 0) (some (.int o), ho) 26 [(0, .ref y0), (1, .int y1)] [] h 0 0 := by
  intro n
  induction n with
  | zero =>
    intro h y0 y1 o ho hf
    rw [f_X8_read_26] at hf
    cases hf
  | succ n ih =>
    intro h y0 y1 o ho hf
    rw [f_X8_read_26] at hf
    refine aw_aload_n 0 dX8_read_26 rfl ?_
    refine aw_gI fl_RX8_242 dX8_read_27 hf (fun x1 hf => ?_)
    refine aw_if_eq (tgt := 66) dX8_read_30 rfl (fun hc => ?_) (fun hc => ?_)
    · have hf := itp0 hc hf
      refine aw_iconst (v := 0) dX8_read_66 rfl ?_
      refine aw_istore_n [(2, .int 0), (0, .ref y0), (1, .int y1)] dX8_read_67 (Nat.le_of_ble_eq_true rfl) rfl ?_
      refine aw_pick [1, 2, 0] rfl ?_
      refine reg1 (fun (h2 : Hea) => AW g RX8 cX8_read (3, some .int, "read", 7, 0, 0) (some (.int o), ho) 93 [(1, .int y1)] [] h2 0 0) hf (fun h2 hf => ?_) (fun h2 hf hJ => l_X8_read_68 g  lots h y0 y1 0 h2 hf hJ)
      refine aw_iload_n 0 dX8_read_93 rfl ?_
      obtain ⟨rfl, rfl⟩ := so2 hf
      exact aw_iret dX8_read_94 rfl rfl
    · have hf := itn0 hc hf
      refine aw_aload_n 0 dX8_read_33 rfl ?_
      refine aw_cV_wi (st := []) [] wV_RX8_284 (ci := 8) rfl (fun xr hr er => c_X8_takesItem g h y0 xr hr er) dX8_read_34 rfl rfl (Nat.le_of_ble_eq_true rfl) (Nat.le_of_ble_eq_true rfl) (Nat.le_of_ble_eq_true rfl) (Nat.le_of_ble_eq_true rfl) hf (fun x3 h4 hf => ?_)
      refine aw_if_eq (tgt := 48) dX8_read_37 rfl (fun hc => ?_) (fun hc => ?_)
      · have hf := itp0 hc hf
        refine aw_bipush (v := (-10)) dX8_read_48 rfl ?_
        refine aw_aload_n 0 dX8_read_50 rfl ?_
        refine aw_gI fl_RX8_236 dX8_read_51 hf (fun x5 hf => ?_)
        refine aw_isub dX8_read_54 ?_
        obtain ⟨rfl, rfl⟩ := so2 hf
        exact aw_iret dX8_read_55 rfl rfl
      · have hf := itn0 hc hf
        refine aw_aload_n 0 dX8_read_40 rfl ?_
        refine aw_gI fl_RX8_242 dX8_read_41 hf (fun x6 hf => ?_)
        refine aw_iconst (v := 3) dX8_read_44 rfl ?_
        refine aw_icmp_eq (tgt := 56) dX8_read_45 rfl (fun hc => ?_) (fun hc => ?_)
        · have hf := itp0 hc hf
          refine aw_aload_n 0 dX8_read_56 rfl ?_
          refine aw_cV_v (st := []) [] wV_RX8_257 (ci := 8) rfl (fun hr er => c_X8_goBehind g h4 y0 hr er) dX8_read_57 rfl rfl (Nat.le_of_ble_eq_true rfl) (Nat.le_of_ble_eq_true rfl) (Nat.le_of_ble_eq_true rfl) (Nat.le_of_ble_eq_true rfl) hf (fun h7 hf => ?_)
          refine aw_iinc (y1 + 1) [(1, .int (y1 + 1)), (0, .ref y0)] 1 dX8_read_60 rfl rfl (Nat.le_of_ble_eq_true rfl) rfl ?_
          refine aw_goto (tgt := 26) dX8_read_63 rfl ?_
          refine aw_pick [1, 0] rfl ?_
          exact ih h7 y0 (y1 + 1) o ho hf
        · have hf := itn0 hc hf
          refine aw_bipush (v := (-10)) dX8_read_48 rfl ?_
          refine aw_aload_n 0 dX8_read_50 rfl ?_
          refine aw_gI fl_RX8_236 dX8_read_51 hf (fun x8 hf => ?_)
          refine aw_isub dX8_read_54 ?_
          obtain ⟨rfl, rfl⟩ := so2 hf
          exact aw_iret dX8_read_55 rfl rfl
set_option maxRecDepth 100000 in
set_option maxHeartbeats 4000000 in
theorem c_X8_read (g : Gx) (h : Hea) (a0 : Nat) (o : Int32) (hz : Hea) (hf : f_X8_read h a0 = some (o, hz)) : MC g yX8_read cX8_read 3 (some .int) 7 0 0 [.ref a0] h (some (.int o), hz) := by
  refine MC_of (own := RX8) (nm := "read") [(0, .ref a0)] rfl rfl pn_RX8 (Nat.le_of_ble_eq_true rfl) rfl ?_
  rw [f_X8_read] at hf
  refine aw_aload_n 0 dX8_read_0 rfl ?_
  refine aw_iconst (v := 0) dX8_read_1 rfl ?_
  refine aw_cV_v (st := []) [.int 0] wV_RX8_254 (ci := 8) rfl (fun hr er => c_X8_lookAt g h a0 0 hr er) dX8_read_2 rfl rfl (Nat.le_of_ble_eq_true rfl) (Nat.le_of_ble_eq_true rfl) (Nat.le_of_ble_eq_true rfl) (Nat.le_of_ble_eq_true rfl) hf (fun h1 hf => ?_)
  refine aw_aload_n 0 dX8_read_5 rfl ?_
  refine aw_cV_wi (st := []) [] wV_RX8_281 (ci := 8) rfl (fun xr hr er => c_X8_takesFirst g h1 a0 xr hr er) dX8_read_6 rfl rfl (Nat.le_of_ble_eq_true rfl) (Nat.le_of_ble_eq_true rfl) (Nat.le_of_ble_eq_true rfl) (Nat.le_of_ble_eq_true rfl) hf (fun x2 h3 hf => ?_)
  refine aw_if_ne (tgt := 20) dX8_read_9 rfl (fun hc => ?_) (fun hc => ?_)
  · have hf := itn0 hc hf
    refine aw_aload_n 0 dX8_read_20 rfl ?_
    refine aw_cV_v (st := []) [] wV_RX8_257 (ci := 8) rfl (fun hr er => c_X8_goBehind g h3 a0 hr er) dX8_read_21 rfl rfl (Nat.le_of_ble_eq_true rfl) (Nat.le_of_ble_eq_true rfl) (Nat.le_of_ble_eq_true rfl) (Nat.le_of_ble_eq_true rfl) hf (fun h4 hf => ?_)
    refine aw_iconst (v := 1) dX8_read_24 rfl ?_
    refine aw_istore_n [(1, .int 1), (0, .ref a0)] dX8_read_25 (Nat.le_of_ble_eq_true rfl) rfl ?_
    refine aw_pick [1, 0] rfl ?_
    exact l_X8_read_26 g lots h4 a0 1 _ _ hf
  · have hf := itp0 hc hf
    refine aw_bipush (v := (-10)) dX8_read_12 rfl ?_
    refine aw_aload_n 0 dX8_read_14 rfl ?_
    refine aw_gI fl_RX8_236 dX8_read_15 hf (fun x5 hf => ?_)
    refine aw_isub dX8_read_18 ?_
    obtain ⟨rfl, rfl⟩ := so2 hf
    exact aw_iret dX8_read_19 rfl rfl
set_option maxRecDepth 100000 in
set_option maxHeartbeats 4000000 in
theorem c_X8_part (g : Gx) (h : Hea) (a0 : Nat) (a1 : Int32) (o : Int64) (hz : Hea) (hf : f_X8_part h a0 a1 = some (o, hz)) : MC g yX8_part cX8_part 2 (some .long) 1 0 0 [.ref a0, .int a1] h (some (.long o), hz) := by
  refine MC_of (own := RX8) (nm := "part") [(0, .ref a0), (1, .int a1)] rfl rfl pn_RX8 (Nat.le_of_ble_eq_true rfl) rfl ?_
  rw [f_X8_part] at hf
  refine aw_iload_n 1 dX8_part_0 rfl ?_
  refine reg2 (fun (v1 : Int64) (h2 : Hea) => AW g RX8 cX8_part (2, some .long, "part", 1, 0, 0) (some (.long o), hz) 30 [] [.long v1] h2 0 0) hf (fun v1 h2 hf => ?_) (fun v1 h2 hf hJ30 => ?_)
  · obtain ⟨rfl, rfl⟩ := so2 hf
    exact aw_lret dX8_part_30 rfl rfl
  · refine aw_if_ne (tgt := 11) dX8_part_1 rfl (fun hc => ?_) (fun hc => ?_)
    · have hf := itn0 hc hf
      refine aw_iload_n 1 dX8_part_11 rfl ?_
      refine aw_iconst (v := 1) dX8_part_12 rfl ?_
      refine aw_icmp_ne (tgt := 23) dX8_part_13 rfl (fun hc => ?_) (fun hc => ?_)
      · have hf := itn0 hc hf
        refine aw_aload_n 0 dX8_part_23 rfl ?_
        refine aw_bipush (v := (-2)) dX8_part_24 rfl ?_
        refine aw_cV_wi (st := []) [.int (-2)] wV_RX8_86 (ci := 8) rfl (fun xr hr er => c_X8_bad g h a0 (-2) xr hr er) dX8_part_26 rfl rfl (Nat.le_of_ble_eq_true rfl) (Nat.le_of_ble_eq_true rfl) (Nat.le_of_ble_eq_true rfl) (Nat.le_of_ble_eq_true rfl) hf (fun x3 h4 hf => ?_)
        refine aw_i2l dX8_part_29 ?_
        obtain ⟨rfl, rfl⟩ := so2 hf
        exact aw_pick [] rfl hJ30
      · have hf := itp0 hc hf
        refine aw_aload_n 0 dX8_part_16 rfl ?_
        refine aw_gJ fl_RX8_23 dX8_part_17 hf (fun x5 hf => ?_)
        refine aw_goto (tgt := 30) dX8_part_20 rfl ?_
        obtain ⟨rfl, rfl⟩ := so2 hf
        exact aw_pick [] rfl hJ30
    · have hf := itp0 hc hf
      refine aw_aload_n 0 dX8_part_4 rfl ?_
      refine aw_gJ fl_RX8_183 dX8_part_5 hf (fun x6 hf => ?_)
      refine aw_goto (tgt := 30) dX8_part_8 rfl ?_
      obtain ⟨rfl, rfl⟩ := so2 hf
      exact aw_pick [] rfl hJ30
set_option maxRecDepth 100000 in
set_option maxHeartbeats 4000000 in
theorem l_X8_image_19 (g : Gx) {res : Option Value × Hea} : ∀ (n : Nat) (h : Hea) (y0 : Nat) (y1 : Int32) (y2 : Int32) (ho : Hea) (hf : f_X8_image_19 n h y0 y1 y2 = some ho) (kk : AW g RX8 cX8_image (3, some .int, "image", 1, 0, 0) res 50 [(0, .ref y0), (1, .int y1)] [] ho 0 0), AW g RX8 cX8_image (3, some .int, "image", 1, 0, 0) res 19 [(0, .ref y0), (1, .int y1), (2, .int y2)] [] h 0 0 := by
  intro n
  induction n with
  | zero =>
    intro h y0 y1 y2 ho hf kk
    rw [f_X8_image_19] at hf
    cases hf
  | succ n ih =>
    intro h y0 y1 y2 ho hf kk
    rw [f_X8_image_19] at hf
    refine aw_iload_n 2 dX8_image_19 rfl ?_
    refine aw_sipush (v := 399) dX8_image_20 rfl ?_
    refine aw_icmp_ge (tgt := 50) dX8_image_23 rfl (fun hc => ?_) (fun hc => ?_)
    · have hf := itp0 hc hf
      obtain rfl := so1 hf
      exact aw_pick [0, 1] rfl kk
    · have hf := itn0 hc hf
      refine aw_aload_n 0 dX8_image_26 rfl ?_
      refine aw_gR fl_RX8_13 dX8_image_27 hf (fun x1 hf => ?_)
      refine aw_sipush (v := 399) dX8_image_30 rfl ?_
      refine aw_iload_n 1 dX8_image_33 rfl ?_
      refine aw_imul dX8_image_34 ?_
      refine aw_iload_n 2 dX8_image_35 rfl ?_
      refine aw_iadd dX8_image_36 ?_
      refine aw_aload_n 0 dX8_image_37 rfl ?_
      refine aw_gR fl_RX8_7 dX8_image_38 hf (fun x2 hf => ?_)
      refine aw_iload_n 2 dX8_image_41 rfl ?_
      refine aw_ldI dX8_image_42 hf (fun x3 hf => ?_)
      refine aw_stI dX8_image_43 hf (fun h4 hf => ?_)
      refine aw_iinc (y2 + 1) [(2, .int (y2 + 1)), (0, .ref y0), (1, .int y1)] 2 dX8_image_44 rfl rfl (Nat.le_of_ble_eq_true rfl) rfl ?_
      refine aw_goto (tgt := 19) dX8_image_47 rfl ?_
      refine aw_pick [1, 2, 0] rfl ?_
      exact ih h4 y0 y1 (y2 + 1) ho hf kk
set_option maxRecDepth 100000 in
set_option maxHeartbeats 4000000 in
theorem c_X8_image (g : Gx) (h : Hea) (a0 : Nat) (a1 : Int32) (o : Int32) (hz : Hea) (hf : f_X8_image h a0 a1 = some (o, hz)) : MC g yX8_image cX8_image 3 (some .int) 1 0 0 [.ref a0, .int a1] h (some (.int o), hz) := by
  refine MC_of (own := RX8) (nm := "image") [(0, .ref a0), (1, .int a1)] rfl rfl pn_RX8 (Nat.le_of_ble_eq_true rfl) rfl ?_
  rw [f_X8_image] at hf
  refine aw_iload_n 1 dX8_image_0 rfl ?_
  refine aw_i2l dX8_image_1 ?_
  refine aw_lconst (v := 0) dX8_image_2 rfl ?_
  refine aw_lconst (v := 1) dX8_image_3 rfl ?_
  refine aw_cS_i (st := []) [.long a1.toInt64, .long 0, .long 1] wS_RX8_78 (fun xr er => c_X8_in g h a1.toInt64 0 1 xr er) dX8_image_4 rfl rfl (Nat.le_of_ble_eq_true rfl) (Nat.le_of_ble_eq_true rfl) (Nat.le_of_ble_eq_true rfl) (Nat.le_of_ble_eq_true rfl) hf (fun x1 hf => ?_)
  refine aw_if_ne (tgt := 17) dX8_image_7 rfl (fun hc => ?_) (fun hc => ?_)
  · have hf := itn0 hc hf
    refine aw_iconst (v := 0) dX8_image_17 rfl ?_
    refine aw_istore_n [(2, .int 0), (0, .ref a0), (1, .int a1)] dX8_image_18 (Nat.le_of_ble_eq_true rfl) rfl ?_
    refine aw_pick [1, 2, 0] rfl ?_
    refine reg1 (fun (h2 : Hea) => AW g RX8 cX8_image (3, some .int, "image", 1, 0, 0) (some (.int o), hz) 50 [(0, .ref a0), (1, .int a1)] [] h2 0 0) hf (fun h2 hf => ?_) (fun h2 hf hJ => l_X8_image_19 g  lots h a0 a1 0 h2 hf hJ)
    refine aw_aload_n 0 dX8_image_50 rfl ?_
    refine aw_gR fl_RX8_16 dX8_image_51 hf (fun x3 hf => ?_)
    refine aw_iload_n 1 dX8_image_54 rfl ?_
    refine aw_iconst (v := 1) dX8_image_55 rfl ?_
    refine aw_stZ dX8_image_56 hf (fun h4 hf => ?_)
    refine aw_iconst (v := 1) dX8_image_57 rfl ?_
    obtain ⟨rfl, rfl⟩ := so2 hf
    exact aw_iret dX8_image_58 rfl rfl
  · have hf := itp0 hc hf
    refine aw_aload_n 0 dX8_image_10 rfl ?_
    refine aw_bipush (v := (-2)) dX8_image_11 rfl ?_
    refine aw_cV_wi (st := []) [.int (-2)] wV_RX8_86 (ci := 8) rfl (fun xr hr er => c_X8_bad g h a0 (-2) xr hr er) dX8_image_13 rfl rfl (Nat.le_of_ble_eq_true rfl) (Nat.le_of_ble_eq_true rfl) (Nat.le_of_ble_eq_true rfl) (Nat.le_of_ble_eq_true rfl) hf (fun x5 h6 hf => ?_)
    obtain ⟨rfl, rfl⟩ := so2 hf
    exact aw_iret dX8_image_16 rfl rfl
set_option maxRecDepth 100000 in
set_option maxHeartbeats 4000000 in
theorem l_X8_from_33 (g : Gx) {res : Option Value × Hea} : ∀ (n : Nat) (h : Hea) (y0 : Nat) (y1 : Int32) (y2 : Int32) (ho : Hea) (hf : f_X8_from_33 n h y0 y1 y2 = some ho) (kk : AW g RX8 cX8_from (3, some .int, "from", 1, 0, 0) res 64 [] [] ho 0 0), AW g RX8 cX8_from (3, some .int, "from", 1, 0, 0) res 33 [(0, .ref y0), (1, .int y1), (2, .int y2)] [] h 0 0 := by
  intro n
  induction n with
  | zero =>
    intro h y0 y1 y2 ho hf kk
    rw [f_X8_from_33] at hf
    cases hf
  | succ n ih =>
    intro h y0 y1 y2 ho hf kk
    rw [f_X8_from_33] at hf
    refine aw_iload_n 2 dX8_from_33 rfl ?_
    refine aw_sipush (v := 399) dX8_from_34 rfl ?_
    refine aw_icmp_ge (tgt := 64) dX8_from_37 rfl (fun hc => ?_) (fun hc => ?_)
    · have hf := itp0 hc hf
      obtain rfl := so1 hf
      exact aw_pick [] rfl kk
    · have hf := itn0 hc hf
      refine aw_aload_n 0 dX8_from_40 rfl ?_
      refine aw_gR fl_RX8_7 dX8_from_41 hf (fun x1 hf => ?_)
      refine aw_iload_n 2 dX8_from_44 rfl ?_
      refine aw_aload_n 0 dX8_from_45 rfl ?_
      refine aw_gR fl_RX8_13 dX8_from_46 hf (fun x2 hf => ?_)
      refine aw_sipush (v := 399) dX8_from_49 rfl ?_
      refine aw_iload_n 1 dX8_from_52 rfl ?_
      refine aw_imul dX8_from_53 ?_
      refine aw_iload_n 2 dX8_from_54 rfl ?_
      refine aw_iadd dX8_from_55 ?_
      refine aw_ldI dX8_from_56 hf (fun x3 hf => ?_)
      refine aw_stI dX8_from_57 hf (fun h4 hf => ?_)
      refine aw_iinc (y2 + 1) [(2, .int (y2 + 1)), (0, .ref y0), (1, .int y1)] 2 dX8_from_58 rfl rfl (Nat.le_of_ble_eq_true rfl) rfl ?_
      refine aw_goto (tgt := 33) dX8_from_61 rfl ?_
      refine aw_pick [1, 2, 0] rfl ?_
      exact ih h4 y0 y1 (y2 + 1) ho hf kk
set_option maxRecDepth 100000 in
set_option maxHeartbeats 4000000 in
theorem c_X8_from (g : Gx) (h : Hea) (a0 : Nat) (a1 : Int32) (o : Int32) (hz : Hea) (hf : f_X8_from h a0 a1 = some (o, hz)) : MC g yX8_from cX8_from 3 (some .int) 1 0 0 [.ref a0, .int a1] h (some (.int o), hz) := by
  refine MC_of (own := RX8) (nm := "from") [(0, .ref a0), (1, .int a1)] rfl rfl pn_RX8 (Nat.le_of_ble_eq_true rfl) rfl ?_
  rw [f_X8_from] at hf
  refine aw_iload_n 1 dX8_from_0 rfl ?_
  refine aw_i2l dX8_from_1 ?_
  refine aw_lconst (v := 0) dX8_from_2 rfl ?_
  refine aw_lconst (v := 1) dX8_from_3 rfl ?_
  refine aw_cS_i (st := []) [.long a1.toInt64, .long 0, .long 1] wS_RX8_78 (fun xr er => c_X8_in g h a1.toInt64 0 1 xr er) dX8_from_4 rfl rfl (Nat.le_of_ble_eq_true rfl) (Nat.le_of_ble_eq_true rfl) (Nat.le_of_ble_eq_true rfl) (Nat.le_of_ble_eq_true rfl) hf (fun x1 hf => ?_)
  refine aw_if_ne (tgt := 17) dX8_from_7 rfl (fun hc => ?_) (fun hc => ?_)
  · have hf := itn0 hc hf
    refine aw_aload_n 0 dX8_from_17 rfl ?_
    refine aw_gR fl_RX8_16 dX8_from_18 hf (fun x2 hf => ?_)
    refine aw_iload_n 1 dX8_from_21 rfl ?_
    refine aw_ldZ dX8_from_22 hf (fun x3 hf => ?_)
    refine aw_if_ne (tgt := 31) dX8_from_23 rfl (fun hc => ?_) (fun hc => ?_)
    · have hf := itn0 hc hf
      refine aw_iconst (v := 0) dX8_from_31 rfl ?_
      refine aw_istore_n [(2, .int 0), (0, .ref a0), (1, .int a1)] dX8_from_32 (Nat.le_of_ble_eq_true rfl) rfl ?_
      refine aw_pick [1, 2, 0] rfl ?_
      refine reg1 (fun (h4 : Hea) => AW g RX8 cX8_from (3, some .int, "from", 1, 0, 0) (some (.int o), hz) 64 [] [] h4 0 0) hf (fun h4 hf => ?_) (fun h4 hf hJ => l_X8_from_33 g  lots h a0 a1 0 h4 hf hJ)
      refine aw_iconst (v := 1) dX8_from_64 rfl ?_
      obtain ⟨rfl, rfl⟩ := so2 hf
      exact aw_iret dX8_from_65 rfl rfl
    · have hf := itp0 hc hf
      refine aw_aload_n 0 dX8_from_26 rfl ?_
      refine aw_cV_wi (st := []) [] wV_RX8_140 (ci := 8) rfl (fun xr hr er => c_X8_no g h a0 xr hr er) dX8_from_27 rfl rfl (Nat.le_of_ble_eq_true rfl) (Nat.le_of_ble_eq_true rfl) (Nat.le_of_ble_eq_true rfl) (Nat.le_of_ble_eq_true rfl) hf (fun x5 h6 hf => ?_)
      obtain ⟨rfl, rfl⟩ := so2 hf
      exact aw_iret dX8_from_30 rfl rfl
  · have hf := itp0 hc hf
    refine aw_aload_n 0 dX8_from_10 rfl ?_
    refine aw_bipush (v := (-2)) dX8_from_11 rfl ?_
    refine aw_cV_wi (st := []) [.int (-2)] wV_RX8_86 (ci := 8) rfl (fun xr hr er => c_X8_bad g h a0 (-2) xr hr er) dX8_from_13 rfl rfl (Nat.le_of_ble_eq_true rfl) (Nat.le_of_ble_eq_true rfl) (Nat.le_of_ble_eq_true rfl) (Nat.le_of_ble_eq_true rfl) hf (fun x7 h8 hf => ?_)
    obtain ⟨rfl, rfl⟩ := so2 hf
    exact aw_iret dX8_from_16 rfl rfl
set_option maxRecDepth 100000 in
set_option maxHeartbeats 4000000 in
theorem c_X8_status (g : Gx) (h : Hea) (a0 : Nat) (a1 : Int32) (o : Int32) (hz : Hea) (hf : f_X8_status h a0 a1 = some (o, hz)) : MC g yX8_status cX8_status 2 (some .int) 1 0 0 [.ref a0, .int a1] h (some (.int o), hz) := by
  refine MC_of (own := RX8) (nm := "status") [(0, .ref a0), (1, .int a1)] rfl rfl pn_RX8 (Nat.le_of_ble_eq_true rfl) rfl ?_
  rw [f_X8_status] at hf
  refine aw_iload_n 1 dX8_status_0 rfl ?_
  refine aw_i2l dX8_status_1 ?_
  refine aw_lconst (v := 0) dX8_status_2 rfl ?_
  refine aw_ldc2 (v := 2) kc_RX8_287 dX8_status_3 ?_
  refine aw_cS_i (st := []) [.long a1.toInt64, .long 0, .long 2] wS_RX8_78 (fun xr er => c_X8_in g h a1.toInt64 0 2 xr er) dX8_status_6 rfl rfl (Nat.le_of_ble_eq_true rfl) (Nat.le_of_ble_eq_true rfl) (Nat.le_of_ble_eq_true rfl) (Nat.le_of_ble_eq_true rfl) hf (fun x1 hf => ?_)
  refine reg2 (fun (v2 : Int32) (h3 : Hea) => AW g RX8 cX8_status (2, some .int, "status", 1, 0, 0) (some (.int o), hz) 26 [] [.int v2] h3 0 0) hf (fun v2 h3 hf => ?_) (fun v2 h3 hf hJ26 => ?_)
  · obtain ⟨rfl, rfl⟩ := so2 hf
    exact aw_iret dX8_status_26 rfl rfl
  · refine aw_if_eq (tgt := 21) dX8_status_9 rfl (fun hc => ?_) (fun hc => ?_)
    · have hf := itp0 hc hf
      refine aw_aload_n 0 dX8_status_21 rfl ?_
      refine aw_iconst (v := (-1)) dX8_status_22 rfl ?_
      refine aw_cV_wi (st := []) [.int (-1)] wV_RX8_86 (ci := 8) rfl (fun xr hr er => c_X8_bad g h a0 (-1) xr hr er) dX8_status_23 rfl rfl (Nat.le_of_ble_eq_true rfl) (Nat.le_of_ble_eq_true rfl) (Nat.le_of_ble_eq_true rfl) (Nat.le_of_ble_eq_true rfl) hf (fun x4 h5 hf => ?_)
      obtain ⟨rfl, rfl⟩ := so2 hf
      exact aw_pick [] rfl hJ26
    · have hf := itn0 hc hf
      refine aw_aload_n 0 dX8_status_12 rfl ?_
      refine aw_gR fl_RX8_20 dX8_status_13 hf (fun x6 hf => ?_)
      refine aw_iload_n 1 dX8_status_16 rfl ?_
      refine aw_ldI dX8_status_17 hf (fun x7 hf => ?_)
      refine aw_goto (tgt := 26) dX8_status_18 rfl ?_
      obtain ⟨rfl, rfl⟩ := so2 hf
      exact aw_pick [] rfl hJ26
set_option maxRecDepth 100000 in
set_option maxHeartbeats 4000000 in
theorem l_X8_manyIn_4 (g : Gx) {res : Option Value × Hea} : ∀ (n : Nat) (h : Hea) (y0 : Nat) (y1 : Int32) (y2 : Int32) (o1 : Int32) (hf : f_X8_manyIn_4 n h y0 y1 y2 = some o1) (kk : AW g RX8 cX8_manyIn (3, some .int, "manyIn", 1, 0, 0) res 35 [(1, .int o1)] [] h 0 0), AW g RX8 cX8_manyIn (3, some .int, "manyIn", 1, 0, 0) res 4 [(0, .ref y0), (1, .int y1), (2, .int y2)] [] h 0 0 := by
  intro n
  induction n with
  | zero =>
    intro h y0 y1 y2 o1 hf kk
    rw [f_X8_manyIn_4] at hf
    cases hf
  | succ n ih =>
    intro h y0 y1 y2 o1 hf kk
    rw [f_X8_manyIn_4] at hf
    refine aw_iload_n 2 dX8_manyIn_4 rfl ?_
    refine aw_aload_n 0 dX8_manyIn_5 rfl ?_
    refine aw_cV_i (st := [.int y2]) [] wV_RX8_74 (ci := 8) rfl (fun xr er => c_X8_heirs g h y0 xr er) dX8_manyIn_6 rfl rfl (Nat.le_of_ble_eq_true rfl) (Nat.le_of_ble_eq_true rfl) (Nat.le_of_ble_eq_true rfl) (Nat.le_of_ble_eq_true rfl) hf (fun x1 hf => ?_)
    refine aw_icmp_ge (tgt := 35) dX8_manyIn_9 rfl (fun hc => ?_) (fun hc => ?_)
    · have hf := itp0 hc hf
      obtain rfl := so1 hf
      exact aw_pick [1] rfl kk
    · have hf := itn0 hc hf
      refine aw_iload_n 1 dX8_manyIn_12 rfl ?_
      refine aw_aload_n 0 dX8_manyIn_13 rfl ?_
      refine aw_iload_n 2 dX8_manyIn_14 rfl ?_
      refine aw_iconst (v := 4) dX8_manyIn_15 rfl ?_
      refine aw_cV_i (st := [.int y1]) [.int y2, .int 4] wV_RX8_119 (ci := 8) rfl (fun xr er => c_X8_get g h y0 y2 4 xr er) dX8_manyIn_16 rfl rfl (Nat.le_of_ble_eq_true rfl) (Nat.le_of_ble_eq_true rfl) (Nat.le_of_ble_eq_true rfl) (Nat.le_of_ble_eq_true rfl) hf (fun x2 hf => ?_)
      refine reg1 (fun (v3 : Int32) => AW g RX8 cX8_manyIn (3, some .int, "manyIn", 1, 0, 0) res 27 [(0, .ref y0), (2, .int y2)] [.int v3, .int y1] h 0 0) hf (fun v3 hf => ?_) (fun v3 hf hJ27 => ?_)
      · refine aw_iadd dX8_manyIn_27 ?_
        refine aw_istore_n [(1, .int (y1 + v3)), (0, .ref y0), (2, .int y2)] dX8_manyIn_28 (Nat.le_of_ble_eq_true rfl) rfl ?_
        refine aw_iinc (y2 + 1) [(2, .int (y2 + 1)), (1, .int (y1 + v3)), (0, .ref y0)] 2 dX8_manyIn_29 rfl rfl (Nat.le_of_ble_eq_true rfl) rfl ?_
        refine aw_goto (tgt := 4) dX8_manyIn_32 rfl ?_
        refine aw_pick [2, 1, 0] rfl ?_
        exact ih h y0 (y1 + v3) (y2 + 1) o1 hf kk
      · refine aw_if_ne (tgt := 26) dX8_manyIn_19 rfl (fun hc => ?_) (fun hc => ?_)
        · have hf := itn0 hc hf
          refine aw_iconst (v := 0) dX8_manyIn_26 rfl ?_
          obtain rfl := so1 hf
          exact aw_pick [0, 2] rfl hJ27
        · have hf := itp0 hc hf
          refine aw_iconst (v := 1) dX8_manyIn_22 rfl ?_
          refine aw_goto (tgt := 27) dX8_manyIn_23 rfl ?_
          obtain rfl := so1 hf
          exact aw_pick [0, 2] rfl hJ27
set_option maxRecDepth 100000 in
set_option maxHeartbeats 4000000 in
theorem c_X8_manyIn (g : Gx) (h : Hea) (a0 : Nat) (o : Int32) (hf : f_X8_manyIn h a0 = some o) : MC g yX8_manyIn cX8_manyIn 3 (some .int) 1 0 0 [.ref a0] h (some (.int o), h) := by
  refine MC_of (own := RX8) (nm := "manyIn") [(0, .ref a0)] rfl rfl pn_RX8 (Nat.le_of_ble_eq_true rfl) rfl ?_
  rw [f_X8_manyIn] at hf
  refine aw_iconst (v := 0) dX8_manyIn_0 rfl ?_
  refine aw_istore_n [(1, .int 0), (0, .ref a0)] dX8_manyIn_1 (Nat.le_of_ble_eq_true rfl) rfl ?_
  refine aw_iconst (v := 0) dX8_manyIn_2 rfl ?_
  refine aw_istore_n [(2, .int 0), (1, .int 0), (0, .ref a0)] dX8_manyIn_3 (Nat.le_of_ble_eq_true rfl) rfl ?_
  refine aw_pick [2, 1, 0] rfl ?_
  refine reg1 (fun (v1 : Int32) => AW g RX8 cX8_manyIn (3, some .int, "manyIn", 1, 0, 0) (some (.int o), h) 35 [(1, .int v1)] [] h 0 0) hf (fun v1 hf => ?_) (fun v1 hf hJ => l_X8_manyIn_4 g  lots h a0 0 0 v1 hf hJ)
  refine aw_iload_n 0 dX8_manyIn_35 rfl ?_
  obtain rfl := so1 hf
  exact aw_iret dX8_manyIn_36 rfl rfl
set_option maxRecDepth 100000 in
set_option maxHeartbeats 4000000 in
theorem c_X8_counted (g : Gx) (h : Hea) (a0 : Nat) (a1 : Int32) (o : Int32) (hf : f_X8_counted h a0 a1 = some o) : MC g yX8_counted cX8_counted 2 (some .int) 2 0 0 [.ref a0, .int a1] h (some (.int o), h) := by
  refine MC_of (own := RX8) (nm := "counted") [(0, .ref a0), (1, .int a1)] rfl rfl pn_RX8 (Nat.le_of_ble_eq_true rfl) rfl ?_
  rw [f_X8_counted] at hf
  refine aw_iload_n 1 dX8_counted_0 rfl ?_
  by_cases hc0 : a1 = 4
  · have hf := itp0 hc0 hf
    refine aw_tsK (tgt := 36) (off := 35) (k := 4) hc0 rfl dX8_counted_1 (by decide) (by decide) rfl rfl ?_
    refine aw_aload_n 0 dX8_counted_36 rfl ?_
    refine aw_cV_i (st := []) [] wV_RX8_289 (ci := 8) rfl (fun xr er => c_X8_manyIn g h a0 xr er) dX8_counted_37 rfl rfl (Nat.le_of_ble_eq_true rfl) (Nat.le_of_ble_eq_true rfl) (Nat.le_of_ble_eq_true rfl) (Nat.le_of_ble_eq_true rfl) hf (fun x1 hf => ?_)
    obtain rfl := so1 hf
    exact aw_iret dX8_counted_40 rfl rfl
  have hf := itn0 hc0 hf
  by_cases hc1 : a1 = 5
  · have hf := itp0 hc1 hf
    refine aw_tsK (tgt := 41) (off := 40) (k := 5) hc1 rfl dX8_counted_1 (by decide) (by decide) rfl rfl ?_
    refine aw_aload_n 0 dX8_counted_41 rfl ?_
    refine aw_gR fl_RX8_7 dX8_counted_42 hf (fun x2 hf => ?_)
    refine aw_iconst (v := 4) dX8_counted_45 rfl ?_
    refine aw_ldI dX8_counted_46 hf (fun x3 hf => ?_)
    obtain rfl := so1 hf
    exact aw_iret dX8_counted_47 rfl rfl
  have hf := itn0 hc1 hf
  by_cases hc2 : a1 = 6
  · have hf := itp0 hc2 hf
    refine aw_tsK (tgt := 48) (off := 47) (k := 6) hc2 rfl dX8_counted_1 (by decide) (by decide) rfl rfl ?_
    refine aw_aload_n 0 dX8_counted_48 rfl ?_
    refine aw_gR fl_RX8_7 dX8_counted_49 hf (fun x4 hf => ?_)
    refine aw_iconst (v := 5) dX8_counted_52 rfl ?_
    refine aw_ldI dX8_counted_53 hf (fun x5 hf => ?_)
    obtain rfl := so1 hf
    exact aw_iret dX8_counted_54 rfl rfl
  have hf := itn0 hc2 hf
  by_cases hc3 : a1 = 7
  · have hf := itp0 hc3 hf
    refine aw_tsK (tgt := 55) (off := 54) (k := 7) hc3 rfl dX8_counted_1 (by decide) (by decide) rfl rfl ?_
    refine aw_aload_n 0 dX8_counted_55 rfl ?_
    refine aw_gR fl_RX8_7 dX8_counted_56 hf (fun x6 hf => ?_)
    refine aw_bipush (v := 6) dX8_counted_59 rfl ?_
    refine aw_ldI dX8_counted_61 hf (fun x7 hf => ?_)
    obtain rfl := so1 hf
    exact aw_iret dX8_counted_62 rfl rfl
  have hf := itn0 hc3 hf
  by_cases hc4 : a1 = 8
  · have hf := itp0 hc4 hf
    refine aw_tsK (tgt := 63) (off := 62) (k := 8) hc4 rfl dX8_counted_1 (by decide) (by decide) rfl rfl ?_
    refine aw_aload_n 0 dX8_counted_63 rfl ?_
    refine aw_gI fl_RX8_225 dX8_counted_64 hf (fun x8 hf => ?_)
    obtain rfl := so1 hf
    exact aw_iret dX8_counted_67 rfl rfl
  have hf := itn0 hc4 hf
  refine aw_tsOut (tgt := 68) dX8_counted_1 (ts_out 4 5 (by decide) (by decide) (fun i hi => by rcases (show i = 0 ∨ i = 1 ∨ i = 2 ∨ i = 3 ∨ i = 4 by omega) with rfl | rfl | rfl | rfl | rfl <;> assumption)) rfl ?_
  refine aw_aload_n 0 dX8_counted_68 rfl ?_
  refine aw_gR fl_RX8_7 dX8_counted_69 hf (fun x9 hf => ?_)
  refine aw_iload_n 1 dX8_counted_72 rfl ?_
  refine aw_ldI dX8_counted_73 hf (fun x10 hf => ?_)
  obtain rfl := so1 hf
  exact aw_iret dX8_counted_74 rfl rfl
set_option maxRecDepth 100000 in
set_option maxHeartbeats 4000000 in
theorem c_X8_count (g : Gx) (h : Hea) (a0 : Nat) (a1 : Int32) (o : Int32) (hz : Hea) (hf : f_X8_count h a0 a1 = some (o, hz)) : MC g yX8_count cX8_count 2 (some .int) 3 0 0 [.ref a0, .int a1] h (some (.int o), hz) := by
  refine MC_of (own := RX8) (nm := "count") [(0, .ref a0), (1, .int a1)] rfl rfl pn_RX8 (Nat.le_of_ble_eq_true rfl) rfl ?_
  rw [f_X8_count] at hf
  refine aw_iload_n 1 dX8_count_0 rfl ?_
  refine aw_i2l dX8_count_1 ?_
  refine aw_lconst (v := 0) dX8_count_2 rfl ?_
  refine aw_ldc2 (v := 8) kc_RX8_221 dX8_count_3 ?_
  refine aw_cS_i (st := []) [.long a1.toInt64, .long 0, .long 8] wS_RX8_78 (fun xr er => c_X8_in g h a1.toInt64 0 8 xr er) dX8_count_6 rfl rfl (Nat.le_of_ble_eq_true rfl) (Nat.le_of_ble_eq_true rfl) (Nat.le_of_ble_eq_true rfl) (Nat.le_of_ble_eq_true rfl) hf (fun x1 hf => ?_)
  refine reg2 (fun (v2 : Int32) (h3 : Hea) => AW g RX8 cX8_count (2, some .int, "count", 3, 0, 0) (some (.int o), hz) 26 [] [.int v2] h3 0 0) hf (fun v2 h3 hf => ?_) (fun v2 h3 hf hJ26 => ?_)
  · obtain ⟨rfl, rfl⟩ := so2 hf
    exact aw_iret dX8_count_26 rfl rfl
  · refine aw_if_eq (tgt := 20) dX8_count_9 rfl (fun hc => ?_) (fun hc => ?_)
    · have hf := itp0 hc hf
      refine aw_aload_n 0 dX8_count_20 rfl ?_
      refine aw_bipush (v := (-2)) dX8_count_21 rfl ?_
      refine aw_cV_wi (st := []) [.int (-2)] wV_RX8_86 (ci := 8) rfl (fun xr hr er => c_X8_bad g h a0 (-2) xr hr er) dX8_count_23 rfl rfl (Nat.le_of_ble_eq_true rfl) (Nat.le_of_ble_eq_true rfl) (Nat.le_of_ble_eq_true rfl) (Nat.le_of_ble_eq_true rfl) hf (fun x4 h5 hf => ?_)
      obtain ⟨rfl, rfl⟩ := so2 hf
      exact aw_pick [] rfl hJ26
    · have hf := itn0 hc hf
      refine aw_aload_n 0 dX8_count_12 rfl ?_
      refine aw_iload_n 1 dX8_count_13 rfl ?_
      refine aw_cV_i (st := []) [.int a1] wV_RX8_292 (ci := 8) rfl (fun xr er => c_X8_counted g h a0 a1 xr er) dX8_count_14 rfl rfl (Nat.le_of_ble_eq_true rfl) (Nat.le_of_ble_eq_true rfl) (Nat.le_of_ble_eq_true rfl) (Nat.le_of_ble_eq_true rfl) hf (fun x6 hf => ?_)
      refine aw_goto (tgt := 26) dX8_count_17 rfl ?_
      obtain ⟨rfl, rfl⟩ := so2 hf
      exact aw_pick [] rfl hJ26
set_option maxRecDepth 100000 in
set_option maxHeartbeats 4000000 in
theorem l_X8_sums_6 (g : Gx) {res : Option Value × Hea} : ∀ (n : Nat) (h : Hea) (y0 : Nat) (y3 : Int32) (y4 : Int32) (y5 : Int64) (y7 : Int32) (o5 : Int64) (hf : f_X8_sums_6 n h y0 y3 y4 y5 y7 = some o5) (kk : AW g RX8 cX8_sums (8, some .long, "sums", 0, 0, 0) res 38 [(5, .long o5)] [] h 0 0), AW g RX8 cX8_sums (8, some .long, "sums", 0, 0, 0) res 6 [(0, .ref y0), (3, .int y3), (4, .int y4), (5, .long y5), (7, .int y7)] [] h 0 0 := by
  intro n
  induction n with
  | zero =>
    intro h y0 y3 y4 y5 y7 o5 hf kk
    rw [f_X8_sums_6] at hf
    cases hf
  | succ n ih =>
    intro h y0 y3 y4 y5 y7 o5 hf kk
    rw [f_X8_sums_6] at hf
    refine aw_iload 4 dX8_sums_6 rfl ?_
    refine aw_iload 2 dX8_sums_8 rfl ?_
    refine aw_icmp_ge (tgt := 38) dX8_sums_10 rfl (fun hc => ?_) (fun hc => ?_)
    · have hf := itp0 hc hf
      obtain rfl := so1 hf
      exact aw_pick [3] rfl kk
    · have hf := itn0 hc hf
      refine aw_ldc2 (v := 31) kc_RX8_295 dX8_sums_13 ?_
      refine aw_lload 3 dX8_sums_16 rfl ?_
      refine aw_lmul dX8_sums_18 ?_
      refine aw_aload_n 0 dX8_sums_19 rfl ?_
      refine aw_gR fl_RX8_7 dX8_sums_20 hf (fun x1 hf => ?_)
      refine aw_iload_n 1 dX8_sums_23 rfl ?_
      refine aw_iload 4 dX8_sums_24 rfl ?_
      refine aw_iadd dX8_sums_26 ?_
      refine aw_ldI dX8_sums_27 hf (fun x2 hf => ?_)
      refine aw_i2l dX8_sums_28 ?_
      refine aw_ladd dX8_sums_29 ?_
      refine aw_lstore [(5, .long ((31 * y5) + x2.toInt64)), (0, .ref y0), (3, .int y3), (4, .int y4), (7, .int y7)] dX8_sums_30 (Nat.le_of_ble_eq_true rfl) rfl ?_
      refine aw_iinc (y7 + 1) [(7, .int (y7 + 1)), (5, .long ((31 * y5) + x2.toInt64)), (0, .ref y0), (3, .int y3), (4, .int y4)] 4 dX8_sums_32 rfl rfl (Nat.le_of_ble_eq_true rfl) rfl ?_
      refine aw_goto (tgt := 6) dX8_sums_35 rfl ?_
      refine aw_pick [2, 3, 4, 1, 0] rfl ?_
      exact ih h y0 y3 y4 ((31 * y5) + x2.toInt64) (y7 + 1) o5 hf kk
set_option maxRecDepth 100000 in
set_option maxHeartbeats 4000000 in
theorem c_X8_sums (g : Gx) (h : Hea) (a0 : Nat) (a1 : Int64) (a3 : Int32) (a4 : Int32) (o : Int64) (hf : f_X8_sums h a0 a1 a3 a4 = some o) : MC g yX8_sums cX8_sums 8 (some .long) 0 0 0 [.ref a0, .long a1, .int a3, .int a4] h (some (.long o), h) := by
  refine MC_of (own := RX8) (nm := "sums") [(0, .ref a0), (1, .long a1), (3, .int a3), (4, .int a4)] rfl rfl pn_RX8 (Nat.le_of_ble_eq_true rfl) rfl ?_
  rw [f_X8_sums] at hf
  refine aw_lload_n 1 dX8_sums_0 rfl ?_
  refine aw_lstore [(5, .long a1), (0, .ref a0), (1, .long a1), (3, .int a3), (4, .int a4)] dX8_sums_1 (Nat.le_of_ble_eq_true rfl) rfl ?_
  refine aw_iconst (v := 0) dX8_sums_3 rfl ?_
  refine aw_istore [(7, .int 0), (5, .long a1), (0, .ref a0), (1, .long a1), (3, .int a3), (4, .int a4)] dX8_sums_4 (Nat.le_of_ble_eq_true rfl) rfl ?_
  refine aw_pick [2, 4, 5, 1, 0] rfl ?_
  refine reg1 (fun (v1 : Int64) => AW g RX8 cX8_sums (8, some .long, "sums", 0, 0, 0) (some (.long o), h) 38 [(5, .long v1)] [] h 0 0) hf (fun v1 hf => ?_) (fun v1 hf hJ => l_X8_sums_6 g  lots h a0 a3 a4 a1 0 v1 hf hJ)
  refine aw_lload 0 dX8_sums_38 rfl ?_
  obtain rfl := so1 hf
  exact aw_lret dX8_sums_40 rfl rfl
set_option maxRecDepth 100000 in
set_option maxHeartbeats 4000000 in
theorem l_X8_digest_6 (g : Gx) {res : Option Value × Hea} : ∀ (n : Nat) (h : Hea) (y0 : Nat) (y1 : Int64) (y3 : Int32) (o1 : Int64) (hf : f_X8_digest_6 n h y0 y1 y3 = some o1) (kk : AW g RX8 cX8_digest (5, some .long, "digest", 3, 0, 0) res 31 [(0, .ref y0), (1, .long o1)] [] h 0 0), AW g RX8 cX8_digest (5, some .long, "digest", 3, 0, 0) res 6 [(0, .ref y0), (1, .long y1), (3, .int y3)] [] h 0 0 := by
  intro n
  induction n with
  | zero =>
    intro h y0 y1 y3 o1 hf kk
    rw [f_X8_digest_6] at hf
    cases hf
  | succ n ih =>
    intro h y0 y1 y3 o1 hf kk
    rw [f_X8_digest_6] at hf
    refine aw_iload_n 2 dX8_digest_6 rfl ?_
    refine aw_bipush (v := 9) dX8_digest_7 rfl ?_
    refine aw_icmp_ge (tgt := 31) dX8_digest_9 rfl (fun hc => ?_) (fun hc => ?_)
    · have hf := itp0 hc hf
      obtain rfl := so1 hf
      exact aw_pick [0, 1] rfl kk
    · have hf := itn0 hc hf
      refine aw_ldc2 (v := 31) kc_RX8_295 dX8_digest_12 ?_
      refine aw_lload_n 1 dX8_digest_15 rfl ?_
      refine aw_lmul dX8_digest_16 ?_
      refine aw_aload_n 0 dX8_digest_17 rfl ?_
      refine aw_iload_n 2 dX8_digest_18 rfl ?_
      refine aw_cV_i (st := [.long (31 * y1)]) [.int y3] wV_RX8_292 (ci := 8) rfl (fun xr er => c_X8_counted g h y0 y3 xr er) dX8_digest_19 rfl rfl (Nat.le_of_ble_eq_true rfl) (Nat.le_of_ble_eq_true rfl) (Nat.le_of_ble_eq_true rfl) (Nat.le_of_ble_eq_true rfl) hf (fun x1 hf => ?_)
      refine aw_i2l dX8_digest_22 ?_
      refine aw_ladd dX8_digest_23 ?_
      refine aw_lstore_n [(1, .long ((31 * y1) + x1.toInt64)), (0, .ref y0), (3, .int y3)] dX8_digest_24 (Nat.le_of_ble_eq_true rfl) rfl ?_
      refine aw_iinc (y3 + 1) [(3, .int (y3 + 1)), (1, .long ((31 * y1) + x1.toInt64)), (0, .ref y0)] 2 dX8_digest_25 rfl rfl (Nat.le_of_ble_eq_true rfl) rfl ?_
      refine aw_goto (tgt := 6) dX8_digest_28 rfl ?_
      refine aw_pick [2, 1, 0] rfl ?_
      exact ih h y0 ((31 * y1) + x1.toInt64) (y3 + 1) o1 hf kk
set_option maxRecDepth 100000 in
set_option maxHeartbeats 4000000 in
theorem l_X8_digest_54 (g : Gx) {res : Option Value × Hea} : ∀ (n : Nat) (h : Hea) (y0 : Nat) (y1 : Int64) (y3 : Int32) (y4 : Int32) (o1 : Int64) (hf : f_X8_digest_54 n h y0 y1 y3 y4 = some o1) (kk : AW g RX8 cX8_digest (5, some .long, "digest", 3, 0, 0) res 82 [(0, .ref y0), (1, .long o1), (3, .int y3)] [] h 0 0), AW g RX8 cX8_digest (5, some .long, "digest", 3, 0, 0) res 54 [(0, .ref y0), (1, .long y1), (3, .int y3), (4, .int y4)] [] h 0 0 := by
  intro n
  induction n with
  | zero =>
    intro h y0 y1 y3 y4 o1 hf kk
    rw [f_X8_digest_54] at hf
    cases hf
  | succ n ih =>
    intro h y0 y1 y3 y4 o1 hf kk
    rw [f_X8_digest_54] at hf
    refine aw_iload 3 dX8_digest_54 rfl ?_
    refine aw_bipush (v := 8) dX8_digest_56 rfl ?_
    refine aw_icmp_ge (tgt := 82) dX8_digest_58 rfl (fun hc => ?_) (fun hc => ?_)
    · have hf := itp0 hc hf
      obtain rfl := so1 hf
      exact aw_pick [0, 1, 2] rfl kk
    · have hf := itn0 hc hf
      refine aw_ldc2 (v := 31) kc_RX8_295 dX8_digest_61 ?_
      refine aw_lload_n 1 dX8_digest_64 rfl ?_
      refine aw_lmul dX8_digest_65 ?_
      refine aw_aload_n 0 dX8_digest_66 rfl ?_
      refine aw_iload_n 2 dX8_digest_67 rfl ?_
      refine aw_iload 3 dX8_digest_68 rfl ?_
      refine aw_cV_i (st := [.long (31 * y1)]) [.int y3, .int y4] wV_RX8_96 (ci := 8) rfl (fun xr er => c_X8_creaks g h y0 y3 y4 xr er) dX8_digest_70 rfl rfl (Nat.le_of_ble_eq_true rfl) (Nat.le_of_ble_eq_true rfl) (Nat.le_of_ble_eq_true rfl) (Nat.le_of_ble_eq_true rfl) hf (fun x1 hf => ?_)
      refine aw_i2l dX8_digest_73 ?_
      refine aw_ladd dX8_digest_74 ?_
      refine aw_lstore_n [(1, .long ((31 * y1) + x1.toInt64)), (0, .ref y0), (3, .int y3), (4, .int y4)] dX8_digest_75 (Nat.le_of_ble_eq_true rfl) rfl ?_
      refine aw_iinc (y4 + 1) [(4, .int (y4 + 1)), (1, .long ((31 * y1) + x1.toInt64)), (0, .ref y0), (3, .int y3)] 3 dX8_digest_76 rfl rfl (Nat.le_of_ble_eq_true rfl) rfl ?_
      refine aw_goto (tgt := 54) dX8_digest_79 rfl ?_
      refine aw_pick [2, 1, 3, 0] rfl ?_
      exact ih h y0 ((31 * y1) + x1.toInt64) y3 (y4 + 1) o1 hf kk
set_option maxRecDepth 100000 in
set_option maxHeartbeats 4000000 in
theorem l_X8_digest_43 (g : Gx) {res : Option Value × Hea} : ∀ (n : Nat) (h : Hea) (y0 : Nat) (y1 : Int64) (y3 : Int32) (o1 : Int64) (hf : f_X8_digest_43 n h y0 y1 y3 = some o1) (kk : AW g RX8 cX8_digest (5, some .long, "digest", 3, 0, 0) res 88 [(0, .ref y0), (1, .long o1)] [] h 0 0), AW g RX8 cX8_digest (5, some .long, "digest", 3, 0, 0) res 43 [(0, .ref y0), (1, .long y1), (3, .int y3)] [] h 0 0 := by
  intro n
  induction n with
  | zero =>
    intro h y0 y1 y3 o1 hf kk
    rw [f_X8_digest_43] at hf
    cases hf
  | succ n ih =>
    intro h y0 y1 y3 o1 hf kk
    rw [f_X8_digest_43] at hf
    refine aw_iload_n 2 dX8_digest_43 rfl ?_
    refine aw_bipush (v := 8) dX8_digest_44 rfl ?_
    refine aw_icmp_ge (tgt := 88) dX8_digest_46 rfl (fun hc => ?_) (fun hc => ?_)
    · have hf := itp0 hc hf
      obtain rfl := so1 hf
      exact aw_pick [0, 1] rfl kk
    · have hf := itn0 hc hf
      refine aw_iload_n 2 dX8_digest_49 rfl ?_
      refine aw_iconst (v := 1) dX8_digest_50 rfl ?_
      refine aw_iadd dX8_digest_51 ?_
      refine aw_istore [(4, .int (y3 + 1)), (0, .ref y0), (1, .long y1), (3, .int y3)] dX8_digest_52 (Nat.le_of_ble_eq_true rfl) rfl ?_
      refine aw_pick [1, 2, 3, 0] rfl ?_
      refine reg1 (fun (v1 : Int64) => AW g RX8 cX8_digest (5, some .long, "digest", 3, 0, 0) res 82 [(0, .ref y0), (1, .long v1), (3, .int y3)] [] h 0 0) hf (fun v1 hf => ?_) (fun v1 hf hJ => l_X8_digest_54 g  lots h y0 y1 y3 (y3 + 1) v1 hf hJ)
      refine aw_iinc (y3 + 1) [(3, .int (y3 + 1)), (0, .ref y0), (1, .long v1)] 2 dX8_digest_82 rfl rfl (Nat.le_of_ble_eq_true rfl) rfl ?_
      refine aw_goto (tgt := 43) dX8_digest_85 rfl ?_
      refine aw_pick [1, 2, 0] rfl ?_
      exact ih h y0 v1 (y3 + 1) o1 hf kk
set_option maxRecDepth 100000 in
set_option maxHeartbeats 4000000 in
theorem c_X8_digest (g : Gx) (h : Hea) (a0 : Nat) (o : Int64) (hf : f_X8_digest h a0 = some o) : MC g yX8_digest cX8_digest 5 (some .long) 3 0 0 [.ref a0] h (some (.long o), h) := by
  refine MC_of (own := RX8) (nm := "digest") [(0, .ref a0)] rfl rfl pn_RX8 (Nat.le_of_ble_eq_true rfl) rfl ?_
  rw [f_X8_digest] at hf
  refine aw_ldc2 (v := 1033) kc_RX8_297 dX8_digest_0 ?_
  refine aw_lstore_n [(1, .long 1033), (0, .ref a0)] dX8_digest_3 (Nat.le_of_ble_eq_true rfl) rfl ?_
  refine aw_iconst (v := 0) dX8_digest_4 rfl ?_
  refine aw_istore_n [(3, .int 0), (1, .long 1033), (0, .ref a0)] dX8_digest_5 (Nat.le_of_ble_eq_true rfl) rfl ?_
  refine aw_pick [2, 1, 0] rfl ?_
  refine reg1 (fun (v1 : Int64) => AW g RX8 cX8_digest (5, some .long, "digest", 3, 0, 0) (some (.long o), h) 31 [(0, .ref a0), (1, .long v1)] [] h 0 0) hf (fun v1 hf => ?_) (fun v1 hf hJ => l_X8_digest_6 g  lots h a0 1033 0 v1 hf hJ)
  refine aw_aload_n 0 dX8_digest_31 rfl ?_
  refine aw_lload_n 1 dX8_digest_32 rfl ?_
  refine aw_bipush (v := 7) dX8_digest_33 rfl ?_
  refine aw_bipush (v := 8) dX8_digest_35 rfl ?_
  refine aw_cV_l (st := []) [.long v1, .int 7, .int 8] wV_RX8_299 (ci := 8) rfl (fun xr er => c_X8_sums g h a0 v1 7 8 xr er) dX8_digest_37 rfl rfl (Nat.le_of_ble_eq_true rfl) (Nat.le_of_ble_eq_true rfl) (Nat.le_of_ble_eq_true rfl) (Nat.le_of_ble_eq_true rfl) hf (fun x2 hf => ?_)
  refine aw_lstore_n [(1, .long x2), (0, .ref a0)] dX8_digest_40 (Nat.le_of_ble_eq_true rfl) rfl ?_
  refine aw_iconst (v := 0) dX8_digest_41 rfl ?_
  refine aw_istore_n [(3, .int 0), (1, .long x2), (0, .ref a0)] dX8_digest_42 (Nat.le_of_ble_eq_true rfl) rfl ?_
  refine aw_pick [2, 1, 0] rfl ?_
  refine reg1 (fun (v3 : Int64) => AW g RX8 cX8_digest (5, some .long, "digest", 3, 0, 0) (some (.long o), h) 88 [(0, .ref a0), (1, .long v3)] [] h 0 0) hf (fun v3 hf => ?_) (fun v3 hf hJ => l_X8_digest_43 g  lots h a0 x2 0 v3 hf hJ)
  refine aw_aload_n 0 dX8_digest_88 rfl ?_
  refine aw_lload_n 1 dX8_digest_89 rfl ?_
  refine aw_bipush (v := 79) dX8_digest_90 rfl ?_
  refine aw_aload_n 0 dX8_digest_92 rfl ?_
  refine aw_gR fl_RX8_7 dX8_digest_93 hf (fun x4 hf => ?_)
  refine aw_iconst (v := 4) dX8_digest_96 rfl ?_
  refine aw_ldI dX8_digest_97 hf (fun x5 hf => ?_)
  refine aw_cV_l (st := []) [.long v3, .int 79, .int x5] wV_RX8_299 (ci := 8) rfl (fun xr er => c_X8_sums g h a0 v3 79 x5 xr er) dX8_digest_98 rfl rfl (Nat.le_of_ble_eq_true rfl) (Nat.le_of_ble_eq_true rfl) (Nat.le_of_ble_eq_true rfl) (Nat.le_of_ble_eq_true rfl) hf (fun x6 hf => ?_)
  refine aw_lstore_n [(1, .long x6), (0, .ref a0)] dX8_digest_101 (Nat.le_of_ble_eq_true rfl) rfl ?_
  refine aw_aload_n 1 dX8_digest_102 rfl ?_
  refine aw_lload_n 0 dX8_digest_103 rfl ?_
  refine aw_bipush (v := 91) dX8_digest_104 rfl ?_
  refine aw_bipush (v := 7) dX8_digest_106 rfl ?_
  refine aw_aload_n 1 dX8_digest_108 rfl ?_
  refine aw_cV_i (st := [.int 7, .int 91, .long x6, .ref a0]) [] wV_RX8_74 (ci := 8) rfl (fun xr er => c_X8_heirs g h a0 xr er) dX8_digest_109 rfl rfl (Nat.le_of_ble_eq_true rfl) (Nat.le_of_ble_eq_true rfl) (Nat.le_of_ble_eq_true rfl) (Nat.le_of_ble_eq_true rfl) hf (fun x7 hf => ?_)
  refine aw_imul dX8_digest_112 ?_
  refine aw_cV_l (st := []) [.long x6, .int 91, .int (7 * x7)] wV_RX8_299 (ci := 8) rfl (fun xr er => c_X8_sums g h a0 x6 91 (7 * x7) xr er) dX8_digest_113 rfl rfl (Nat.le_of_ble_eq_true rfl) (Nat.le_of_ble_eq_true rfl) (Nat.le_of_ble_eq_true rfl) (Nat.le_of_ble_eq_true rfl) hf (fun x8 hf => ?_)
  refine aw_lstore_n [(1, .long x8), (0, .ref a0)] dX8_digest_116 (Nat.le_of_ble_eq_true rfl) rfl ?_
  refine aw_aload_n 1 dX8_digest_117 rfl ?_
  refine aw_lload_n 0 dX8_digest_118 rfl ?_
  refine aw_sipush (v := 133) dX8_digest_119 rfl ?_
  refine aw_iconst (v := 3) dX8_digest_122 rfl ?_
  refine aw_aload_n 1 dX8_digest_123 rfl ?_
  refine aw_gR fl_RX8_7 dX8_digest_124 hf (fun x9 hf => ?_)
  refine aw_iconst (v := 5) dX8_digest_127 rfl ?_
  refine aw_ldI dX8_digest_128 hf (fun x10 hf => ?_)
  refine aw_imul dX8_digest_129 ?_
  refine aw_cV_l (st := []) [.long x8, .int 133, .int (3 * x10)] wV_RX8_299 (ci := 8) rfl (fun xr er => c_X8_sums g h a0 x8 133 (3 * x10) xr er) dX8_digest_130 rfl rfl (Nat.le_of_ble_eq_true rfl) (Nat.le_of_ble_eq_true rfl) (Nat.le_of_ble_eq_true rfl) (Nat.le_of_ble_eq_true rfl) hf (fun x11 hf => ?_)
  refine aw_lstore_n [(1, .long x11), (0, .ref a0)] dX8_digest_133 (Nat.le_of_ble_eq_true rfl) rfl ?_
  refine aw_ldc2 (v := 31) kc_RX8_295 dX8_digest_134 ?_
  refine aw_ldc2 (v := 31) kc_RX8_295 dX8_digest_137 ?_
  refine aw_lload_n 0 dX8_digest_140 rfl ?_
  refine aw_lmul dX8_digest_141 ?_
  refine aw_aload_n 1 dX8_digest_142 rfl ?_
  refine aw_gJ fl_RX8_183 dX8_digest_143 hf (fun x12 hf => ?_)
  refine aw_ladd dX8_digest_146 ?_
  refine aw_lmul dX8_digest_147 ?_
  refine aw_aload_n 1 dX8_digest_148 rfl ?_
  refine aw_gJ fl_RX8_23 dX8_digest_149 hf (fun x13 hf => ?_)
  refine aw_ladd dX8_digest_152 ?_
  obtain rfl := so1 hf
  exact aw_lret dX8_digest_153 rfl rfl
