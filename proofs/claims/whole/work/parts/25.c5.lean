/-! ===== contracts, by program: X8_move .. X8_choose ===== -/
set_option maxRecDepth 100000 in
set_option maxHeartbeats 4000000 in
theorem c_X8_move (g : Gx) (h : Hea) (a0 : Nat) (a1 : Int32) (a2 : Int32) (o : Int32) (hz : Hea) (hf : f_X8_move h a0 a1 a2 = some (o, hz)) : MC g yX8_move cX8_move 4 (some .int) 2 0 0 [.ref a0, .int a1, .int a2] h (some (.int o), hz) := by
  refine MC_of (own := RX8) (nm := "move") [(0, .ref a0), (1, .int a1), (2, .int a2)] rfl rfl pn_RX8 (Nat.le_of_ble_eq_true rfl) rfl ?_
  rw [f_X8_move] at hf
  refine aw_aload_n 0 dX8_move_0 rfl ?_
  refine aw_iload_n 1 dX8_move_1 rfl ?_
  refine aw_cV_i (st := []) [.int a1] wV_RX8_137 (ci := 8) rfl (fun xr er => c_X8_isHeir g h a0 a1 xr er) dX8_move_2 rfl rfl (Nat.le_of_ble_eq_true rfl) (Nat.le_of_ble_eq_true rfl) (Nat.le_of_ble_eq_true rfl) (Nat.le_of_ble_eq_true rfl) hf (fun x1 hf => ?_)
  refine aw_if_eq (tgt := 15) dX8_move_5 rfl (fun hc => ?_) (fun hc => ?_)
  · have hf := itp0 hc hf
    refine aw_aload_n 0 dX8_move_15 rfl ?_
    refine aw_bipush (v := (-2)) dX8_move_16 rfl ?_
    refine aw_cV_wi (st := []) [.int (-2)] wV_RX8_86 (ci := 8) rfl (fun xr hr er => c_X8_bad g h a0 (-2) xr hr er) dX8_move_18 rfl rfl (Nat.le_of_ble_eq_true rfl) (Nat.le_of_ble_eq_true rfl) (Nat.le_of_ble_eq_true rfl) (Nat.le_of_ble_eq_true rfl) hf (fun x2 h3 hf => ?_)
    obtain ⟨rfl, rfl⟩ := so2 hf
    exact aw_iret dX8_move_21 rfl rfl
  · have hf := itn0 hc hf
    refine aw_iload_n 2 dX8_move_8 rfl ?_
    refine aw_cS_i (st := []) [.int a2] wS_RX8_90 (fun xr er => c_X8_isRoom g h a2 xr er) dX8_move_9 rfl rfl (Nat.le_of_ble_eq_true rfl) (Nat.le_of_ble_eq_true rfl) (Nat.le_of_ble_eq_true rfl) (Nat.le_of_ble_eq_true rfl) hf (fun x4 hf => ?_)
    refine aw_if_ne (tgt := 22) dX8_move_12 rfl (fun hc => ?_) (fun hc => ?_)
    · have hf := itn0 hc hf
      refine aw_aload_n 0 dX8_move_22 rfl ?_
      refine aw_aload_n 0 dX8_move_23 rfl ?_
      refine aw_iload_n 1 dX8_move_24 rfl ?_
      refine aw_iconst (v := 1) dX8_move_25 rfl ?_
      refine aw_cV_i (st := [.ref a0]) [.int a1, .int 1] wV_RX8_119 (ci := 8) rfl (fun xr er => c_X8_get g h a0 a1 1 xr er) dX8_move_26 rfl rfl (Nat.le_of_ble_eq_true rfl) (Nat.le_of_ble_eq_true rfl) (Nat.le_of_ble_eq_true rfl) (Nat.le_of_ble_eq_true rfl) hf (fun x5 hf => ?_)
      refine aw_iload_n 2 dX8_move_29 rfl ?_
      refine aw_cV_i (st := []) [.int x5, .int a2] wV_RX8_96 (ci := 8) rfl (fun xr er => c_X8_creaks g h a0 x5 a2 xr er) dX8_move_30 rfl rfl (Nat.le_of_ble_eq_true rfl) (Nat.le_of_ble_eq_true rfl) (Nat.le_of_ble_eq_true rfl) (Nat.le_of_ble_eq_true rfl) hf (fun x6 hf => ?_)
      refine aw_istore_n [(3, .int x6), (0, .ref a0), (1, .int a1), (2, .int a2)] dX8_move_33 (Nat.le_of_ble_eq_true rfl) rfl ?_
      refine aw_aload_n 1 dX8_move_34 rfl ?_
      refine aw_iload_n 2 dX8_move_35 rfl ?_
      refine aw_iconst (v := 4) dX8_move_36 rfl ?_
      refine aw_cV_i (st := []) [.int a1, .int 4] wV_RX8_119 (ci := 8) rfl (fun xr er => c_X8_get g h a0 a1 4 xr er) dX8_move_37 rfl rfl (Nat.le_of_ble_eq_true rfl) (Nat.le_of_ble_eq_true rfl) (Nat.le_of_ble_eq_true rfl) (Nat.le_of_ble_eq_true rfl) hf (fun x7 hf => ?_)
      refine aw_if_ne (tgt := 58) dX8_move_40 rfl (fun hc => ?_) (fun hc => ?_)
      · have hf := itn0 hc hf
        refine aw_aload_n 1 dX8_move_58 rfl ?_
        refine aw_cV_wi (st := []) [] wV_RX8_140 (ci := 8) rfl (fun xr hr er => c_X8_no g h a0 xr hr er) dX8_move_59 rfl rfl (Nat.le_of_ble_eq_true rfl) (Nat.le_of_ble_eq_true rfl) (Nat.le_of_ble_eq_true rfl) (Nat.le_of_ble_eq_true rfl) hf (fun x8 h9 hf => ?_)
        obtain ⟨rfl, rfl⟩ := so2 hf
        exact aw_iret dX8_move_62 rfl rfl
      · have hf := itp0 hc hf
        refine aw_iload_n 0 dX8_move_43 rfl ?_
        refine aw_if_eq (tgt := 58) dX8_move_44 rfl (fun hc => ?_) (fun hc => ?_)
        · have hf := itp0 hc hf
          refine aw_aload_n 1 dX8_move_58 rfl ?_
          refine aw_cV_wi (st := []) [] wV_RX8_140 (ci := 8) rfl (fun xr hr er => c_X8_no g h a0 xr hr er) dX8_move_59 rfl rfl (Nat.le_of_ble_eq_true rfl) (Nat.le_of_ble_eq_true rfl) (Nat.le_of_ble_eq_true rfl) (Nat.le_of_ble_eq_true rfl) hf (fun x10 h11 hf => ?_)
          obtain ⟨rfl, rfl⟩ := so2 hf
          exact aw_iret dX8_move_62 rfl rfl
        · have hf := itn0 hc hf
          refine aw_aload_n 1 dX8_move_47 rfl ?_
          refine aw_iload_n 2 dX8_move_48 rfl ?_
          refine aw_bipush (v := 6) dX8_move_49 rfl ?_
          refine aw_cV_i (st := []) [.int a1, .int 6] wV_RX8_119 (ci := 8) rfl (fun xr er => c_X8_get g h a0 a1 6 xr er) dX8_move_51 rfl rfl (Nat.le_of_ble_eq_true rfl) (Nat.le_of_ble_eq_true rfl) (Nat.le_of_ble_eq_true rfl) (Nat.le_of_ble_eq_true rfl) hf (fun x12 hf => ?_)
          refine aw_iconst (v := 1) dX8_move_54 rfl ?_
          refine aw_icmp_ne (tgt := 63) dX8_move_55 rfl (fun hc => ?_) (fun hc => ?_)
          · have hf := itn0 hc hf
            refine aw_aload_n 1 dX8_move_63 rfl ?_
            refine aw_cV_v (st := []) [] wV_RX8_143 (ci := 8) rfl (fun hr er => c_X8_keep g h a0 hr er) dX8_move_64 rfl rfl (Nat.le_of_ble_eq_true rfl) (Nat.le_of_ble_eq_true rfl) (Nat.le_of_ble_eq_true rfl) (Nat.le_of_ble_eq_true rfl) hf (fun h13 hf => ?_)
            refine aw_aload_n 1 dX8_move_67 rfl ?_
            refine aw_iload_n 2 dX8_move_68 rfl ?_
            refine aw_iconst (v := 1) dX8_move_69 rfl ?_
            refine aw_iload_n 3 dX8_move_70 rfl ?_
            refine aw_cV_v (st := []) [.int a1, .int 1, .int a2] wV_RX8_146 (ci := 8) rfl (fun hr er => c_X8_set g h13 a0 a1 1 a2 hr er) dX8_move_71 rfl rfl (Nat.le_of_ble_eq_true rfl) (Nat.le_of_ble_eq_true rfl) (Nat.le_of_ble_eq_true rfl) (Nat.le_of_ble_eq_true rfl) hf (fun h14 hf => ?_)
            refine aw_aload_n 1 dX8_move_74 rfl ?_
            refine aw_iload_n 2 dX8_move_75 rfl ?_
            refine aw_iconst (v := 3) dX8_move_76 rfl ?_
            refine aw_iconst (v := 0) dX8_move_77 rfl ?_
            refine aw_cV_v (st := []) [.int a1, .int 3, .int 0] wV_RX8_146 (ci := 8) rfl (fun hr er => c_X8_set g h14 a0 a1 3 0 hr er) dX8_move_78 rfl rfl (Nat.le_of_ble_eq_true rfl) (Nat.le_of_ble_eq_true rfl) (Nat.le_of_ble_eq_true rfl) (Nat.le_of_ble_eq_true rfl) hf (fun h15 hf => ?_)
            refine aw_aload_n 1 dX8_move_81 rfl ?_
            refine aw_iload_n 2 dX8_move_82 rfl ?_
            refine aw_bipush (v := 6) dX8_move_83 rfl ?_
            refine aw_iconst (v := 1) dX8_move_85 rfl ?_
            refine aw_cV_v (st := []) [.int a1, .int 6, .int 1] wV_RX8_146 (ci := 8) rfl (fun hr er => c_X8_set g h15 a0 a1 6 1 hr er) dX8_move_86 rfl rfl (Nat.le_of_ble_eq_true rfl) (Nat.le_of_ble_eq_true rfl) (Nat.le_of_ble_eq_true rfl) (Nat.le_of_ble_eq_true rfl) hf (fun h16 hf => ?_)
            refine aw_iload_n 0 dX8_move_89 rfl ?_
            obtain ⟨rfl, rfl⟩ := so2 hf
            exact aw_iret dX8_move_90 rfl rfl
          · have hf := itp0 hc hf
            refine aw_aload_n 1 dX8_move_58 rfl ?_
            refine aw_cV_wi (st := []) [] wV_RX8_140 (ci := 8) rfl (fun xr hr er => c_X8_no g h a0 xr hr er) dX8_move_59 rfl rfl (Nat.le_of_ble_eq_true rfl) (Nat.le_of_ble_eq_true rfl) (Nat.le_of_ble_eq_true rfl) (Nat.le_of_ble_eq_true rfl) hf (fun x17 h18 hf => ?_)
            obtain ⟨rfl, rfl⟩ := so2 hf
            exact aw_iret dX8_move_62 rfl rfl
    · have hf := itp0 hc hf
      refine aw_aload_n 0 dX8_move_15 rfl ?_
      refine aw_bipush (v := (-2)) dX8_move_16 rfl ?_
      refine aw_cV_wi (st := []) [.int (-2)] wV_RX8_86 (ci := 8) rfl (fun xr hr er => c_X8_bad g h a0 (-2) xr hr er) dX8_move_18 rfl rfl (Nat.le_of_ble_eq_true rfl) (Nat.le_of_ble_eq_true rfl) (Nat.le_of_ble_eq_true rfl) (Nat.le_of_ble_eq_true rfl) hf (fun x19 h20 hf => ?_)
      obtain ⟨rfl, rfl⟩ := so2 hf
      exact aw_iret dX8_move_21 rfl rfl
set_option maxRecDepth 100000 in
set_option maxHeartbeats 4000000 in
theorem l_X8_night_25 (g : Gx) {res : Option Value × Hea} : ∀ (n : Nat) (h : Hea) (y0 : Nat) (y1 : Int32) (y2 : Int32) (ho : Hea) (hf : f_X8_night_25 n h y0 y2 = some ho) (kk : AW g RX8 cX8_night (3, some .int, "night", 4, 0, 0) res 83 [(1, .int y1)] [] ho 0 0), AW g RX8 cX8_night (3, some .int, "night", 4, 0, 0) res 25 [(0, .ref y0), (1, .int y1), (2, .int y2)] [] h 0 0 := by
  intro n
  induction n with
  | zero =>
    intro h y0 y1 y2 ho hf kk
    rw [f_X8_night_25] at hf
    cases hf
  | succ n ih =>
    intro h y0 y1 y2 ho hf kk
    rw [f_X8_night_25] at hf
    refine aw_iload_n 2 dX8_night_25 rfl ?_
    refine aw_aload_n 0 dX8_night_26 rfl ?_
    refine aw_cV_i (st := [.int y2]) [] wV_RX8_74 (ci := 8) rfl (fun xr er => c_X8_heirs g h y0 xr er) dX8_night_27 rfl rfl (Nat.le_of_ble_eq_true rfl) (Nat.le_of_ble_eq_true rfl) (Nat.le_of_ble_eq_true rfl) (Nat.le_of_ble_eq_true rfl) hf (fun x1 hf => ?_)
    refine aw_icmp_ge (tgt := 83) dX8_night_30 rfl (fun hc => ?_) (fun hc => ?_)
    · have hf := itp0 hc hf
      obtain rfl := so1 hf
      exact aw_pick [1] rfl kk
    · have hf := itn0 hc hf
      refine aw_aload_n 0 dX8_night_33 rfl ?_
      refine aw_iload_n 2 dX8_night_34 rfl ?_
      refine aw_iconst (v := 3) dX8_night_35 rfl ?_
      refine aw_aload_n 0 dX8_night_36 rfl ?_
      refine aw_gR fl_RX8_30 dX8_night_37 hf (fun x2 hf => ?_)
      refine aw_iload_n 2 dX8_night_40 rfl ?_
      refine aw_ldI dX8_night_41 hf (fun x3 hf => ?_)
      refine aw_cV_v (st := []) [.int y2, .int 3, .int x3] wV_RX8_146 (ci := 8) rfl (fun hr er => c_X8_set g h y0 y2 3 x3 hr er) dX8_night_42 rfl rfl (Nat.le_of_ble_eq_true rfl) (Nat.le_of_ble_eq_true rfl) (Nat.le_of_ble_eq_true rfl) (Nat.le_of_ble_eq_true rfl) hf (fun h4 hf => ?_)
      refine aw_aload_n 0 dX8_night_45 rfl ?_
      refine aw_iload_n 2 dX8_night_46 rfl ?_
      refine aw_iconst (v := 4) dX8_night_47 rfl ?_
      refine aw_aload_n 0 dX8_night_48 rfl ?_
      refine aw_gR fl_RX8_33 dX8_night_49 hf (fun x5 hf => ?_)
      refine aw_iload_n 2 dX8_night_52 rfl ?_
      refine aw_ldI dX8_night_53 hf (fun x6 hf => ?_)
      refine aw_cV_v (st := []) [.int y2, .int 4, .int x6] wV_RX8_146 (ci := 8) rfl (fun hr er => c_X8_set g h4 y0 y2 4 x6 hr er) dX8_night_54 rfl rfl (Nat.le_of_ble_eq_true rfl) (Nat.le_of_ble_eq_true rfl) (Nat.le_of_ble_eq_true rfl) (Nat.le_of_ble_eq_true rfl) hf (fun h7 hf => ?_)
      refine aw_aload_n 0 dX8_night_57 rfl ?_
      refine aw_iload_n 2 dX8_night_58 rfl ?_
      refine aw_iconst (v := 5) dX8_night_59 rfl ?_
      refine aw_aload_n 0 dX8_night_60 rfl ?_
      refine aw_gR fl_RX8_36 dX8_night_61 hf (fun x8 hf => ?_)
      refine aw_iload_n 2 dX8_night_64 rfl ?_
      refine aw_ldI dX8_night_65 hf (fun x9 hf => ?_)
      refine aw_cV_v (st := []) [.int y2, .int 5, .int x9] wV_RX8_146 (ci := 8) rfl (fun hr er => c_X8_set g h7 y0 y2 5 x9 hr er) dX8_night_66 rfl rfl (Nat.le_of_ble_eq_true rfl) (Nat.le_of_ble_eq_true rfl) (Nat.le_of_ble_eq_true rfl) (Nat.le_of_ble_eq_true rfl) hf (fun h10 hf => ?_)
      refine aw_aload_n 0 dX8_night_69 rfl ?_
      refine aw_iload_n 2 dX8_night_70 rfl ?_
      refine aw_bipush (v := 6) dX8_night_71 rfl ?_
      refine aw_iconst (v := 0) dX8_night_73 rfl ?_
      refine aw_cV_v (st := []) [.int y2, .int 6, .int 0] wV_RX8_146 (ci := 8) rfl (fun hr er => c_X8_set g h10 y0 y2 6 0 hr er) dX8_night_74 rfl rfl (Nat.le_of_ble_eq_true rfl) (Nat.le_of_ble_eq_true rfl) (Nat.le_of_ble_eq_true rfl) (Nat.le_of_ble_eq_true rfl) hf (fun h11 hf => ?_)
      refine aw_iinc (y2 + 1) [(2, .int (y2 + 1)), (0, .ref y0), (1, .int y1)] 2 dX8_night_77 rfl rfl (Nat.le_of_ble_eq_true rfl) rfl ?_
      refine aw_goto (tgt := 25) dX8_night_80 rfl ?_
      refine aw_pick [1, 2, 0] rfl ?_
      exact ih h11 y0 y1 (y2 + 1) ho hf kk
set_option maxRecDepth 100000 in
set_option maxHeartbeats 4000000 in
theorem c_X8_night (g : Gx) (h : Hea) (a0 : Nat) (o : Int32) (hz : Hea) (hf : f_X8_night h a0 = some (o, hz)) : MC g yX8_night cX8_night 3 (some .int) 4 0 0 [.ref a0] h (some (.int o), hz) := by
  refine MC_of (own := RX8) (nm := "night") [(0, .ref a0)] rfl rfl pn_RX8 (Nat.le_of_ble_eq_true rfl) rfl ?_
  rw [f_X8_night] at hf
  refine aw_aload_n 0 dX8_night_0 rfl ?_
  refine aw_cV_v (st := []) [] wV_RX8_143 (ci := 8) rfl (fun hr er => c_X8_keep g h a0 hr er) dX8_night_1 rfl rfl (Nat.le_of_ble_eq_true rfl) (Nat.le_of_ble_eq_true rfl) (Nat.le_of_ble_eq_true rfl) (Nat.le_of_ble_eq_true rfl) hf (fun h1 hf => ?_)
  refine aw_aload_n 0 dX8_night_4 rfl ?_
  refine aw_cV_v (st := []) [] wV_RX8_150 (ci := 8) rfl (fun hr er => c_X8_layHand g h1 a0 hr er) dX8_night_5 rfl rfl (Nat.le_of_ble_eq_true rfl) (Nat.le_of_ble_eq_true rfl) (Nat.le_of_ble_eq_true rfl) (Nat.le_of_ble_eq_true rfl) hf (fun h2 hf => ?_)
  refine aw_aload_n 0 dX8_night_8 rfl ?_
  refine aw_cV_wi (st := []) [] wV_RX8_153 (ci := 8) rfl (fun xr hr er => c_X8_goNight g h2 a0 xr hr er) dX8_night_9 rfl rfl (Nat.le_of_ble_eq_true rfl) (Nat.le_of_ble_eq_true rfl) (Nat.le_of_ble_eq_true rfl) (Nat.le_of_ble_eq_true rfl) hf (fun x3 h4 hf => ?_)
  refine aw_istore_n [(1, .int x3), (0, .ref a0)] dX8_night_12 (Nat.le_of_ble_eq_true rfl) rfl ?_
  refine aw_aload_n 1 dX8_night_13 rfl ?_
  refine aw_gR fl_RX8_7 dX8_night_14 hf (fun x5 hf => ?_)
  refine aw_iconst (v := 3) dX8_night_17 rfl ?_
  refine aw_aload_n 1 dX8_night_18 rfl ?_
  refine aw_gI fl_RX8_112 dX8_night_19 hf (fun x6 hf => ?_)
  refine aw_stI dX8_night_22 hf (fun h7 hf => ?_)
  refine aw_iconst (v := 0) dX8_night_23 rfl ?_
  refine aw_istore_n [(2, .int 0), (1, .int x3), (0, .ref a0)] dX8_night_24 (Nat.le_of_ble_eq_true rfl) rfl ?_
  refine aw_pick [2, 1, 0] rfl ?_
  refine reg1 (fun (h8 : Hea) => AW g RX8 cX8_night (3, some .int, "night", 4, 0, 0) (some (.int o), hz) 83 [(1, .int x3)] [] h8 0 0) hf (fun h8 hf => ?_) (fun h8 hf hJ => l_X8_night_25 g  lots h7 a0 x3 0 h8 hf hJ)
  refine aw_iload_n 0 dX8_night_83 rfl ?_
  obtain ⟨rfl, rfl⟩ := so2 hf
  exact aw_iret dX8_night_84 rfl rfl
set_option maxRecDepth 100000 in
set_option maxHeartbeats 4000000 in
theorem l_X8_undo_81 (g : Gx) {res : Option Value × Hea} : ∀ (n : Nat) (h : Hea) (y0 : Nat) (y1 : Int32) (y2 : Int32) (y3 : Int32) (ho : Hea) (hf : f_X8_undo_81 n h y0 y1 y2 y3 = some ho) (kk : AW g RX8 cX8_undo (4, some .int, "undo", 1, 0, 0) res 114 [(0, .ref y0), (1, .int y1), (2, .int y2)] [] ho 0 0), AW g RX8 cX8_undo (4, some .int, "undo", 1, 0, 0) res 81 [(0, .ref y0), (1, .int y1), (2, .int y2), (3, .int y3)] [] h 0 0 := by
  intro n
  induction n with
  | zero =>
    intro h y0 y1 y2 y3 ho hf kk
    rw [f_X8_undo_81] at hf
    cases hf
  | succ n ih =>
    intro h y0 y1 y2 y3 ho hf kk
    rw [f_X8_undo_81] at hf
    refine aw_iload_n 3 dX8_undo_81 rfl ?_
    refine aw_iconst (v := 4) dX8_undo_82 rfl ?_
    refine aw_icmp_ge (tgt := 114) dX8_undo_83 rfl (fun hc => ?_) (fun hc => ?_)
    · have hf := itp0 hc hf
      obtain rfl := so1 hf
      exact aw_pick [0, 1, 2] rfl kk
    · have hf := itn0 hc hf
      refine aw_aload_n 0 dX8_undo_86 rfl ?_
      refine aw_iload_n 2 dX8_undo_87 rfl ?_
      refine aw_iconst (v := 3) dX8_undo_88 rfl ?_
      refine aw_iload_n 3 dX8_undo_89 rfl ?_
      refine aw_iadd dX8_undo_90 ?_
      refine aw_aload_n 0 dX8_undo_91 rfl ?_
      refine aw_gR fl_RX8_7 dX8_undo_92 hf (fun x1 hf => ?_)
      refine aw_iload_n 1 dX8_undo_95 rfl ?_
      refine aw_iconst (v := 2) dX8_undo_96 rfl ?_
      refine aw_iadd dX8_undo_97 ?_
      refine aw_iconst (v := 5) dX8_undo_98 rfl ?_
      refine aw_iload_n 2 dX8_undo_99 rfl ?_
      refine aw_imul dX8_undo_100 ?_
      refine aw_iadd dX8_undo_101 ?_
      refine aw_iload_n 3 dX8_undo_102 rfl ?_
      refine aw_iadd dX8_undo_103 ?_
      refine aw_ldI dX8_undo_104 hf (fun x2 hf => ?_)
      refine aw_cV_v (st := []) [.int y2, .int (3 + y3), .int x2] wV_RX8_146 (ci := 8) rfl (fun hr er => c_X8_set g h y0 y2 (3 + y3) x2 hr er) dX8_undo_105 rfl rfl (Nat.le_of_ble_eq_true rfl) (Nat.le_of_ble_eq_true rfl) (Nat.le_of_ble_eq_true rfl) (Nat.le_of_ble_eq_true rfl) hf (fun h3 hf => ?_)
      refine aw_iinc (y3 + 1) [(3, .int (y3 + 1)), (0, .ref y0), (1, .int y1), (2, .int y2)] 3 dX8_undo_108 rfl rfl (Nat.le_of_ble_eq_true rfl) rfl ?_
      refine aw_goto (tgt := 81) dX8_undo_111 rfl ?_
      refine aw_pick [1, 2, 3, 0] rfl ?_
      exact ih h3 y0 y1 y2 (y3 + 1) ho hf kk
set_option maxRecDepth 100000 in
set_option maxHeartbeats 4000000 in
theorem l_X8_undo_55 (g : Gx) {res : Option Value × Hea} : ∀ (n : Nat) (h : Hea) (y0 : Nat) (y1 : Int32) (y2 : Int32) (ho : Hea) (hf : f_X8_undo_55 n h y0 y1 y2 = some ho) (kk : AW g RX8 cX8_undo (4, some .int, "undo", 1, 0, 0) res 120 [(0, .ref y0)] [] ho 0 0), AW g RX8 cX8_undo (4, some .int, "undo", 1, 0, 0) res 55 [(0, .ref y0), (1, .int y1), (2, .int y2)] [] h 0 0 := by
  intro n
  induction n with
  | zero =>
    intro h y0 y1 y2 ho hf kk
    rw [f_X8_undo_55] at hf
    cases hf
  | succ n ih =>
    intro h y0 y1 y2 ho hf kk
    rw [f_X8_undo_55] at hf
    refine aw_iload_n 2 dX8_undo_55 rfl ?_
    refine aw_bipush (v := 6) dX8_undo_56 rfl ?_
    refine aw_icmp_ge (tgt := 120) dX8_undo_58 rfl (fun hc => ?_) (fun hc => ?_)
    · have hf := itp0 hc hf
      obtain rfl := so1 hf
      exact aw_pick [0] rfl kk
    · have hf := itn0 hc hf
      refine aw_aload_n 0 dX8_undo_61 rfl ?_
      refine aw_iload_n 2 dX8_undo_62 rfl ?_
      refine aw_iconst (v := 1) dX8_undo_63 rfl ?_
      refine aw_aload_n 0 dX8_undo_64 rfl ?_
      refine aw_gR fl_RX8_7 dX8_undo_65 hf (fun x1 hf => ?_)
      refine aw_iload_n 1 dX8_undo_68 rfl ?_
      refine aw_iconst (v := 1) dX8_undo_69 rfl ?_
      refine aw_iadd dX8_undo_70 ?_
      refine aw_iconst (v := 5) dX8_undo_71 rfl ?_
      refine aw_iload_n 2 dX8_undo_72 rfl ?_
      refine aw_imul dX8_undo_73 ?_
      refine aw_iadd dX8_undo_74 ?_
      refine aw_ldI dX8_undo_75 hf (fun x2 hf => ?_)
      refine aw_cV_v (st := []) [.int y2, .int 1, .int x2] wV_RX8_146 (ci := 8) rfl (fun hr er => c_X8_set g h y0 y2 1 x2 hr er) dX8_undo_76 rfl rfl (Nat.le_of_ble_eq_true rfl) (Nat.le_of_ble_eq_true rfl) (Nat.le_of_ble_eq_true rfl) (Nat.le_of_ble_eq_true rfl) hf (fun h3 hf => ?_)
      refine aw_iconst (v := 0) dX8_undo_79 rfl ?_
      refine aw_istore_n [(3, .int 0), (0, .ref y0), (1, .int y1), (2, .int y2)] dX8_undo_80 (Nat.le_of_ble_eq_true rfl) rfl ?_
      refine aw_pick [1, 2, 3, 0] rfl ?_
      refine reg1 (fun (h4 : Hea) => AW g RX8 cX8_undo (4, some .int, "undo", 1, 0, 0) res 114 [(0, .ref y0), (1, .int y1), (2, .int y2)] [] h4 0 0) hf (fun h4 hf => ?_) (fun h4 hf hJ => l_X8_undo_81 g  lots h3 y0 y1 y2 0 h4 hf hJ)
      refine aw_iinc (y2 + 1) [(2, .int (y2 + 1)), (0, .ref y0), (1, .int y1)] 2 dX8_undo_114 rfl rfl (Nat.le_of_ble_eq_true rfl) rfl ?_
      refine aw_goto (tgt := 55) dX8_undo_117 rfl ?_
      refine aw_pick [1, 2, 0] rfl ?_
      exact ih h4 y0 y1 (y2 + 1) ho hf kk
set_option maxRecDepth 100000 in
set_option maxHeartbeats 4000000 in
theorem c_X8_undo (g : Gx) (h : Hea) (a0 : Nat) (o : Int32) (hz : Hea) (hf : f_X8_undo h a0 = some (o, hz)) : MC g yX8_undo cX8_undo 4 (some .int) 1 0 0 [.ref a0] h (some (.int o), hz) := by
  refine MC_of (own := RX8) (nm := "undo") [(0, .ref a0)] rfl rfl pn_RX8 (Nat.le_of_ble_eq_true rfl) rfl ?_
  rw [f_X8_undo] at hf
  refine aw_aload_n 0 dX8_undo_0 rfl ?_
  refine aw_gR fl_RX8_7 dX8_undo_1 hf (fun x1 hf => ?_)
  refine aw_bipush (v := 6) dX8_undo_4 rfl ?_
  refine aw_ldI dX8_undo_6 hf (fun x2 hf => ?_)
  refine aw_if_ne (tgt := 15) dX8_undo_7 rfl (fun hc => ?_) (fun hc => ?_)
  · have hf := itn0 hc hf
    refine aw_aload_n 0 dX8_undo_15 rfl ?_
    refine aw_gR fl_RX8_7 dX8_undo_16 hf (fun x3 hf => ?_)
    refine aw_bipush (v := 6) dX8_undo_19 rfl ?_
    refine aw_dup2 dX8_undo_21 rfl rfl ?_
    refine aw_ldI dX8_undo_22 hf (fun x4 hf => ?_)
    refine aw_iconst (v := 1) dX8_undo_23 rfl ?_
    refine aw_isub dX8_undo_24 ?_
    refine aw_stI dX8_undo_25 hf (fun h5 hf => ?_)
    refine aw_sipush (v := 151) dX8_undo_26 rfl ?_
    refine aw_bipush (v := 31) dX8_undo_29 rfl ?_
    refine aw_aload_n 0 dX8_undo_31 rfl ?_
    refine aw_gR fl_RX8_7 dX8_undo_32 hf (fun x6 hf => ?_)
    refine aw_bipush (v := 6) dX8_undo_35 rfl ?_
    refine aw_ldI dX8_undo_37 hf (fun x7 hf => ?_)
    refine aw_imul dX8_undo_38 ?_
    refine aw_iadd dX8_undo_39 ?_
    refine aw_istore_n [(1, .int (151 + (31 * x7))), (0, .ref a0)] dX8_undo_40 (Nat.le_of_ble_eq_true rfl) rfl ?_
    refine aw_aload_n 1 dX8_undo_41 rfl ?_
    refine aw_gR fl_RX8_7 dX8_undo_42 hf (fun x8 hf => ?_)
    refine aw_iconst (v := 3) dX8_undo_45 rfl ?_
    refine aw_aload_n 1 dX8_undo_46 rfl ?_
    refine aw_gR fl_RX8_7 dX8_undo_47 hf (fun x9 hf => ?_)
    refine aw_iload_n 0 dX8_undo_50 rfl ?_
    refine aw_ldI dX8_undo_51 hf (fun x10 hf => ?_)
    refine aw_stI dX8_undo_52 hf (fun h11 hf => ?_)
    refine aw_iconst (v := 0) dX8_undo_53 rfl ?_
    refine aw_istore_n [(2, .int 0), (1, .int (151 + (31 * x7))), (0, .ref a0)] dX8_undo_54 (Nat.le_of_ble_eq_true rfl) rfl ?_
    refine aw_pick [2, 1, 0] rfl ?_
    refine reg1 (fun (h12 : Hea) => AW g RX8 cX8_undo (4, some .int, "undo", 1, 0, 0) (some (.int o), hz) 120 [(0, .ref a0)] [] h12 0 0) hf (fun h12 hf => ?_) (fun h12 hf hJ => l_X8_undo_55 g  lots h11 a0 (151 + (31 * x7)) 0 h12 hf hJ)
    refine aw_aload_n 0 dX8_undo_120 rfl ?_
    refine aw_gR fl_RX8_7 dX8_undo_121 hf (fun x13 hf => ?_)
    refine aw_iconst (v := 3) dX8_undo_124 rfl ?_
    refine aw_ldI dX8_undo_125 hf (fun x14 hf => ?_)
    obtain ⟨rfl, rfl⟩ := so2 hf
    exact aw_iret dX8_undo_126 rfl rfl
  · have hf := itp0 hc hf
    refine aw_aload_n 0 dX8_undo_10 rfl ?_
    refine aw_cV_wi (st := []) [] wV_RX8_140 (ci := 8) rfl (fun xr hr er => c_X8_no g h a0 xr hr er) dX8_undo_11 rfl rfl (Nat.le_of_ble_eq_true rfl) (Nat.le_of_ble_eq_true rfl) (Nat.le_of_ble_eq_true rfl) (Nat.le_of_ble_eq_true rfl) hf (fun x15 h16 hf => ?_)
    obtain ⟨rfl, rfl⟩ := so2 hf
    exact aw_iret dX8_undo_14 rfl rfl
set_option maxRecDepth 100000 in
set_option maxHeartbeats 4000000 in
theorem c_X8_of (g : Gx) (h : Hea) (a0 : Nat) (a1 : Int32) (a2 : Int32) (o : Int32) (hz : Hea) (hf : f_X8_of h a0 a1 a2 = some (o, hz)) : MC g yX8_of cX8_of 3 (some .int) 3 0 0 [.ref a0, .int a1, .int a2] h (some (.int o), hz) := by
  refine MC_of (own := RX8) (nm := "of") [(0, .ref a0), (1, .int a1), (2, .int a2)] rfl rfl pn_RX8 (Nat.le_of_ble_eq_true rfl) rfl ?_
  rw [f_X8_of] at hf
  refine aw_aload_n 0 dX8_of_0 rfl ?_
  refine aw_iload_n 1 dX8_of_1 rfl ?_
  refine aw_cV_i (st := []) [.int a1] wV_RX8_137 (ci := 8) rfl (fun xr er => c_X8_isHeir g h a0 a1 xr er) dX8_of_2 rfl rfl (Nat.le_of_ble_eq_true rfl) (Nat.le_of_ble_eq_true rfl) (Nat.le_of_ble_eq_true rfl) (Nat.le_of_ble_eq_true rfl) hf (fun x1 hf => ?_)
  refine aw_if_eq (tgt := 20) dX8_of_5 rfl (fun hc => ?_) (fun hc => ?_)
  · have hf := itp0 hc hf
    refine aw_aload_n 0 dX8_of_20 rfl ?_
    refine aw_bipush (v := (-2)) dX8_of_21 rfl ?_
    refine aw_cV_wi (st := []) [.int (-2)] wV_RX8_86 (ci := 8) rfl (fun xr hr er => c_X8_bad g h a0 (-2) xr hr er) dX8_of_23 rfl rfl (Nat.le_of_ble_eq_true rfl) (Nat.le_of_ble_eq_true rfl) (Nat.le_of_ble_eq_true rfl) (Nat.le_of_ble_eq_true rfl) hf (fun x2 h3 hf => ?_)
    obtain ⟨rfl, rfl⟩ := so2 hf
    exact aw_iret dX8_of_26 rfl rfl
  · have hf := itn0 hc hf
    refine aw_iload_n 2 dX8_of_8 rfl ?_
    refine aw_i2l dX8_of_9 ?_
    refine aw_lconst (v := 0) dX8_of_10 rfl ?_
    refine aw_ldc2 (v := 6) kc_RX8_156 dX8_of_11 ?_
    refine aw_cS_i (st := []) [.long a2.toInt64, .long 0, .long 6] wS_RX8_78 (fun xr er => c_X8_in g h a2.toInt64 0 6 xr er) dX8_of_14 rfl rfl (Nat.le_of_ble_eq_true rfl) (Nat.le_of_ble_eq_true rfl) (Nat.le_of_ble_eq_true rfl) (Nat.le_of_ble_eq_true rfl) hf (fun x4 hf => ?_)
    refine aw_if_ne (tgt := 27) dX8_of_17 rfl (fun hc => ?_) (fun hc => ?_)
    · have hf := itn0 hc hf
      refine aw_aload_n 0 dX8_of_27 rfl ?_
      refine aw_cV_v (st := []) [] wV_RX8_150 (ci := 8) rfl (fun hr er => c_X8_layHand g h a0 hr er) dX8_of_28 rfl rfl (Nat.le_of_ble_eq_true rfl) (Nat.le_of_ble_eq_true rfl) (Nat.le_of_ble_eq_true rfl) (Nat.le_of_ble_eq_true rfl) hf (fun h5 hf => ?_)
      refine aw_iload_n 2 dX8_of_31 rfl ?_
      refine aw_iconst (v := 4) dX8_of_32 rfl ?_
      refine reg1 (fun (v6 : Int32) => AW g RX8 cX8_of (3, some .int, "of", 3, 0, 0) (some (.int o), hz) 66 [] [.int v6] h5 0 0) hf (fun v6 hf => ?_) (fun v6 hf hJ66 => ?_)
      · obtain ⟨rfl, rfl⟩ := so2 hf
        exact aw_iret dX8_of_66 rfl rfl
      · refine aw_icmp_ge (tgt := 45) dX8_of_33 rfl (fun hc => ?_) (fun hc => ?_)
        · have hf := itp0 hc hf
          refine aw_iload_n 2 dX8_of_45 rfl ?_
          refine aw_iconst (v := 4) dX8_of_46 rfl ?_
          refine aw_icmp_ne (tgt := 58) dX8_of_47 rfl (fun hc => ?_) (fun hc => ?_)
          · have hf := itn0 hc hf
            refine aw_aload_n 0 dX8_of_58 rfl ?_
            refine aw_iload_n 1 dX8_of_59 rfl ?_
            refine aw_iload_n 2 dX8_of_60 rfl ?_
            refine aw_iconst (v := 1) dX8_of_61 rfl ?_
            refine aw_isub dX8_of_62 ?_
            refine aw_cV_i (st := []) [.int a1, .int (a2 - 1)] wV_RX8_119 (ci := 8) rfl (fun xr er => c_X8_get g h5 a0 a1 (a2 - 1) xr er) dX8_of_63 rfl rfl (Nat.le_of_ble_eq_true rfl) (Nat.le_of_ble_eq_true rfl) (Nat.le_of_ble_eq_true rfl) (Nat.le_of_ble_eq_true rfl) hf (fun x7 hf => ?_)
            obtain rfl := so1 hf
            exact aw_pick [] rfl hJ66
          · have hf := itp0 hc hf
            refine aw_aload_n 0 dX8_of_50 rfl ?_
            refine aw_iload_n 1 dX8_of_51 rfl ?_
            refine aw_cV_i (st := []) [.int a1] wV_RX8_134 (ci := 8) rfl (fun xr er => c_X8_hiddenOf g h5 a0 a1 xr er) dX8_of_52 rfl rfl (Nat.le_of_ble_eq_true rfl) (Nat.le_of_ble_eq_true rfl) (Nat.le_of_ble_eq_true rfl) (Nat.le_of_ble_eq_true rfl) hf (fun x8 hf => ?_)
            refine aw_goto (tgt := 66) dX8_of_55 rfl ?_
            obtain rfl := so1 hf
            exact aw_pick [] rfl hJ66
        · have hf := itn0 hc hf
          refine aw_aload_n 0 dX8_of_36 rfl ?_
          refine aw_iload_n 1 dX8_of_37 rfl ?_
          refine aw_iload_n 2 dX8_of_38 rfl ?_
          refine aw_cV_i (st := []) [.int a1, .int a2] wV_RX8_119 (ci := 8) rfl (fun xr er => c_X8_get g h5 a0 a1 a2 xr er) dX8_of_39 rfl rfl (Nat.le_of_ble_eq_true rfl) (Nat.le_of_ble_eq_true rfl) (Nat.le_of_ble_eq_true rfl) (Nat.le_of_ble_eq_true rfl) hf (fun x9 hf => ?_)
          refine aw_goto (tgt := 66) dX8_of_42 rfl ?_
          obtain rfl := so1 hf
          exact aw_pick [] rfl hJ66
    · have hf := itp0 hc hf
      refine aw_aload_n 0 dX8_of_20 rfl ?_
      refine aw_bipush (v := (-2)) dX8_of_21 rfl ?_
      refine aw_cV_wi (st := []) [.int (-2)] wV_RX8_86 (ci := 8) rfl (fun xr hr er => c_X8_bad g h a0 (-2) xr hr er) dX8_of_23 rfl rfl (Nat.le_of_ble_eq_true rfl) (Nat.le_of_ble_eq_true rfl) (Nat.le_of_ble_eq_true rfl) (Nat.le_of_ble_eq_true rfl) hf (fun x10 h11 hf => ?_)
      obtain ⟨rfl, rfl⟩ := so2 hf
      exact aw_iret dX8_of_26 rfl rfl
set_option maxRecDepth 100000 in
set_option maxHeartbeats 4000000 in
theorem c_X8_looks (g : Gx) (h : Hea) (a0 : Nat) (a1 : Int32) (o : Int32) (hz : Hea) (hf : f_X8_looks h a0 a1 = some (o, hz)) : MC g yX8_looks cX8_looks 2 (some .int) 1 0 0 [.ref a0, .int a1] h (some (.int o), hz) := by
  refine MC_of (own := RX8) (nm := "looks") [(0, .ref a0), (1, .int a1)] rfl rfl pn_RX8 (Nat.le_of_ble_eq_true rfl) rfl ?_
  rw [f_X8_looks] at hf
  refine aw_iload_n 1 dX8_looks_0 rfl ?_
  refine aw_i2l dX8_looks_1 ?_
  refine aw_lconst (v := 0) dX8_looks_2 rfl ?_
  refine aw_ldc2 (v := 99) kc_RX8_158 dX8_looks_3 ?_
  refine aw_cS_i (st := []) [.long a1.toInt64, .long 0, .long 99] wS_RX8_78 (fun xr er => c_X8_in g h a1.toInt64 0 99 xr er) dX8_looks_6 rfl rfl (Nat.le_of_ble_eq_true rfl) (Nat.le_of_ble_eq_true rfl) (Nat.le_of_ble_eq_true rfl) (Nat.le_of_ble_eq_true rfl) hf (fun x1 hf => ?_)
  refine reg2 (fun (v2 : Int32) (h3 : Hea) => AW g RX8 cX8_looks (2, some .int, "looks", 1, 0, 0) (some (.int o), hz) 26 [] [.int v2] h3 0 0) hf (fun v2 h3 hf => ?_) (fun v2 h3 hf hJ26 => ?_)
  · obtain ⟨rfl, rfl⟩ := so2 hf
    exact aw_iret dX8_looks_26 rfl rfl
  · refine aw_if_eq (tgt := 20) dX8_looks_9 rfl (fun hc => ?_) (fun hc => ?_)
    · have hf := itp0 hc hf
      refine aw_aload_n 0 dX8_looks_20 rfl ?_
      refine aw_bipush (v := (-2)) dX8_looks_21 rfl ?_
      refine aw_cV_wi (st := []) [.int (-2)] wV_RX8_86 (ci := 8) rfl (fun xr hr er => c_X8_bad g h a0 (-2) xr hr er) dX8_looks_23 rfl rfl (Nat.le_of_ble_eq_true rfl) (Nat.le_of_ble_eq_true rfl) (Nat.le_of_ble_eq_true rfl) (Nat.le_of_ble_eq_true rfl) hf (fun x4 h5 hf => ?_)
      obtain ⟨rfl, rfl⟩ := so2 hf
      exact aw_pick [] rfl hJ26
    · have hf := itn0 hc hf
      refine aw_aload_n 0 dX8_looks_12 rfl ?_
      refine aw_iload_n 1 dX8_looks_13 rfl ?_
      refine aw_cV_i (st := []) [.int a1] wV_RX8_131 (ci := 8) rfl (fun xr er => c_X8_looksIn g h a0 a1 xr er) dX8_looks_14 rfl rfl (Nat.le_of_ble_eq_true rfl) (Nat.le_of_ble_eq_true rfl) (Nat.le_of_ble_eq_true rfl) (Nat.le_of_ble_eq_true rfl) hf (fun x6 hf => ?_)
      refine aw_goto (tgt := 26) dX8_looks_17 rfl ?_
      obtain ⟨rfl, rfl⟩ := so2 hf
      exact aw_pick [] rfl hJ26
set_option maxRecDepth 100000 in
set_option maxHeartbeats 4000000 in
theorem l_X8_byThen_44 (g : Gx) {res : Option Value × Hea} : ∀ (n : Nat) (h : Hea) (y0 : Nat) (y1 : Int32) (y2 : Int32) (y3 : Int32) (y4 : Int32) (ho : Hea) (hf : f_X8_byThen_44 n h y0 y2 y4 = some ho) (kk : AW g RX8 cX8_byThen (6, some .int, "byThen", 4, 0, 0) res 62 [(0, .ref y0), (1, .int y1), (3, .int y3)] [] ho 0 0), AW g RX8 cX8_byThen (6, some .int, "byThen", 4, 0, 0) res 44 [(0, .ref y0), (1, .int y1), (2, .int y2), (3, .int y3), (4, .int y4)] [] h 0 0 := by
  intro n
  induction n with
  | zero =>
    intro h y0 y1 y2 y3 y4 ho hf kk
    rw [f_X8_byThen_44] at hf
    cases hf
  | succ n ih =>
    intro h y0 y1 y2 y3 y4 ho hf kk
    rw [f_X8_byThen_44] at hf
    refine aw_iload 4 dX8_byThen_44 rfl ?_
    refine aw_iload_n 2 dX8_byThen_46 rfl ?_
    refine aw_icmp_ge (tgt := 62) dX8_byThen_47 rfl (fun hc => ?_) (fun hc => ?_)
    · have hf := itp0 hc hf
      obtain rfl := so1 hf
      exact aw_pick [0, 1, 3] rfl kk
    · have hf := itn0 hc hf
      refine aw_aload_n 0 dX8_byThen_50 rfl ?_
      refine aw_cV_wi (st := []) [] wV_RX8_153 (ci := 8) rfl (fun xr hr er => c_X8_goNight g h y0 xr hr er) dX8_byThen_51 rfl rfl (Nat.le_of_ble_eq_true rfl) (Nat.le_of_ble_eq_true rfl) (Nat.le_of_ble_eq_true rfl) (Nat.le_of_ble_eq_true rfl) hf (fun x1 h2 hf => ?_)
      refine aw_istore [(5, .int x1), (0, .ref y0), (1, .int y1), (2, .int y2), (3, .int y3), (4, .int y4)] dX8_byThen_54 (Nat.le_of_ble_eq_true rfl) rfl ?_
      refine aw_iinc (y4 + 1) [(4, .int (y4 + 1)), (5, .int x1), (0, .ref y0), (1, .int y1), (2, .int y2), (3, .int y3)] 5 dX8_byThen_56 rfl rfl (Nat.le_of_ble_eq_true rfl) rfl ?_
      refine aw_goto (tgt := 44) dX8_byThen_59 rfl ?_
      refine aw_pick [2, 3, 4, 5, 0] rfl ?_
      exact ih h2 y0 y1 y2 y3 (y4 + 1) ho hf kk
set_option maxRecDepth 100000 in
set_option maxHeartbeats 4000000 in
theorem c_X8_byThen (g : Gx) (h : Hea) (a0 : Nat) (a1 : Int32) (a2 : Int32) (a3 : Int32) (o : Int32) (hz : Hea) (hf : f_X8_byThen h a0 a1 a2 a3 = some (o, hz)) : MC g yX8_byThen cX8_byThen 6 (some .int) 4 0 0 [.ref a0, .int a1, .int a2, .int a3] h (some (.int o), hz) := by
  refine MC_of (own := RX8) (nm := "byThen") [(0, .ref a0), (1, .int a1), (2, .int a2), (3, .int a3)] rfl rfl pn_RX8 (Nat.le_of_ble_eq_true rfl) rfl ?_
  rw [f_X8_byThen] at hf
  refine aw_aload_n 0 dX8_byThen_0 rfl ?_
  refine aw_iload_n 1 dX8_byThen_1 rfl ?_
  refine aw_cV_i (st := []) [.int a1] wV_RX8_137 (ci := 8) rfl (fun xr er => c_X8_isHeir g h a0 a1 xr er) dX8_byThen_2 rfl rfl (Nat.le_of_ble_eq_true rfl) (Nat.le_of_ble_eq_true rfl) (Nat.le_of_ble_eq_true rfl) (Nat.le_of_ble_eq_true rfl) hf (fun x1 hf => ?_)
  refine aw_if_eq (tgt := 30) dX8_byThen_5 rfl (fun hc => ?_) (fun hc => ?_)
  · have hf := itp0 hc hf
    refine aw_aload_n 0 dX8_byThen_30 rfl ?_
    refine aw_bipush (v := (-2)) dX8_byThen_31 rfl ?_
    refine aw_cV_wi (st := []) [.int (-2)] wV_RX8_86 (ci := 8) rfl (fun xr hr er => c_X8_bad g h a0 (-2) xr hr er) dX8_byThen_33 rfl rfl (Nat.le_of_ble_eq_true rfl) (Nat.le_of_ble_eq_true rfl) (Nat.le_of_ble_eq_true rfl) (Nat.le_of_ble_eq_true rfl) hf (fun x2 h3 hf => ?_)
    obtain ⟨rfl, rfl⟩ := so2 hf
    exact aw_iret dX8_byThen_36 rfl rfl
  · have hf := itn0 hc hf
    refine aw_iload_n 2 dX8_byThen_8 rfl ?_
    refine aw_i2l dX8_byThen_9 ?_
    refine aw_lconst (v := 1) dX8_byThen_10 rfl ?_
    refine aw_ldc2 (v := 60) kc_RX8_160 dX8_byThen_11 ?_
    refine aw_cS_i (st := []) [.long a2.toInt64, .long 1, .long 60] wS_RX8_78 (fun xr er => c_X8_in g h a2.toInt64 1 60 xr er) dX8_byThen_14 rfl rfl (Nat.le_of_ble_eq_true rfl) (Nat.le_of_ble_eq_true rfl) (Nat.le_of_ble_eq_true rfl) (Nat.le_of_ble_eq_true rfl) hf (fun x4 hf => ?_)
    refine aw_if_eq (tgt := 30) dX8_byThen_17 rfl (fun hc => ?_) (fun hc => ?_)
    · have hf := itp0 hc hf
      refine aw_aload_n 0 dX8_byThen_30 rfl ?_
      refine aw_bipush (v := (-2)) dX8_byThen_31 rfl ?_
      refine aw_cV_wi (st := []) [.int (-2)] wV_RX8_86 (ci := 8) rfl (fun xr hr er => c_X8_bad g h a0 (-2) xr hr er) dX8_byThen_33 rfl rfl (Nat.le_of_ble_eq_true rfl) (Nat.le_of_ble_eq_true rfl) (Nat.le_of_ble_eq_true rfl) (Nat.le_of_ble_eq_true rfl) hf (fun x5 h6 hf => ?_)
      obtain ⟨rfl, rfl⟩ := so2 hf
      exact aw_iret dX8_byThen_36 rfl rfl
    · have hf := itn0 hc hf
      refine aw_iload_n 3 dX8_byThen_20 rfl ?_
      refine aw_i2l dX8_byThen_21 ?_
      refine aw_lconst (v := 0) dX8_byThen_22 rfl ?_
      refine aw_lconst (v := 1) dX8_byThen_23 rfl ?_
      refine aw_cS_i (st := []) [.long a3.toInt64, .long 0, .long 1] wS_RX8_78 (fun xr er => c_X8_in g h a3.toInt64 0 1 xr er) dX8_byThen_24 rfl rfl (Nat.le_of_ble_eq_true rfl) (Nat.le_of_ble_eq_true rfl) (Nat.le_of_ble_eq_true rfl) (Nat.le_of_ble_eq_true rfl) hf (fun x7 hf => ?_)
      refine aw_if_ne (tgt := 37) dX8_byThen_27 rfl (fun hc => ?_) (fun hc => ?_)
      · have hf := itn0 hc hf
        refine aw_aload_n 0 dX8_byThen_37 rfl ?_
        refine aw_cV_v (st := []) [] wV_RX8_150 (ci := 8) rfl (fun hr er => c_X8_layHand g h a0 hr er) dX8_byThen_38 rfl rfl (Nat.le_of_ble_eq_true rfl) (Nat.le_of_ble_eq_true rfl) (Nat.le_of_ble_eq_true rfl) (Nat.le_of_ble_eq_true rfl) hf (fun h8 hf => ?_)
        refine aw_iconst (v := 0) dX8_byThen_41 rfl ?_
        refine aw_istore [(4, .int 0), (0, .ref a0), (1, .int a1), (2, .int a2), (3, .int a3)] dX8_byThen_42 (Nat.le_of_ble_eq_true rfl) rfl ?_
        refine aw_pick [1, 2, 3, 4, 0] rfl ?_
        refine reg1 (fun (h9 : Hea) => AW g RX8 cX8_byThen (6, some .int, "byThen", 4, 0, 0) (some (.int o), hz) 62 [(0, .ref a0), (1, .int a1), (3, .int a3)] [] h9 0 0) hf (fun h9 hf => ?_) (fun h9 hf hJ => l_X8_byThen_44 g  lots h8 a0 a1 a2 a3 0 h9 hf hJ)
        refine aw_iload_n 2 dX8_byThen_62 rfl ?_
        refine reg1 (fun (v10 : Int32) => AW g RX8 cX8_byThen (6, some .int, "byThen", 4, 0, 0) (some (.int o), hz) 81 [] [.int v10] h9 0 0) hf (fun v10 hf => ?_) (fun v10 hf hJ81 => ?_)
        · obtain ⟨rfl, rfl⟩ := so2 hf
          exact aw_iret dX8_byThen_81 rfl rfl
        · refine aw_if_ne (tgt := 75) dX8_byThen_63 rfl (fun hc => ?_) (fun hc => ?_)
          · have hf := itn0 hc hf
            refine aw_aload_n 0 dX8_byThen_75 rfl ?_
            refine aw_gR fl_RX8_36 dX8_byThen_76 hf (fun x11 hf => ?_)
            refine aw_iload_n 1 dX8_byThen_79 rfl ?_
            refine aw_ldI dX8_byThen_80 hf (fun x12 hf => ?_)
            obtain rfl := so1 hf
            exact aw_pick [] rfl hJ81
          · have hf := itp0 hc hf
            refine aw_aload_n 0 dX8_byThen_66 rfl ?_
            refine aw_gR fl_RX8_33 dX8_byThen_67 hf (fun x13 hf => ?_)
            refine aw_iload_n 1 dX8_byThen_70 rfl ?_
            refine aw_ldI dX8_byThen_71 hf (fun x14 hf => ?_)
            refine aw_goto (tgt := 81) dX8_byThen_72 rfl ?_
            obtain rfl := so1 hf
            exact aw_pick [] rfl hJ81
      · have hf := itp0 hc hf
        refine aw_aload_n 0 dX8_byThen_30 rfl ?_
        refine aw_bipush (v := (-2)) dX8_byThen_31 rfl ?_
        refine aw_cV_wi (st := []) [.int (-2)] wV_RX8_86 (ci := 8) rfl (fun xr hr er => c_X8_bad g h a0 (-2) xr hr er) dX8_byThen_33 rfl rfl (Nat.le_of_ble_eq_true rfl) (Nat.le_of_ble_eq_true rfl) (Nat.le_of_ble_eq_true rfl) (Nat.le_of_ble_eq_true rfl) hf (fun x15 h16 hf => ?_)
        obtain ⟨rfl, rfl⟩ := so2 hf
        exact aw_iret dX8_byThen_36 rfl rfl
set_option maxRecDepth 100000 in
set_option maxHeartbeats 4000000 in
theorem l_X8_goTill_4 (g : Gx) {res : Option Value × Hea} : ∀ (n : Nat) (h : Hea) (y0 : Nat) (y1 : Int32) (y2 : Int32) (o1 : Int32) (ho : Hea) (hf : f_X8_goTill_4 n h y0 y1 y2 = some (o1, ho)) (kk : AW g RX8 cX8_goTill (3, some .int, "goTill", 4, 0, 0) res 25 [(1, .int o1)] [] ho 0 0), AW g RX8 cX8_goTill (3, some .int, "goTill", 4, 0, 0) res 4 [(0, .ref y0), (1, .int y1), (2, .int y2)] [] h 0 0 := by
  intro n
  induction n with
  | zero =>
    intro h y0 y1 y2 o1 ho hf kk
    rw [f_X8_goTill_4] at hf
    cases hf
  | succ n ih =>
    intro h y0 y1 y2 o1 ho hf kk
    rw [f_X8_goTill_4] at hf
    refine aw_iload_n 2 dX8_goTill_4 rfl ?_
    refine aw_bipush (v := 60) dX8_goTill_5 rfl ?_
    refine aw_icmp_ge (tgt := 25) dX8_goTill_7 rfl (fun hc => ?_) (fun hc => ?_)
    · have hf := itp0 hc hf
      obtain ⟨rfl, rfl⟩ := so2 hf
      exact aw_pick [1] rfl kk
    · have hf := itn0 hc hf
      refine aw_iload_n 1 dX8_goTill_10 rfl ?_
      refine aw_if_ne (tgt := 25) dX8_goTill_11 rfl (fun hc => ?_) (fun hc => ?_)
      · have hf := itn0 hc hf
        obtain ⟨rfl, rfl⟩ := so2 hf
        exact aw_pick [1] rfl kk
      · have hf := itp0 hc hf
        refine aw_aload_n 0 dX8_goTill_14 rfl ?_
        refine aw_cV_wi (st := []) [] wV_RX8_153 (ci := 8) rfl (fun xr hr er => c_X8_goNight g h y0 xr hr er) dX8_goTill_15 rfl rfl (Nat.le_of_ble_eq_true rfl) (Nat.le_of_ble_eq_true rfl) (Nat.le_of_ble_eq_true rfl) (Nat.le_of_ble_eq_true rfl) hf (fun x1 h2 hf => ?_)
        refine aw_istore_n [(1, .int x1), (0, .ref y0), (2, .int y2)] dX8_goTill_18 (Nat.le_of_ble_eq_true rfl) rfl ?_
        refine aw_iinc (y2 + 1) [(2, .int (y2 + 1)), (1, .int x1), (0, .ref y0)] 2 dX8_goTill_19 rfl rfl (Nat.le_of_ble_eq_true rfl) rfl ?_
        refine aw_goto (tgt := 4) dX8_goTill_22 rfl ?_
        refine aw_pick [2, 1, 0] rfl ?_
        exact ih h2 y0 x1 (y2 + 1) o1 ho hf kk
set_option maxRecDepth 100000 in
set_option maxHeartbeats 4000000 in
theorem c_X8_goTill (g : Gx) (h : Hea) (a0 : Nat) (o : Int32) (hz : Hea) (hf : f_X8_goTill h a0 = some (o, hz)) : MC g yX8_goTill cX8_goTill 3 (some .int) 4 0 0 [.ref a0] h (some (.int o), hz) := by
  refine MC_of (own := RX8) (nm := "goTill") [(0, .ref a0)] rfl rfl pn_RX8 (Nat.le_of_ble_eq_true rfl) rfl ?_
  rw [f_X8_goTill] at hf
  refine aw_iconst (v := 0) dX8_goTill_0 rfl ?_
  refine aw_istore_n [(1, .int 0), (0, .ref a0)] dX8_goTill_1 (Nat.le_of_ble_eq_true rfl) rfl ?_
  refine aw_iconst (v := 0) dX8_goTill_2 rfl ?_
  refine aw_istore_n [(2, .int 0), (1, .int 0), (0, .ref a0)] dX8_goTill_3 (Nat.le_of_ble_eq_true rfl) rfl ?_
  refine aw_pick [2, 1, 0] rfl ?_
  refine reg2 (fun (v1 : Int32) (h2 : Hea) => AW g RX8 cX8_goTill (3, some .int, "goTill", 4, 0, 0) (some (.int o), hz) 25 [(1, .int v1)] [] h2 0 0) hf (fun v1 h2 hf => ?_) (fun v1 h2 hf hJ => l_X8_goTill_4 g  lots h a0 0 0 v1 h2 hf hJ)
  refine aw_iload_n 0 dX8_goTill_25 rfl ?_
  obtain ⟨rfl, rfl⟩ := so2 hf
  exact aw_iret dX8_goTill_26 rfl rfl
set_option maxRecDepth 100000 in
set_option maxHeartbeats 4000000 in
theorem c_X8_first (g : Gx) (h : Hea) (a0 : Nat) (a1 : Int32) (o : Int32) (hz : Hea) (hf : f_X8_first h a0 a1 = some (o, hz)) : MC g yX8_first cX8_first 3 (some .int) 5 0 0 [.ref a0, .int a1] h (some (.int o), hz) := by
  refine MC_of (own := RX8) (nm := "first") [(0, .ref a0), (1, .int a1)] rfl rfl pn_RX8 (Nat.le_of_ble_eq_true rfl) rfl ?_
  rw [f_X8_first] at hf
  refine aw_iload_n 1 dX8_first_0 rfl ?_
  refine aw_i2l dX8_first_1 ?_
  refine aw_lconst (v := 0) dX8_first_2 rfl ?_
  refine aw_lconst (v := 1) dX8_first_3 rfl ?_
  refine aw_cS_i (st := []) [.long a1.toInt64, .long 0, .long 1] wS_RX8_78 (fun xr er => c_X8_in g h a1.toInt64 0 1 xr er) dX8_first_4 rfl rfl (Nat.le_of_ble_eq_true rfl) (Nat.le_of_ble_eq_true rfl) (Nat.le_of_ble_eq_true rfl) (Nat.le_of_ble_eq_true rfl) hf (fun x1 hf => ?_)
  refine aw_if_ne (tgt := 17) dX8_first_7 rfl (fun hc => ?_) (fun hc => ?_)
  · have hf := itn0 hc hf
    refine aw_aload_n 0 dX8_first_17 rfl ?_
    refine aw_cV_v (st := []) [] wV_RX8_150 (ci := 8) rfl (fun hr er => c_X8_layHand g h a0 hr er) dX8_first_18 rfl rfl (Nat.le_of_ble_eq_true rfl) (Nat.le_of_ble_eq_true rfl) (Nat.le_of_ble_eq_true rfl) (Nat.le_of_ble_eq_true rfl) hf (fun h2 hf => ?_)
    refine aw_aload_n 0 dX8_first_21 rfl ?_
    refine aw_cV_wi (st := []) [] wV_RX8_162 (ci := 8) rfl (fun xr hr er => c_X8_goTill g h2 a0 xr hr er) dX8_first_22 rfl rfl (Nat.le_of_ble_eq_true rfl) (Nat.le_of_ble_eq_true rfl) (Nat.le_of_ble_eq_true rfl) (Nat.le_of_ble_eq_true rfl) hf (fun x3 h4 hf => ?_)
    refine aw_istore_n [(2, .int x3), (0, .ref a0), (1, .int a1)] dX8_first_25 (Nat.le_of_ble_eq_true rfl) rfl ?_
    refine aw_iload_n 0 dX8_first_26 rfl ?_
    refine reg1 (fun (v5 : Int32) => AW g RX8 cX8_first (3, some .int, "first", 5, 0, 0) (some (.int o), hz) 48 [] [.int v5] h4 0 0) hf (fun v5 hf => ?_) (fun v5 hf hJ48 => ?_)
    · obtain ⟨rfl, rfl⟩ := so2 hf
      exact aw_iret dX8_first_48 rfl rfl
    · refine aw_if_ne (tgt := 34) dX8_first_27 rfl (fun hc => ?_) (fun hc => ?_)
      · have hf := itn0 hc hf
        refine aw_iload_n 2 dX8_first_34 rfl ?_
        refine aw_if_ne (tgt := 47) dX8_first_35 rfl (fun hc => ?_) (fun hc => ?_)
        · have hf := itn0 hc hf
          refine aw_iload_n 0 dX8_first_47 rfl ?_
          obtain rfl := so1 hf
          exact aw_pick [] rfl hJ48
        · have hf := itp0 hc hf
          refine aw_aload_n 1 dX8_first_38 rfl ?_
          refine aw_gI fl_RX8_112 dX8_first_39 hf (fun x6 hf => ?_)
          refine aw_iconst (v := 1) dX8_first_42 rfl ?_
          refine aw_isub dX8_first_43 ?_
          refine aw_goto (tgt := 48) dX8_first_44 rfl ?_
          obtain rfl := so1 hf
          exact aw_pick [] rfl hJ48
      · have hf := itp0 hc hf
        refine aw_iconst (v := (-1)) dX8_first_30 rfl ?_
        refine aw_goto (tgt := 48) dX8_first_31 rfl ?_
        obtain rfl := so1 hf
        exact aw_pick [] rfl hJ48
  · have hf := itp0 hc hf
    refine aw_aload_n 0 dX8_first_10 rfl ?_
    refine aw_bipush (v := (-2)) dX8_first_11 rfl ?_
    refine aw_cV_wi (st := []) [.int (-2)] wV_RX8_86 (ci := 8) rfl (fun xr hr er => c_X8_bad g h a0 (-2) xr hr er) dX8_first_13 rfl rfl (Nat.le_of_ble_eq_true rfl) (Nat.le_of_ble_eq_true rfl) (Nat.le_of_ble_eq_true rfl) (Nat.le_of_ble_eq_true rfl) hf (fun x7 h8 hf => ?_)
    obtain ⟨rfl, rfl⟩ := so2 hf
    exact aw_iret dX8_first_16 rfl rfl
set_option maxRecDepth 100000 in
set_option maxHeartbeats 4000000 in
theorem l_X8_passed_19 (g : Gx) {res : Option Value × Hea} : ∀ (n : Nat) (h : Hea) (y0 : Nat) (y1 : Int32) (y2 : Int32) (y3 : Int32) (o1 : Int32) (hf : f_X8_passed_19 n h y0 y1 y2 y3 = some o1) (kk : AW g RX8 cX8_passed (6, some .int, "passed", 3, 0, 0) res 101 [(1, .int o1)] [] h 0 0), AW g RX8 cX8_passed (6, some .int, "passed", 3, 0, 0) res 19 [(0, .ref y0), (1, .int y1), (2, .int y2), (3, .int y3)] [] h 0 0 := by
  intro n
  induction n with
  | zero =>
    intro h y0 y1 y2 y3 o1 hf kk
    rw [f_X8_passed_19] at hf
    cases hf
  | succ n ih =>
    intro h y0 y1 y2 y3 o1 hf kk
    rw [f_X8_passed_19] at hf
    refine aw_iload_n 3 dX8_passed_19 rfl ?_
    refine aw_aload_n 0 dX8_passed_20 rfl ?_
    refine aw_cV_i (st := [.int y3]) [] wV_RX8_74 (ci := 8) rfl (fun xr er => c_X8_heirs g h y0 xr er) dX8_passed_21 rfl rfl (Nat.le_of_ble_eq_true rfl) (Nat.le_of_ble_eq_true rfl) (Nat.le_of_ble_eq_true rfl) (Nat.le_of_ble_eq_true rfl) hf (fun x1 hf => ?_)
    refine aw_icmp_ge (tgt := 101) dX8_passed_24 rfl (fun hc => ?_) (fun hc => ?_)
    · have hf := itp0 hc hf
      obtain rfl := so1 hf
      exact aw_pick [1] rfl kk
    · have hf := itn0 hc hf
      refine aw_aload_n 0 dX8_passed_27 rfl ?_
      refine aw_iload_n 3 dX8_passed_28 rfl ?_
      refine aw_cV_i (st := []) [.int y3] wV_RX8_134 (ci := 8) rfl (fun xr er => c_X8_hiddenOf g h y0 y3 xr er) dX8_passed_29 rfl rfl (Nat.le_of_ble_eq_true rfl) (Nat.le_of_ble_eq_true rfl) (Nat.le_of_ble_eq_true rfl) (Nat.le_of_ble_eq_true rfl) hf (fun x2 hf => ?_)
      refine aw_istore [(4, .int x2), (0, .ref y0), (1, .int y1), (2, .int y2), (3, .int y3)] dX8_passed_32 (Nat.le_of_ble_eq_true rfl) rfl ?_
      refine aw_aload_n 1 dX8_passed_34 rfl ?_
      refine aw_gR fl_RX8_33 dX8_passed_35 hf (fun x3 hf => ?_)
      refine aw_iload_n 4 dX8_passed_38 rfl ?_
      refine aw_ldI dX8_passed_39 hf (fun x4 hf => ?_)
      refine reg1 (fun (v5 : Int32) => AW g RX8 cX8_passed (6, some .int, "passed", 3, 0, 0) res 78 [(0, .ref y0), (1, .int y1), (2, .int y2), (3, .int y3)] [.int v5] h 0 0) hf (fun v5 hf => ?_) (fun v5 hf hJ78 => ?_)
      · refine aw_istore [(5, .int v5), (0, .ref y0), (1, .int y1), (2, .int y2), (3, .int y3)] dX8_passed_78 (Nat.le_of_ble_eq_true rfl) rfl ?_
        refine aw_iload_n 2 dX8_passed_80 rfl ?_
        refine aw_iload 0 dX8_passed_81 rfl ?_
        refine reg1 (fun (v11 : Int32) => AW g RX8 cX8_passed (6, some .int, "passed", 3, 0, 0) res 93 [(0, .ref y0), (2, .int y2), (3, .int y3)] [.int v11, .int y1] h 0 0) hf (fun v11 hf => ?_) (fun v11 hf hJ93 => ?_)
        · refine aw_ior dX8_passed_93 ?_
          refine aw_istore_n [(1, .int (y1 ||| v11)), (0, .ref y0), (2, .int y2), (3, .int y3)] dX8_passed_94 (Nat.le_of_ble_eq_true rfl) rfl ?_
          refine aw_iinc (y3 + 1) [(3, .int (y3 + 1)), (1, .int (y1 ||| v11)), (0, .ref y0), (2, .int y2)] 3 dX8_passed_95 rfl rfl (Nat.le_of_ble_eq_true rfl) rfl ?_
          refine aw_goto (tgt := 19) dX8_passed_98 rfl ?_
          refine aw_pick [2, 1, 3, 0] rfl ?_
          exact ih h y0 (y1 ||| v11) y2 (y3 + 1) o1 hf kk
        · refine aw_if_eq (tgt := 92) dX8_passed_83 rfl (fun hc => ?_) (fun hc => ?_)
          · have hf := itp0 hc hf
            refine aw_iconst (v := 0) dX8_passed_92 rfl ?_
            obtain rfl := so1 hf
            exact aw_pick [1, 3, 4] rfl hJ93
          · have hf := itn0 hc hf
            refine aw_iconst (v := 1) dX8_passed_86 rfl ?_
            refine aw_iload_n 4 dX8_passed_87 rfl ?_
            refine aw_ishl dX8_passed_88 ?_
            refine aw_goto (tgt := 93) dX8_passed_89 rfl ?_
            obtain rfl := so1 hf
            exact aw_pick [1, 3, 4] rfl hJ93
      · refine aw_if_ne (tgt := 77) dX8_passed_40 rfl (fun hc => ?_) (fun hc => ?_)
        · have hf := itn0 hc hf
          refine aw_iconst (v := 0) dX8_passed_77 rfl ?_
          obtain rfl := so1 hf
          exact aw_pick [1, 2, 3, 4] rfl hJ78
        · have hf := itp0 hc hf
          refine aw_aload_n 1 dX8_passed_43 rfl ?_
          refine aw_gR fl_RX8_27 dX8_passed_44 hf (fun x6 hf => ?_)
          refine aw_iload_n 4 dX8_passed_47 rfl ?_
          refine aw_ldI dX8_passed_48 hf (fun x7 hf => ?_)
          refine aw_iload_n 3 dX8_passed_49 rfl ?_
          refine aw_icmp_ne (tgt := 77) dX8_passed_50 rfl (fun hc => ?_) (fun hc => ?_)
          · have hf := itn0 hc hf
            refine aw_iconst (v := 0) dX8_passed_77 rfl ?_
            obtain rfl := so1 hf
            exact aw_pick [1, 2, 3, 4] rfl hJ78
          · have hf := itp0 hc hf
            refine aw_iload 0 dX8_passed_53 rfl ?_
            refine aw_aload_n 1 dX8_passed_55 rfl ?_
            refine aw_gR fl_RX8_7 dX8_passed_56 hf (fun x8 hf => ?_)
            refine aw_iconst (v := 2) dX8_passed_59 rfl ?_
            refine aw_ldI dX8_passed_60 hf (fun x9 hf => ?_)
            refine aw_icmp_lt (tgt := 77) dX8_passed_61 rfl (fun hc => ?_) (fun hc => ?_)
            · have hf := itp0 hc hf
              refine aw_iconst (v := 0) dX8_passed_77 rfl ?_
              obtain rfl := so1 hf
              exact aw_pick [1, 2, 3, 4] rfl hJ78
            · have hf := itn0 hc hf
              refine aw_iload 0 dX8_passed_64 rfl ?_
              refine aw_aload_n 1 dX8_passed_66 rfl ?_
              refine aw_gI fl_RX8_116 dX8_passed_67 hf (fun x10 hf => ?_)
              refine aw_icmp_lt (tgt := 77) dX8_passed_70 rfl (fun hc => ?_) (fun hc => ?_)
              · have hf := itp0 hc hf
                refine aw_iconst (v := 0) dX8_passed_77 rfl ?_
                obtain rfl := so1 hf
                exact aw_pick [1, 2, 3, 4] rfl hJ78
              · have hf := itn0 hc hf
                refine aw_iconst (v := 1) dX8_passed_73 rfl ?_
                refine aw_goto (tgt := 78) dX8_passed_74 rfl ?_
                obtain rfl := so1 hf
                exact aw_pick [1, 2, 3, 4] rfl hJ78
set_option maxRecDepth 100000 in
set_option maxHeartbeats 4000000 in
theorem c_X8_passed (g : Gx) (h : Hea) (a0 : Nat) (o : Int32) (hz : Hea) (hf : f_X8_passed h a0 = some (o, hz)) : MC g yX8_passed cX8_passed 6 (some .int) 3 0 0 [.ref a0] h (some (.int o), hz) := by
  refine MC_of (own := RX8) (nm := "passed") [(0, .ref a0)] rfl rfl pn_RX8 (Nat.le_of_ble_eq_true rfl) rfl ?_
  rw [f_X8_passed] at hf
  refine aw_iconst (v := 0) dX8_passed_0 rfl ?_
  refine aw_istore_n [(1, .int 0), (0, .ref a0)] dX8_passed_1 (Nat.le_of_ble_eq_true rfl) rfl ?_
  refine aw_aload_n 1 dX8_passed_2 rfl ?_
  refine aw_aload_n 1 dX8_passed_3 rfl ?_
  refine aw_gR fl_RX8_7 dX8_passed_4 hf (fun x1 hf => ?_)
  refine aw_iconst (v := 3) dX8_passed_7 rfl ?_
  refine aw_ldI dX8_passed_8 hf (fun x2 hf => ?_)
  refine aw_cV_i (st := []) [.int x2] wV_RX8_131 (ci := 8) rfl (fun xr er => c_X8_looksIn g h a0 x2 xr er) dX8_passed_9 rfl rfl (Nat.le_of_ble_eq_true rfl) (Nat.le_of_ble_eq_true rfl) (Nat.le_of_ble_eq_true rfl) (Nat.le_of_ble_eq_true rfl) hf (fun x3 hf => ?_)
  refine aw_istore_n [(2, .int x3), (1, .int 0), (0, .ref a0)] dX8_passed_12 (Nat.le_of_ble_eq_true rfl) rfl ?_
  refine aw_aload_n 2 dX8_passed_13 rfl ?_
  refine aw_cV_v (st := []) [] wV_RX8_150 (ci := 8) rfl (fun hr er => c_X8_layHand g h a0 hr er) dX8_passed_14 rfl rfl (Nat.le_of_ble_eq_true rfl) (Nat.le_of_ble_eq_true rfl) (Nat.le_of_ble_eq_true rfl) (Nat.le_of_ble_eq_true rfl) hf (fun h4 hf => ?_)
  refine aw_iconst (v := 0) dX8_passed_17 rfl ?_
  refine aw_istore_n [(3, .int 0), (2, .int x3), (1, .int 0), (0, .ref a0)] dX8_passed_18 (Nat.le_of_ble_eq_true rfl) rfl ?_
  refine aw_pick [3, 2, 1, 0] rfl ?_
  refine reg1 (fun (v5 : Int32) => AW g RX8 cX8_passed (6, some .int, "passed", 3, 0, 0) (some (.int o), hz) 101 [(1, .int v5)] [] h4 0 0) hf (fun v5 hf => ?_) (fun v5 hf hJ => l_X8_passed_19 g  lots h4 a0 0 x3 0 v5 hf hJ)
  refine aw_iload_n 0 dX8_passed_101 rfl ?_
  obtain ⟨rfl, rfl⟩ := so2 hf
  exact aw_iret dX8_passed_102 rfl rfl
set_option maxRecDepth 100000 in
set_option maxHeartbeats 4000000 in
theorem l_X8_foundIn_2 (g : Gx) : ∀ (n : Nat) (h : Hea) (y0 : Nat) (y1 : Int32) (y2 : Int32) (o : Int32) (ho : Hea) (hf : f_X8_foundIn_2 n h y0 y1 y2 = some (o, ho)), AW g RX8 cX8_foundIn (4, some .int, "foundIn", 4, 0, 0) (some (.int o), ho) 2 [(0, .ref y0), (1, .int y1), (2, .int y2)] [] h 0 0 := by
  intro n
  induction n with
  | zero =>
    intro h y0 y1 y2 o ho hf
    rw [f_X8_foundIn_2] at hf
    cases hf
  | succ n ih =>
    intro h y0 y1 y2 o ho hf
    rw [f_X8_foundIn_2] at hf
    refine aw_iload_n 2 dX8_foundIn_2 rfl ?_
    refine aw_bipush (v := 60) dX8_foundIn_3 rfl ?_
    refine aw_icmp_ge (tgt := 30) dX8_foundIn_5 rfl (fun hc => ?_) (fun hc => ?_)
    · have hf := itp0 hc hf
      refine aw_ldc (v := 1000000) kc_RX8_165 dX8_foundIn_30 ?_
      obtain ⟨rfl, rfl⟩ := so2 hf
      exact aw_iret dX8_foundIn_32 rfl rfl
    · have hf := itn0 hc hf
      refine aw_aload_n 0 dX8_foundIn_8 rfl ?_
      refine aw_cV_wi (st := []) [] wV_RX8_153 (ci := 8) rfl (fun xr hr er => c_X8_goNight g h y0 xr hr er) dX8_foundIn_9 rfl rfl (Nat.le_of_ble_eq_true rfl) (Nat.le_of_ble_eq_true rfl) (Nat.le_of_ble_eq_true rfl) (Nat.le_of_ble_eq_true rfl) hf (fun x1 h2 hf => ?_)
      refine aw_istore_n [(3, .int x1), (0, .ref y0), (1, .int y1), (2, .int y2)] dX8_foundIn_12 (Nat.le_of_ble_eq_true rfl) rfl ?_
      refine aw_iload_n 0 dX8_foundIn_13 rfl ?_
      refine aw_iload_n 2 dX8_foundIn_14 rfl ?_
      refine aw_ishr dX8_foundIn_15 ?_
      refine aw_iconst (v := 1) dX8_foundIn_16 rfl ?_
      refine aw_iand dX8_foundIn_17 ?_
      refine aw_iconst (v := 1) dX8_foundIn_18 rfl ?_
      refine aw_icmp_ne (tgt := 24) dX8_foundIn_19 rfl (fun hc => ?_) (fun hc => ?_)
      · have hf := itn0 hc hf
        refine aw_iinc (y2 + 1) [(2, .int (y2 + 1)), (3, .int x1), (0, .ref y0), (1, .int y1)] 3 dX8_foundIn_24 rfl rfl (Nat.le_of_ble_eq_true rfl) rfl ?_
        refine aw_goto (tgt := 2) dX8_foundIn_27 rfl ?_
        refine aw_pick [2, 3, 0] rfl ?_
        exact ih h2 y0 y1 (y2 + 1) o ho hf
      · have hf := itp0 hc hf
        refine aw_iload_n 3 dX8_foundIn_22 rfl ?_
        obtain ⟨rfl, rfl⟩ := so2 hf
        exact aw_iret dX8_foundIn_23 rfl rfl
set_option maxRecDepth 100000 in
set_option maxHeartbeats 4000000 in
theorem c_X8_foundIn (g : Gx) (h : Hea) (a0 : Nat) (a1 : Int32) (o : Int32) (hz : Hea) (hf : f_X8_foundIn h a0 a1 = some (o, hz)) : MC g yX8_foundIn cX8_foundIn 4 (some .int) 4 0 0 [.ref a0, .int a1] h (some (.int o), hz) := by
  refine MC_of (own := RX8) (nm := "foundIn") [(0, .ref a0), (1, .int a1)] rfl rfl pn_RX8 (Nat.le_of_ble_eq_true rfl) rfl ?_
  rw [f_X8_foundIn] at hf
  refine aw_iconst (v := 0) dX8_foundIn_0 rfl ?_
  refine aw_istore_n [(2, .int 0), (0, .ref a0), (1, .int a1)] dX8_foundIn_1 (Nat.le_of_ble_eq_true rfl) rfl ?_
  refine aw_pick [1, 2, 0] rfl ?_
  exact l_X8_foundIn_2 g lots h a0 a1 0 _ _ hf
set_option maxRecDepth 100000 in
set_option maxHeartbeats 4000000 in
theorem l_X8_hide_37 (g : Gx) {res : Option Value × Hea} : ∀ (n : Nat) (h : Hea) (y0 : Nat) (y1 : Int32) (y2 : Int32) (y3 : Int32) (y4 : Int32) (o2 : Int32) (ho : Hea) (hf : f_X8_hide_37 n h y0 y1 y2 y3 y4 = some (o2, ho)) (kk : AW g RX8 cX8_hide (6, some .int, "hide", 5, 0, 0) res 89 [(2, .int o2)] [] ho 0 0), AW g RX8 cX8_hide (6, some .int, "hide", 5, 0, 0) res 37 [(0, .ref y0), (1, .int y1), (2, .int y2), (3, .int y3), (4, .int y4)] [] h 0 0 := by
  intro n
  induction n with
  | zero =>
    intro h y0 y1 y2 y3 y4 o2 ho hf kk
    rw [f_X8_hide_37] at hf
    cases hf
  | succ n ih =>
    intro h y0 y1 y2 y3 y4 o2 ho hf kk
    rw [f_X8_hide_37] at hf
    refine aw_iload 4 dX8_hide_37 rfl ?_
    refine aw_bipush (v := 8) dX8_hide_39 rfl ?_
    refine aw_icmp_ge (tgt := 89) dX8_hide_41 rfl (fun hc => ?_) (fun hc => ?_)
    · have hf := itp0 hc hf
      obtain ⟨rfl, rfl⟩ := so2 hf
      exact aw_pick [2] rfl kk
    · have hf := itn0 hc hf
      refine aw_aload_n 0 dX8_hide_44 rfl ?_
      refine aw_cV_v (st := []) [] wV_RX8_150 (ci := 8) rfl (fun hr er => c_X8_layHand g h y0 hr er) dX8_hide_45 rfl rfl (Nat.le_of_ble_eq_true rfl) (Nat.le_of_ble_eq_true rfl) (Nat.le_of_ble_eq_true rfl) (Nat.le_of_ble_eq_true rfl) hf (fun h1 hf => ?_)
      refine aw_aload_n 0 dX8_hide_48 rfl ?_
      refine aw_gR fl_RX8_27 dX8_hide_49 hf (fun x2 hf => ?_)
      refine aw_iload_n 1 dX8_hide_52 rfl ?_
      refine aw_iload 4 dX8_hide_53 rfl ?_
      refine aw_stI dX8_hide_55 hf (fun h3 hf => ?_)
      refine aw_aload_n 0 dX8_hide_56 rfl ?_
      refine aw_iload_n 1 dX8_hide_57 rfl ?_
      refine aw_cV_wi (st := []) [.int y1] wV_RX8_166 (ci := 8) rfl (fun xr hr er => c_X8_foundIn g h3 y0 y1 xr hr er) dX8_hide_58 rfl rfl (Nat.le_of_ble_eq_true rfl) (Nat.le_of_ble_eq_true rfl) (Nat.le_of_ble_eq_true rfl) (Nat.le_of_ble_eq_true rfl) hf (fun x4 h5 hf => ?_)
      refine aw_istore [(5, .int x4), (0, .ref y0), (1, .int y1), (2, .int y2), (3, .int y3), (4, .int y4)] dX8_hide_61 (Nat.le_of_ble_eq_true rfl) rfl ?_
      refine aw_iload 0 dX8_hide_63 rfl ?_
      refine aw_iload_n 4 dX8_hide_65 rfl ?_
      refine reg1 (fun (v6 : Int32) => AW g RX8 cX8_hide (6, some .int, "hide", 5, 0, 0) res 75 [(0, .ref y0), (1, .int y1), (3, .int y3), (4, .int y4), (5, .int x4)] [.int v6] h5 0 0) hf (fun v6 hf => ?_) (fun v6 hf hJ75 => ?_)
      · refine aw_istore_n [(2, .int v6), (0, .ref y0), (1, .int y1), (3, .int y3), (4, .int y4), (5, .int x4)] dX8_hide_75 (Nat.le_of_ble_eq_true rfl) rfl ?_
        refine aw_iload_n 3 dX8_hide_76 rfl ?_
        refine aw_iload 5 dX8_hide_77 rfl ?_
        refine aw_cS_i (st := []) [.int y3, .int x4] wS_RX8_122 (fun xr er => c_X8_least g h5 y3 x4 xr er) dX8_hide_79 rfl rfl (Nat.le_of_ble_eq_true rfl) (Nat.le_of_ble_eq_true rfl) (Nat.le_of_ble_eq_true rfl) (Nat.le_of_ble_eq_true rfl) hf (fun x7 hf => ?_)
        refine aw_istore_n [(3, .int x7), (2, .int v6), (0, .ref y0), (1, .int y1), (4, .int y4), (5, .int x4)] dX8_hide_82 (Nat.le_of_ble_eq_true rfl) rfl ?_
        refine aw_iinc (y4 + 1) [(4, .int (y4 + 1)), (3, .int x7), (2, .int v6), (0, .ref y0), (1, .int y1), (5, .int x4)] 4 dX8_hide_83 rfl rfl (Nat.le_of_ble_eq_true rfl) rfl ?_
        refine aw_goto (tgt := 37) dX8_hide_86 rfl ?_
        refine aw_pick [3, 4, 2, 1, 0] rfl ?_
        exact ih h5 y0 y1 v6 x7 (y4 + 1) o2 ho hf kk
      · refine aw_icmp_ge (tgt := 74) dX8_hide_66 rfl (fun hc => ?_) (fun hc => ?_)
        · have hf := itp0 hc hf
          refine aw_iload_n 3 dX8_hide_74 rfl ?_
          obtain rfl := so1 hf
          exact aw_pick [1, 2, 4, 5, 0] rfl hJ75
        · have hf := itn0 hc hf
          refine aw_iload 5 dX8_hide_69 rfl ?_
          refine aw_goto (tgt := 75) dX8_hide_71 rfl ?_
          obtain rfl := so1 hf
          exact aw_pick [1, 2, 4, 5, 0] rfl hJ75
set_option maxRecDepth 100000 in
set_option maxHeartbeats 4000000 in
theorem c_X8_hide (g : Gx) (h : Hea) (a0 : Nat) (a1 : Int32) (o : Int32) (hz : Hea) (hf : f_X8_hide h a0 a1 = some (o, hz)) : MC g yX8_hide cX8_hide 6 (some .int) 5 0 0 [.ref a0, .int a1] h (some (.int o), hz) := by
  refine MC_of (own := RX8) (nm := "hide") [(0, .ref a0), (1, .int a1)] rfl rfl pn_RX8 (Nat.le_of_ble_eq_true rfl) rfl ?_
  rw [f_X8_hide] at hf
  refine aw_aload_n 0 dX8_hide_0 rfl ?_
  refine aw_iload_n 1 dX8_hide_1 rfl ?_
  refine aw_cV_i (st := []) [.int a1] wV_RX8_137 (ci := 8) rfl (fun xr er => c_X8_isHeir g h a0 a1 xr er) dX8_hide_2 rfl rfl (Nat.le_of_ble_eq_true rfl) (Nat.le_of_ble_eq_true rfl) (Nat.le_of_ble_eq_true rfl) (Nat.le_of_ble_eq_true rfl) hf (fun x1 hf => ?_)
  refine aw_if_ne (tgt := 15) dX8_hide_5 rfl (fun hc => ?_) (fun hc => ?_)
  · have hf := itn0 hc hf
    refine aw_aload_n 0 dX8_hide_15 rfl ?_
    refine aw_iload_n 1 dX8_hide_16 rfl ?_
    refine aw_iconst (v := 4) dX8_hide_17 rfl ?_
    refine aw_cV_i (st := []) [.int a1, .int 4] wV_RX8_119 (ci := 8) rfl (fun xr er => c_X8_get g h a0 a1 4 xr er) dX8_hide_18 rfl rfl (Nat.le_of_ble_eq_true rfl) (Nat.le_of_ble_eq_true rfl) (Nat.le_of_ble_eq_true rfl) (Nat.le_of_ble_eq_true rfl) hf (fun x2 hf => ?_)
    refine aw_if_eq (tgt := 29) dX8_hide_21 rfl (fun hc => ?_) (fun hc => ?_)
    · have hf := itp0 hc hf
      refine aw_iconst (v := (-1)) dX8_hide_29 rfl ?_
      refine aw_istore_n [(2, .int (-1)), (0, .ref a0), (1, .int a1)] dX8_hide_30 (Nat.le_of_ble_eq_true rfl) rfl ?_
      refine aw_ldc (v := 1000000) kc_RX8_165 dX8_hide_31 ?_
      refine aw_istore_n [(3, .int 1000000), (2, .int (-1)), (0, .ref a0), (1, .int a1)] dX8_hide_33 (Nat.le_of_ble_eq_true rfl) rfl ?_
      refine aw_iconst (v := 0) dX8_hide_34 rfl ?_
      refine aw_istore [(4, .int 0), (3, .int 1000000), (2, .int (-1)), (0, .ref a0), (1, .int a1)] dX8_hide_35 (Nat.le_of_ble_eq_true rfl) rfl ?_
      refine aw_pick [3, 4, 2, 1, 0] rfl ?_
      refine reg2 (fun (v3 : Int32) (h4 : Hea) => AW g RX8 cX8_hide (6, some .int, "hide", 5, 0, 0) (some (.int o), hz) 89 [(2, .int v3)] [] h4 0 0) hf (fun v3 h4 hf => ?_) (fun v3 h4 hf hJ => l_X8_hide_37 g  lots h a0 a1 (-1) 1000000 0 v3 h4 hf hJ)
      refine aw_iload_n 0 dX8_hide_89 rfl ?_
      obtain ⟨rfl, rfl⟩ := so2 hf
      exact aw_iret dX8_hide_90 rfl rfl
    · have hf := itn0 hc hf
      refine aw_aload_n 0 dX8_hide_24 rfl ?_
      refine aw_cV_wi (st := []) [] wV_RX8_140 (ci := 8) rfl (fun xr hr er => c_X8_no g h a0 xr hr er) dX8_hide_25 rfl rfl (Nat.le_of_ble_eq_true rfl) (Nat.le_of_ble_eq_true rfl) (Nat.le_of_ble_eq_true rfl) (Nat.le_of_ble_eq_true rfl) hf (fun x5 h6 hf => ?_)
      obtain ⟨rfl, rfl⟩ := so2 hf
      exact aw_iret dX8_hide_28 rfl rfl
  · have hf := itp0 hc hf
    refine aw_aload_n 0 dX8_hide_8 rfl ?_
    refine aw_bipush (v := (-2)) dX8_hide_9 rfl ?_
    refine aw_cV_wi (st := []) [.int (-2)] wV_RX8_86 (ci := 8) rfl (fun xr hr er => c_X8_bad g h a0 (-2) xr hr er) dX8_hide_11 rfl rfl (Nat.le_of_ble_eq_true rfl) (Nat.le_of_ble_eq_true rfl) (Nat.le_of_ble_eq_true rfl) (Nat.le_of_ble_eq_true rfl) hf (fun x7 h8 hf => ?_)
    obtain ⟨rfl, rfl⟩ := so2 hf
    exact aw_iret dX8_hide_14 rfl rfl
set_option maxRecDepth 100000 in
set_option maxHeartbeats 4000000 in
theorem l_X8_moveAll_2 (g : Gx) {res : Option Value × Hea} : ∀ (n : Nat) (h : Hea) (y0 : Nat) (y1 : Int32) (ho : Hea) (hf : f_X8_moveAll_2 n h y0 y1 = some ho) (kk : AW g RX8 cX8_moveAll (4, none, "moveAll", 1, 0, 0) res 26 [(0, .ref y0)] [] ho 0 0), AW g RX8 cX8_moveAll (4, none, "moveAll", 1, 0, 0) res 2 [(0, .ref y0), (1, .int y1)] [] h 0 0 := by
  intro n
  induction n with
  | zero =>
    intro h y0 y1 ho hf kk
    rw [f_X8_moveAll_2] at hf
    cases hf
  | succ n ih =>
    intro h y0 y1 ho hf kk
    rw [f_X8_moveAll_2] at hf
    refine aw_iload_n 1 dX8_moveAll_2 rfl ?_
    refine aw_bipush (v := 48) dX8_moveAll_3 rfl ?_
    refine aw_icmp_ge (tgt := 26) dX8_moveAll_5 rfl (fun hc => ?_) (fun hc => ?_)
    · have hf := itp0 hc hf
      obtain rfl := so1 hf
      exact aw_pick [0] rfl kk
    · have hf := itn0 hc hf
      refine aw_aload_n 0 dX8_moveAll_8 rfl ?_
      refine aw_gR fl_RX8_45 dX8_moveAll_9 hf (fun x1 hf => ?_)
      refine aw_iload_n 1 dX8_moveAll_12 rfl ?_
      refine aw_aload_n 0 dX8_moveAll_13 rfl ?_
      refine aw_gR fl_RX8_42 dX8_moveAll_14 hf (fun x2 hf => ?_)
      refine aw_iload_n 1 dX8_moveAll_17 rfl ?_
      refine aw_ldI dX8_moveAll_18 hf (fun x3 hf => ?_)
      refine aw_stI dX8_moveAll_19 hf (fun h4 hf => ?_)
      refine aw_iinc (y1 + 1) [(1, .int (y1 + 1)), (0, .ref y0)] 1 dX8_moveAll_20 rfl rfl (Nat.le_of_ble_eq_true rfl) rfl ?_
      refine aw_goto (tgt := 2) dX8_moveAll_23 rfl ?_
      refine aw_pick [1, 0] rfl ?_
      exact ih h4 y0 (y1 + 1) ho hf kk
set_option maxRecDepth 100000 in
set_option maxHeartbeats 4000000 in
theorem l_X8_moveAll_36 (g : Gx) {res : Option Value × Hea} : ∀ (n : Nat) (h : Hea) (y0 : Nat) (y1 : Int32) (y2 : Int32) (ho : Hea) (hf : f_X8_moveAll_36 n h y0 y1 y2 = some ho) (kk : AW g RX8 cX8_moveAll (4, none, "moveAll", 1, 0, 0) res 114 [(0, .ref y0), (1, .int y1)] [] ho 0 0), AW g RX8 cX8_moveAll (4, none, "moveAll", 1, 0, 0) res 36 [(0, .ref y0), (1, .int y1), (2, .int y2)] [] h 0 0 := by
  intro n
  induction n with
  | zero =>
    intro h y0 y1 y2 ho hf kk
    rw [f_X8_moveAll_36] at hf
    cases hf
  | succ n ih =>
    intro h y0 y1 y2 ho hf kk
    rw [f_X8_moveAll_36] at hf
    refine aw_iload_n 2 dX8_moveAll_36 rfl ?_
    refine aw_bipush (v := 8) dX8_moveAll_37 rfl ?_
    refine aw_icmp_ge (tgt := 114) dX8_moveAll_39 rfl (fun hc => ?_) (fun hc => ?_)
    · have hf := itp0 hc hf
      obtain rfl := so1 hf
      exact aw_pick [0, 1] rfl kk
    · have hf := itn0 hc hf
      refine aw_aload_n 0 dX8_moveAll_42 rfl ?_
      refine aw_gR fl_RX8_42 dX8_moveAll_43 hf (fun x1 hf => ?_)
      refine aw_iload_n 1 dX8_moveAll_46 rfl ?_
      refine aw_ldI dX8_moveAll_47 hf (fun x2 hf => ?_)
      refine aw_ldc (v := 1000000) kc_RX8_165 dX8_moveAll_48 ?_
      refine aw_icmp_ge (tgt := 114) dX8_moveAll_50 rfl (fun hc => ?_) (fun hc => ?_)
      · have hf := itp0 hc hf
        obtain rfl := so1 hf
        exact aw_pick [0, 1] rfl kk
      · have hf := itn0 hc hf
        refine aw_aload_n 0 dX8_moveAll_53 rfl ?_
        refine aw_iload_n 1 dX8_moveAll_54 rfl ?_
        refine aw_bipush (v := 6) dX8_moveAll_55 rfl ?_
        refine aw_idiv0 dX8_moveAll_57 (by decide) ?_
        refine aw_iload_n 2 dX8_moveAll_58 rfl ?_
        refine aw_cV_i (st := []) [.int (y1 / 6), .int y2] wV_RX8_96 (ci := 8) rfl (fun xr er => c_X8_creaks g h y0 (y1 / 6) y2 xr er) dX8_moveAll_59 rfl rfl (Nat.le_of_ble_eq_true rfl) (Nat.le_of_ble_eq_true rfl) (Nat.le_of_ble_eq_true rfl) (Nat.le_of_ble_eq_true rfl) hf (fun x3 hf => ?_)
        refine aw_istore_n [(3, .int x3), (0, .ref y0), (1, .int y1), (2, .int y2)] dX8_moveAll_62 (Nat.le_of_ble_eq_true rfl) rfl ?_
        refine aw_aload_n 1 dX8_moveAll_63 rfl ?_
        refine aw_gR fl_RX8_45 dX8_moveAll_64 hf (fun x4 hf => ?_)
        refine aw_bipush (v := 6) dX8_moveAll_67 rfl ?_
        refine aw_iload_n 3 dX8_moveAll_69 rfl ?_
        refine aw_imul dX8_moveAll_70 ?_
        refine aw_iload_n 0 dX8_moveAll_71 rfl ?_
        refine reg1 (fun (v5 : Int32) => AW g RX8 cX8_moveAll (4, none, "moveAll", 1, 0, 0) res 107 [(0, .ref y0), (1, .int y1), (2, .int y2)] [.int v5, .int (6 * y2), .ref x4] h 0 0) hf (fun v5 hf => ?_) (fun v5 hf hJ107 => ?_)
        · refine aw_stI dX8_moveAll_107 hf (fun h13 hf => ?_)
          refine aw_iinc (y2 + 1) [(2, .int (y2 + 1)), (0, .ref y0), (1, .int y1)] 2 dX8_moveAll_108 rfl rfl (Nat.le_of_ble_eq_true rfl) rfl ?_
          refine aw_goto (tgt := 36) dX8_moveAll_111 rfl ?_
          refine aw_pick [1, 2, 0] rfl ?_
          exact ih h13 y0 y1 (y2 + 1) ho hf kk
        · refine aw_if_le (tgt := 98) dX8_moveAll_72 rfl (fun hc => ?_) (fun hc => ?_)
          · have hf := itp0 hc hf
            refine aw_aload_n 1 dX8_moveAll_98 rfl ?_
            refine aw_gR fl_RX8_45 dX8_moveAll_99 hf (fun x6 hf => ?_)
            refine aw_bipush (v := 6) dX8_moveAll_102 rfl ?_
            refine aw_iload_n 3 dX8_moveAll_104 rfl ?_
            refine aw_imul dX8_moveAll_105 ?_
            refine aw_ldI dX8_moveAll_106 hf (fun x7 hf => ?_)
            obtain rfl := so1 hf
            exact aw_pick [1, 2, 3] rfl hJ107
          · have hf := itn0 hc hf
            refine aw_aload_n 1 dX8_moveAll_75 rfl ?_
            refine aw_gR fl_RX8_45 dX8_moveAll_76 hf (fun x8 hf => ?_)
            refine aw_bipush (v := 6) dX8_moveAll_79 rfl ?_
            refine aw_iload_n 3 dX8_moveAll_81 rfl ?_
            refine aw_imul dX8_moveAll_82 ?_
            refine aw_ldI dX8_moveAll_83 hf (fun x9 hf => ?_)
            refine aw_aload_n 1 dX8_moveAll_84 rfl ?_
            refine aw_gR fl_RX8_42 dX8_moveAll_85 hf (fun x10 hf => ?_)
            refine aw_iload_n 2 dX8_moveAll_88 rfl ?_
            refine aw_ldI dX8_moveAll_89 hf (fun x11 hf => ?_)
            refine aw_iload_n 0 dX8_moveAll_90 rfl ?_
            refine aw_iadd dX8_moveAll_91 ?_
            refine aw_cS_i (st := [.int (6 * y2), .ref x4]) [.int x9, .int (x11 + x3)] wS_RX8_122 (fun xr er => c_X8_least g h x9 (x11 + x3) xr er) dX8_moveAll_92 rfl rfl (Nat.le_of_ble_eq_true rfl) (Nat.le_of_ble_eq_true rfl) (Nat.le_of_ble_eq_true rfl) (Nat.le_of_ble_eq_true rfl) hf (fun x12 hf => ?_)
            refine aw_goto (tgt := 107) dX8_moveAll_95 rfl ?_
            obtain rfl := so1 hf
            exact aw_pick [1, 2, 3] rfl hJ107
set_option maxRecDepth 100000 in
set_option maxHeartbeats 4000000 in
theorem l_X8_moveAll_28 (g : Gx) {res : Option Value × Hea} : ∀ (n : Nat) (h : Hea) (y0 : Nat) (y1 : Int32) (ho : Hea) (hf : f_X8_moveAll_28 n h y0 y1 = some ho) (kk : AW g RX8 cX8_moveAll (4, none, "moveAll", 1, 0, 0) res 120 [(0, .ref y0)] [] ho 0 0), AW g RX8 cX8_moveAll (4, none, "moveAll", 1, 0, 0) res 28 [(0, .ref y0), (1, .int y1)] [] h 0 0 := by
  intro n
  induction n with
  | zero =>
    intro h y0 y1 ho hf kk
    rw [f_X8_moveAll_28] at hf
    cases hf
  | succ n ih =>
    intro h y0 y1 ho hf kk
    rw [f_X8_moveAll_28] at hf
    refine aw_iload_n 1 dX8_moveAll_28 rfl ?_
    refine aw_bipush (v := 48) dX8_moveAll_29 rfl ?_
    refine aw_icmp_ge (tgt := 120) dX8_moveAll_31 rfl (fun hc => ?_) (fun hc => ?_)
    · have hf := itp0 hc hf
      obtain rfl := so1 hf
      exact aw_pick [0] rfl kk
    · have hf := itn0 hc hf
      refine aw_iconst (v := 0) dX8_moveAll_34 rfl ?_
      refine aw_istore_n [(2, .int 0), (0, .ref y0), (1, .int y1)] dX8_moveAll_35 (Nat.le_of_ble_eq_true rfl) rfl ?_
      refine aw_pick [1, 2, 0] rfl ?_
      refine reg1 (fun (h1 : Hea) => AW g RX8 cX8_moveAll (4, none, "moveAll", 1, 0, 0) res 114 [(0, .ref y0), (1, .int y1)] [] h1 0 0) hf (fun h1 hf => ?_) (fun h1 hf hJ => l_X8_moveAll_36 g  lots h y0 y1 0 h1 hf hJ)
      refine aw_iinc (y1 + 1) [(1, .int (y1 + 1)), (0, .ref y0)] 1 dX8_moveAll_114 rfl rfl (Nat.le_of_ble_eq_true rfl) rfl ?_
      refine aw_goto (tgt := 28) dX8_moveAll_117 rfl ?_
      refine aw_pick [1, 0] rfl ?_
      exact ih h1 y0 (y1 + 1) ho hf kk
set_option maxRecDepth 100000 in
set_option maxHeartbeats 4000000 in
theorem l_X8_moveAll_122 (g : Gx) {res : Option Value × Hea} : ∀ (n : Nat) (h : Hea) (y0 : Nat) (y1 : Int32) (ho : Hea) (hf : f_X8_moveAll_122 n h y0 y1 = some ho) (kk : AW g RX8 cX8_moveAll (4, none, "moveAll", 1, 0, 0) res 146 [] [] ho 0 0), AW g RX8 cX8_moveAll (4, none, "moveAll", 1, 0, 0) res 122 [(0, .ref y0), (1, .int y1)] [] h 0 0 := by
  intro n
  induction n with
  | zero =>
    intro h y0 y1 ho hf kk
    rw [f_X8_moveAll_122] at hf
    cases hf
  | succ n ih =>
    intro h y0 y1 ho hf kk
    rw [f_X8_moveAll_122] at hf
    refine aw_iload_n 1 dX8_moveAll_122 rfl ?_
    refine aw_bipush (v := 48) dX8_moveAll_123 rfl ?_
    refine aw_icmp_ge (tgt := 146) dX8_moveAll_125 rfl (fun hc => ?_) (fun hc => ?_)
    · have hf := itp0 hc hf
      obtain rfl := so1 hf
      exact aw_pick [] rfl kk
    · have hf := itn0 hc hf
      refine aw_aload_n 0 dX8_moveAll_128 rfl ?_
      refine aw_gR fl_RX8_42 dX8_moveAll_129 hf (fun x1 hf => ?_)
      refine aw_iload_n 1 dX8_moveAll_132 rfl ?_
      refine aw_aload_n 0 dX8_moveAll_133 rfl ?_
      refine aw_gR fl_RX8_45 dX8_moveAll_134 hf (fun x2 hf => ?_)
      refine aw_iload_n 1 dX8_moveAll_137 rfl ?_
      refine aw_ldI dX8_moveAll_138 hf (fun x3 hf => ?_)
      refine aw_stI dX8_moveAll_139 hf (fun h4 hf => ?_)
      refine aw_iinc (y1 + 1) [(1, .int (y1 + 1)), (0, .ref y0)] 1 dX8_moveAll_140 rfl rfl (Nat.le_of_ble_eq_true rfl) rfl ?_
      refine aw_goto (tgt := 122) dX8_moveAll_143 rfl ?_
      refine aw_pick [1, 0] rfl ?_
      exact ih h4 y0 (y1 + 1) ho hf kk
set_option maxRecDepth 100000 in
set_option maxHeartbeats 4000000 in
theorem c_X8_moveAll (g : Gx) (h : Hea) (a0 : Nat) (o : Hea) (hf : f_X8_moveAll h a0 = some o) : MC g yX8_moveAll cX8_moveAll 4 none 1 0 0 [.ref a0] h (none, o) := by
  refine MC_of (own := RX8) (nm := "moveAll") [(0, .ref a0)] rfl rfl pn_RX8 (Nat.le_of_ble_eq_true rfl) rfl ?_
  rw [f_X8_moveAll] at hf
  refine aw_iconst (v := 0) dX8_moveAll_0 rfl ?_
  refine aw_istore_n [(1, .int 0), (0, .ref a0)] dX8_moveAll_1 (Nat.le_of_ble_eq_true rfl) rfl ?_
  refine aw_pick [1, 0] rfl ?_
  refine reg1 (fun (h1 : Hea) => AW g RX8 cX8_moveAll (4, none, "moveAll", 1, 0, 0) (none, o) 26 [(0, .ref a0)] [] h1 0 0) hf (fun h1 hf => ?_) (fun h1 hf hJ => l_X8_moveAll_2 g  lots h a0 0 h1 hf hJ)
  refine aw_iconst (v := 0) dX8_moveAll_26 rfl ?_
  refine aw_istore_n [(1, .int 0), (0, .ref a0)] dX8_moveAll_27 (Nat.le_of_ble_eq_true rfl) rfl ?_
  refine aw_pick [1, 0] rfl ?_
  refine reg1 (fun (h2 : Hea) => AW g RX8 cX8_moveAll (4, none, "moveAll", 1, 0, 0) (none, o) 120 [(0, .ref a0)] [] h2 0 0) hf (fun h2 hf => ?_) (fun h2 hf hJ => l_X8_moveAll_28 g  lots h1 a0 0 h2 hf hJ)
  refine aw_iconst (v := 0) dX8_moveAll_120 rfl ?_
  refine aw_istore_n [(1, .int 0), (0, .ref a0)] dX8_moveAll_121 (Nat.le_of_ble_eq_true rfl) rfl ?_
  refine aw_pick [1, 0] rfl ?_
  refine reg1 (fun (h3 : Hea) => AW g RX8 cX8_moveAll (4, none, "moveAll", 1, 0, 0) (none, o) 146 [] [] h3 0 0) hf (fun h3 hf => ?_) (fun h3 hf hJ => l_X8_moveAll_122 g  lots h2 a0 0 h3 hf hJ)
  obtain rfl := so1 hf
  exact aw_vret dX8_moveAll_146 rfl rfl
set_option maxRecDepth 100000 in
set_option maxHeartbeats 4000000 in
theorem l_X8_nightOfOne_6 (g : Gx) {res : Option Value × Hea} : ∀ (n : Nat) (h : Hea) (y0 : Nat) (y1 : Int32) (y2 : Int32) (y3 : Int32) (y4 : Int32) (ho : Hea) (hf : f_X8_nightOfOne_6 n h y0 y4 = some ho) (kk : AW g RX8 cX8_nightOfOne (8, some .int, "nightOfOne", 3, 0, 0) res 28 [(0, .ref y0), (1, .int y1), (2, .int y2), (3, .int y3)] [] ho 0 0), AW g RX8 cX8_nightOfOne (8, some .int, "nightOfOne", 3, 0, 0) res 6 [(0, .ref y0), (1, .int y1), (2, .int y2), (3, .int y3), (4, .int y4)] [] h 0 0 := by
  intro n
  induction n with
  | zero =>
    intro h y0 y1 y2 y3 y4 ho hf kk
    rw [f_X8_nightOfOne_6] at hf
    cases hf
  | succ n ih =>
    intro h y0 y1 y2 y3 y4 ho hf kk
    rw [f_X8_nightOfOne_6] at hf
    refine aw_iload 4 dX8_nightOfOne_6 rfl ?_
    refine aw_bipush (v := 48) dX8_nightOfOne_8 rfl ?_
    refine aw_icmp_ge (tgt := 28) dX8_nightOfOne_10 rfl (fun hc => ?_) (fun hc => ?_)
    · have hf := itp0 hc hf
      obtain rfl := so1 hf
      exact aw_pick [0, 1, 2, 3] rfl kk
    · have hf := itn0 hc hf
      refine aw_aload_n 0 dX8_nightOfOne_13 rfl ?_
      refine aw_gR fl_RX8_45 dX8_nightOfOne_14 hf (fun x1 hf => ?_)
      refine aw_iload 4 dX8_nightOfOne_17 rfl ?_
      refine aw_ldc (v := 1000000) kc_RX8_165 dX8_nightOfOne_19 ?_
      refine aw_stI dX8_nightOfOne_21 hf (fun h2 hf => ?_)
      refine aw_iinc (y4 + 1) [(4, .int (y4 + 1)), (0, .ref y0), (1, .int y1), (2, .int y2), (3, .int y3)] 4 dX8_nightOfOne_22 rfl rfl (Nat.le_of_ble_eq_true rfl) rfl ?_
      refine aw_goto (tgt := 6) dX8_nightOfOne_25 rfl ?_
      refine aw_pick [1, 2, 3, 4, 0] rfl ?_
      exact ih h2 y0 y1 y2 y3 (y4 + 1) ho hf kk
set_option maxRecDepth 100000 in
set_option maxHeartbeats 4000000 in
theorem l_X8_nightOfOne_31 (g : Gx) {res : Option Value × Hea} : ∀ (n : Nat) (h : Hea) (y0 : Nat) (y1 : Int32) (y2 : Int32) (y3 : Int32) (y4 : Int32) (o3 : Int32) (ho : Hea) (hf : f_X8_nightOfOne_31 n h y0 y1 y2 y3 y4 = some (o3, ho)) (kk : AW g RX8 cX8_nightOfOne (8, some .int, "nightOfOne", 3, 0, 0) res 221 [(0, .ref y0), (3, .int o3)] [] ho 0 0), AW g RX8 cX8_nightOfOne (8, some .int, "nightOfOne", 3, 0, 0) res 31 [(0, .ref y0), (1, .int y1), (2, .int y2), (3, .int y3), (4, .int y4)] [] h 0 0 := by
  intro n
  induction n with
  | zero =>
    intro h y0 y1 y2 y3 y4 o3 ho hf kk
    rw [f_X8_nightOfOne_31] at hf
    cases hf
  | succ n ih =>
    intro h y0 y1 y2 y3 y4 o3 ho hf kk
    rw [f_X8_nightOfOne_31] at hf
    refine aw_iload 4 dX8_nightOfOne_31 rfl ?_
    refine aw_bipush (v := 48) dX8_nightOfOne_33 rfl ?_
    refine aw_icmp_ge (tgt := 221) dX8_nightOfOne_35 rfl (fun hc => ?_) (fun hc => ?_)
    · have hf := itp0 hc hf
      obtain ⟨rfl, rfl⟩ := so2 hf
      exact aw_pick [0, 3] rfl kk
    · have hf := itn0 hc hf
      refine aw_aload_n 0 dX8_nightOfOne_38 rfl ?_
      refine aw_gR fl_RX8_42 dX8_nightOfOne_39 hf (fun x1 hf => ?_)
      refine aw_iload 4 dX8_nightOfOne_42 rfl ?_
      refine aw_ldI dX8_nightOfOne_44 hf (fun x2 hf => ?_)
      refine aw_ldc (v := 1000000) kc_RX8_165 dX8_nightOfOne_45 ?_
      refine reg2 (fun (v3 : Int32) (h4 : Hea) => AW g RX8 cX8_nightOfOne (8, some .int, "nightOfOne", 3, 0, 0) res 215 [(0, .ref y0), (1, .int y1), (2, .int y2), (3, .int v3), (4, .int y4)] [] h4 0 0) hf (fun v3 h4 hf => ?_) (fun v3 h4 hf hJ215 => ?_)
      · refine aw_iinc (y4 + 1) [(4, .int (y4 + 1)), (0, .ref y0), (1, .int y1), (2, .int y2), (3, .int v3)] 4 dX8_nightOfOne_215 rfl rfl (Nat.le_of_ble_eq_true rfl) rfl ?_
        refine aw_goto (tgt := 31) dX8_nightOfOne_218 rfl ?_
        refine aw_pick [1, 2, 3, 4, 0] rfl ?_
        exact ih h4 y0 y1 y2 v3 (y4 + 1) o3 ho hf kk
      · refine aw_icmp_ge (tgt := 215) dX8_nightOfOne_47 rfl (fun hc => ?_) (fun hc => ?_)
        · have hf := itp0 hc hf
          obtain ⟨rfl, rfl⟩ := so2 hf
          exact aw_pick [0, 1, 2, 3, 4] rfl hJ215
        · have hf := itn0 hc hf
          refine aw_aload_n 0 dX8_nightOfOne_50 rfl ?_
          refine aw_gR fl_RX8_27 dX8_nightOfOne_51 hf (fun x5 hf => ?_)
          refine aw_iload_n 1 dX8_nightOfOne_54 rfl ?_
          refine aw_iload 4 dX8_nightOfOne_55 rfl ?_
          refine aw_bipush (v := 6) dX8_nightOfOne_57 rfl ?_
          refine aw_idiv0 dX8_nightOfOne_59 (by decide) ?_
          refine aw_stI dX8_nightOfOne_60 hf (fun h6 hf => ?_)
          refine aw_aload_n 0 dX8_nightOfOne_61 rfl ?_
          refine aw_gR fl_RX8_30 dX8_nightOfOne_62 hf (fun x7 hf => ?_)
          refine aw_iload_n 1 dX8_nightOfOne_65 rfl ?_
          refine aw_iload 4 dX8_nightOfOne_66 rfl ?_
          refine aw_bipush (v := 6) dX8_nightOfOne_68 rfl ?_
          refine aw_irem0 dX8_nightOfOne_70 (by decide) ?_
          refine aw_stI dX8_nightOfOne_71 hf (fun h8 hf => ?_)
          refine aw_aload_n 0 dX8_nightOfOne_72 rfl ?_
          refine aw_iload_n 1 dX8_nightOfOne_73 rfl ?_
          refine aw_cV_i (st := []) [.int y1] wV_RX8_134 (ci := 8) rfl (fun xr er => c_X8_hiddenOf g h8 y0 y1 xr er) dX8_nightOfOne_74 rfl rfl (Nat.le_of_ble_eq_true rfl) (Nat.le_of_ble_eq_true rfl) (Nat.le_of_ble_eq_true rfl) (Nat.le_of_ble_eq_true rfl) hf (fun x9 hf => ?_)
          refine aw_istore [(5, .int x9), (0, .ref y0), (1, .int y1), (2, .int y2), (3, .int y3), (4, .int y4)] dX8_nightOfOne_77 (Nat.le_of_ble_eq_true rfl) rfl ?_
          refine aw_iload 0 dX8_nightOfOne_79 rfl ?_
          refine aw_aload_n 1 dX8_nightOfOne_81 rfl ?_
          refine aw_gR fl_RX8_7 dX8_nightOfOne_82 hf (fun x10 hf => ?_)
          refine aw_iconst (v := 2) dX8_nightOfOne_85 rfl ?_
          refine aw_ldI dX8_nightOfOne_86 hf (fun x11 hf => ?_)
          refine reg1 (fun (v12 : Int32) => AW g RX8 cX8_nightOfOne (8, some .int, "nightOfOne", 3, 0, 0) res 120 [(0, .ref y0), (1, .int y1), (2, .int y2), (3, .int y3), (4, .int y4), (5, .int x9)] [.int v12] h8 0 0) hf (fun v12 hf => ?_) (fun v12 hf hJ120 => ?_)
          · refine aw_istore [(6, .int v12), (0, .ref y0), (1, .int y1), (2, .int y2), (3, .int y3), (4, .int y4), (5, .int x9)] dX8_nightOfOne_120 (Nat.le_of_ble_eq_true rfl) rfl ?_
            refine aw_bipush (v := 6) dX8_nightOfOne_122 rfl ?_
            refine aw_iload 5 dX8_nightOfOne_124 rfl ?_
            refine aw_bipush (v := 6) dX8_nightOfOne_126 rfl ?_
            refine aw_idiv0 dX8_nightOfOne_128 (by decide) ?_
            refine aw_imul dX8_nightOfOne_129 ?_
            refine aw_iconst (v := 5) dX8_nightOfOne_130 rfl ?_
            refine aw_iload 5 dX8_nightOfOne_131 rfl ?_
            refine aw_bipush (v := 6) dX8_nightOfOne_133 rfl ?_
            refine aw_irem0 dX8_nightOfOne_135 (by decide) ?_
            refine aw_iconst (v := 1) dX8_nightOfOne_136 rfl ?_
            refine aw_iadd dX8_nightOfOne_137 ?_
            refine aw_cS_i (st := [.int (6 * (y4 / 6))]) [.int 5, .int ((y4 - y4 / 6 * 6) + 1)] wS_RX8_122 (fun xr er => c_X8_least g h8 5 ((y4 - y4 / 6 * 6) + 1) xr er) dX8_nightOfOne_138 rfl rfl (Nat.le_of_ble_eq_true rfl) (Nat.le_of_ble_eq_true rfl) (Nat.le_of_ble_eq_true rfl) (Nat.le_of_ble_eq_true rfl) hf (fun x18 hf => ?_)
            refine aw_iadd dX8_nightOfOne_141 ?_
            refine aw_istore [(7, .int ((6 * (y4 / 6)) + x18)), (6, .int v12), (0, .ref y0), (1, .int y1), (2, .int y2), (3, .int y3), (4, .int y4), (5, .int x9)] dX8_nightOfOne_142 (Nat.le_of_ble_eq_true rfl) rfl ?_
            refine aw_iload 1 dX8_nightOfOne_144 rfl ?_
            refine reg1 (fun (v19 : Int32) => AW g RX8 cX8_nightOfOne (8, some .int, "nightOfOne", 3, 0, 0) res 164 [(0, .ref y0), (1, .int y1), (2, .int y2), (4, .int y4), (5, .int x9), (6, .int v12), (7, .int ((6 * (y4 / 6)) + x18))] [.int v19] h8 0 0) hf (fun v19 hf => ?_) (fun v19 hf hJ164 => ?_)
            · refine aw_istore_n [(3, .int v19), (0, .ref y0), (1, .int y1), (2, .int y2), (4, .int y4), (5, .int x9), (6, .int v12), (7, .int ((6 * (y4 / 6)) + x18))] dX8_nightOfOne_164 (Nat.le_of_ble_eq_true rfl) rfl ?_
              refine aw_aload_n 1 dX8_nightOfOne_165 rfl ?_
              refine aw_gR fl_RX8_45 dX8_nightOfOne_166 hf (fun x23 hf => ?_)
              refine aw_iload 7 dX8_nightOfOne_169 rfl ?_
              refine aw_iload 5 dX8_nightOfOne_171 rfl ?_
              refine aw_aload_n 1 dX8_nightOfOne_173 rfl ?_
              refine aw_gR fl_RX8_7 dX8_nightOfOne_174 hf (fun x24 hf => ?_)
              refine aw_iconst (v := 2) dX8_nightOfOne_177 rfl ?_
              refine aw_ldI dX8_nightOfOne_178 hf (fun x25 hf => ?_)
              refine reg1 (fun (v26 : Int32) => AW g RX8 cX8_nightOfOne (8, some .int, "nightOfOne", 3, 0, 0) res 214 [(0, .ref y0), (1, .int y1), (2, .int y2), (3, .int v19), (4, .int y4)] [.int v26, .int ((6 * (y4 / 6)) + x18), .ref x23] h8 0 0) hf (fun v26 hf => ?_) (fun v26 hf hJ214 => ?_)
              · refine aw_stI dX8_nightOfOne_214 hf (fun h36 hf => ?_)
                obtain ⟨rfl, rfl⟩ := so2 hf
                exact aw_pick [0, 1, 2, 3, 4] rfl hJ215
              · refine aw_icmp_lt (tgt := 207) dX8_nightOfOne_179 rfl (fun hc => ?_) (fun hc => ?_)
                · have hf := itp0 hc hf
                  refine aw_aload_n 1 dX8_nightOfOne_207 rfl ?_
                  refine aw_gR fl_RX8_45 dX8_nightOfOne_208 hf (fun x27 hf => ?_)
                  refine aw_iload 7 dX8_nightOfOne_211 rfl ?_
                  refine aw_ldI dX8_nightOfOne_213 hf (fun x28 hf => ?_)
                  obtain rfl := so1 hf
                  exact aw_pick [1, 2, 3, 0, 4] rfl hJ214
                · have hf := itn0 hc hf
                  refine aw_iload 6 dX8_nightOfOne_182 rfl ?_
                  refine aw_if_ne (tgt := 207) dX8_nightOfOne_184 rfl (fun hc => ?_) (fun hc => ?_)
                  · have hf := itn0 hc hf
                    refine aw_aload_n 1 dX8_nightOfOne_207 rfl ?_
                    refine aw_gR fl_RX8_45 dX8_nightOfOne_208 hf (fun x29 hf => ?_)
                    refine aw_iload 7 dX8_nightOfOne_211 rfl ?_
                    refine aw_ldI dX8_nightOfOne_213 hf (fun x30 hf => ?_)
                    obtain rfl := so1 hf
                    exact aw_pick [1, 2, 3, 0, 4] rfl hJ214
                  · have hf := itp0 hc hf
                    refine aw_aload_n 1 dX8_nightOfOne_187 rfl ?_
                    refine aw_gR fl_RX8_45 dX8_nightOfOne_188 hf (fun x31 hf => ?_)
                    refine aw_iload 7 dX8_nightOfOne_191 rfl ?_
                    refine aw_ldI dX8_nightOfOne_193 hf (fun x32 hf => ?_)
                    refine aw_aload_n 1 dX8_nightOfOne_194 rfl ?_
                    refine aw_gR fl_RX8_42 dX8_nightOfOne_195 hf (fun x33 hf => ?_)
                    refine aw_iload 4 dX8_nightOfOne_198 rfl ?_
                    refine aw_ldI dX8_nightOfOne_200 hf (fun x34 hf => ?_)
                    refine aw_cS_i (st := [.int ((6 * (y4 / 6)) + x18), .ref x23]) [.int x32, .int x34] wS_RX8_122 (fun xr er => c_X8_least g h8 x32 x34 xr er) dX8_nightOfOne_201 rfl rfl (Nat.le_of_ble_eq_true rfl) (Nat.le_of_ble_eq_true rfl) (Nat.le_of_ble_eq_true rfl) (Nat.le_of_ble_eq_true rfl) hf (fun x35 hf => ?_)
                    refine aw_goto (tgt := 214) dX8_nightOfOne_204 rfl ?_
                    obtain rfl := so1 hf
                    exact aw_pick [1, 2, 3, 0, 4] rfl hJ214
            · refine aw_if_eq (tgt := 163) dX8_nightOfOne_146 rfl (fun hc => ?_) (fun hc => ?_)
              · have hf := itp0 hc hf
                refine aw_iload_n 5 dX8_nightOfOne_163 rfl ?_
                obtain rfl := so1 hf
                exact aw_pick [2, 3, 4, 6, 7, 1, 0] rfl hJ164
              · have hf := itn0 hc hf
                refine aw_iload_n 5 dX8_nightOfOne_149 rfl ?_
                refine aw_aload_n 2 dX8_nightOfOne_150 rfl ?_
                refine aw_gR fl_RX8_42 dX8_nightOfOne_151 hf (fun x20 hf => ?_)
                refine aw_iload 6 dX8_nightOfOne_154 rfl ?_
                refine aw_ldI dX8_nightOfOne_156 hf (fun x21 hf => ?_)
                refine aw_cS_i (st := []) [.int y3, .int x21] wS_RX8_122 (fun xr er => c_X8_least g h8 y3 x21 xr er) dX8_nightOfOne_157 rfl rfl (Nat.le_of_ble_eq_true rfl) (Nat.le_of_ble_eq_true rfl) (Nat.le_of_ble_eq_true rfl) (Nat.le_of_ble_eq_true rfl) hf (fun x22 hf => ?_)
                refine aw_goto (tgt := 164) dX8_nightOfOne_160 rfl ?_
                obtain rfl := so1 hf
                exact aw_pick [2, 3, 4, 6, 7, 1, 0] rfl hJ164
          · refine aw_icmp_lt (tgt := 119) dX8_nightOfOne_87 rfl (fun hc => ?_) (fun hc => ?_)
            · have hf := itp0 hc hf
              refine aw_iconst (v := 0) dX8_nightOfOne_119 rfl ?_
              obtain rfl := so1 hf
              exact aw_pick [1, 2, 3, 4, 5, 0] rfl hJ120
            · have hf := itn0 hc hf
              refine aw_aload_n 1 dX8_nightOfOne_90 rfl ?_
              refine aw_iload_n 3 dX8_nightOfOne_91 rfl ?_
              refine aw_cV_i (st := []) [.int y2] wV_RX8_131 (ci := 8) rfl (fun xr er => c_X8_looksIn g h8 y0 y2 xr er) dX8_nightOfOne_92 rfl rfl (Nat.le_of_ble_eq_true rfl) (Nat.le_of_ble_eq_true rfl) (Nat.le_of_ble_eq_true rfl) (Nat.le_of_ble_eq_true rfl) hf (fun x13 hf => ?_)
              refine aw_aload_n 1 dX8_nightOfOne_95 rfl ?_
              refine aw_gR fl_RX8_27 dX8_nightOfOne_96 hf (fun x14 hf => ?_)
              refine aw_iload_n 2 dX8_nightOfOne_99 rfl ?_
              refine aw_ldI dX8_nightOfOne_100 hf (fun x15 hf => ?_)
              refine aw_icmp_ne (tgt := 119) dX8_nightOfOne_101 rfl (fun hc => ?_) (fun hc => ?_)
              · have hf := itn0 hc hf
                refine aw_iconst (v := 0) dX8_nightOfOne_119 rfl ?_
                obtain rfl := so1 hf
                exact aw_pick [1, 2, 3, 4, 5, 0] rfl hJ120
              · have hf := itp0 hc hf
                refine aw_iload 0 dX8_nightOfOne_104 rfl ?_
                refine aw_aload_n 1 dX8_nightOfOne_106 rfl ?_
                refine aw_gR fl_RX8_7 dX8_nightOfOne_107 hf (fun x16 hf => ?_)
                refine aw_iconst (v := 1) dX8_nightOfOne_110 rfl ?_
                refine aw_ldI dX8_nightOfOne_111 hf (fun x17 hf => ?_)
                refine aw_icmp_ge (tgt := 119) dX8_nightOfOne_112 rfl (fun hc => ?_) (fun hc => ?_)
                · have hf := itp0 hc hf
                  refine aw_iconst (v := 0) dX8_nightOfOne_119 rfl ?_
                  obtain rfl := so1 hf
                  exact aw_pick [1, 2, 3, 4, 5, 0] rfl hJ120
                · have hf := itn0 hc hf
                  refine aw_iconst (v := 1) dX8_nightOfOne_115 rfl ?_
                  refine aw_goto (tgt := 120) dX8_nightOfOne_116 rfl ?_
                  obtain rfl := so1 hf
                  exact aw_pick [1, 2, 3, 4, 5, 0] rfl hJ120
set_option maxRecDepth 100000 in
set_option maxHeartbeats 4000000 in
theorem l_X8_nightOfOne_224 (g : Gx) {res : Option Value × Hea} : ∀ (n : Nat) (h : Hea) (y0 : Nat) (y3 : Int32) (y4 : Int32) (ho : Hea) (hf : f_X8_nightOfOne_224 n h y0 y4 = some ho) (kk : AW g RX8 cX8_nightOfOne (8, some .int, "nightOfOne", 3, 0, 0) res 251 [(3, .int y3)] [] ho 0 0), AW g RX8 cX8_nightOfOne (8, some .int, "nightOfOne", 3, 0, 0) res 224 [(0, .ref y0), (3, .int y3), (4, .int y4)] [] h 0 0 := by
  intro n
  induction n with
  | zero =>
    intro h y0 y3 y4 ho hf kk
    rw [f_X8_nightOfOne_224] at hf
    cases hf
  | succ n ih =>
    intro h y0 y3 y4 ho hf kk
    rw [f_X8_nightOfOne_224] at hf
    refine aw_iload 2 dX8_nightOfOne_224 rfl ?_
    refine aw_bipush (v := 48) dX8_nightOfOne_226 rfl ?_
    refine aw_icmp_ge (tgt := 251) dX8_nightOfOne_228 rfl (fun hc => ?_) (fun hc => ?_)
    · have hf := itp0 hc hf
      obtain rfl := so1 hf
      exact aw_pick [1] rfl kk
    · have hf := itn0 hc hf
      refine aw_aload_n 0 dX8_nightOfOne_231 rfl ?_
      refine aw_gR fl_RX8_42 dX8_nightOfOne_232 hf (fun x1 hf => ?_)
      refine aw_iload 2 dX8_nightOfOne_235 rfl ?_
      refine aw_aload_n 0 dX8_nightOfOne_237 rfl ?_
      refine aw_gR fl_RX8_45 dX8_nightOfOne_238 hf (fun x2 hf => ?_)
      refine aw_iload 2 dX8_nightOfOne_241 rfl ?_
      refine aw_ldI dX8_nightOfOne_243 hf (fun x3 hf => ?_)
      refine aw_stI dX8_nightOfOne_244 hf (fun h4 hf => ?_)
      refine aw_iinc (y4 + 1) [(4, .int (y4 + 1)), (0, .ref y0), (3, .int y3)] 2 dX8_nightOfOne_245 rfl rfl (Nat.le_of_ble_eq_true rfl) rfl ?_
      refine aw_goto (tgt := 224) dX8_nightOfOne_248 rfl ?_
      refine aw_pick [1, 2, 0] rfl ?_
      exact ih h4 y0 y3 (y4 + 1) ho hf kk
set_option maxRecDepth 100000 in
set_option maxHeartbeats 4000000 in
theorem c_X8_nightOfOne (g : Gx) (h : Hea) (a0 : Nat) (a1 : Int32) (a2 : Int32) (o : Int32) (hz : Hea) (hf : f_X8_nightOfOne h a0 a1 a2 = some (o, hz)) : MC g yX8_nightOfOne cX8_nightOfOne 8 (some .int) 3 0 0 [.ref a0, .int a1, .int a2] h (some (.int o), hz) := by
  refine MC_of (own := RX8) (nm := "nightOfOne") [(0, .ref a0), (1, .int a1), (2, .int a2)] rfl rfl pn_RX8 (Nat.le_of_ble_eq_true rfl) rfl ?_
  rw [f_X8_nightOfOne] at hf
  refine aw_ldc (v := 1000000) kc_RX8_165 dX8_nightOfOne_0 ?_
  refine aw_istore_n [(3, .int 1000000), (0, .ref a0), (1, .int a1), (2, .int a2)] dX8_nightOfOne_2 (Nat.le_of_ble_eq_true rfl) rfl ?_
  refine aw_iconst (v := 0) dX8_nightOfOne_3 rfl ?_
  refine aw_istore [(4, .int 0), (3, .int 1000000), (0, .ref a0), (1, .int a1), (2, .int a2)] dX8_nightOfOne_4 (Nat.le_of_ble_eq_true rfl) rfl ?_
  refine aw_pick [2, 3, 4, 1, 0] rfl ?_
  refine reg1 (fun (h1 : Hea) => AW g RX8 cX8_nightOfOne (8, some .int, "nightOfOne", 3, 0, 0) (some (.int o), hz) 28 [(0, .ref a0), (1, .int a1), (2, .int a2), (3, .int 1000000)] [] h1 0 0) hf (fun h1 hf => ?_) (fun h1 hf hJ => l_X8_nightOfOne_6 g  lots h a0 a1 a2 1000000 0 h1 hf hJ)
  refine aw_iconst (v := 0) dX8_nightOfOne_28 rfl ?_
  refine aw_istore [(4, .int 0), (0, .ref a0), (1, .int a1), (2, .int a2), (3, .int 1000000)] dX8_nightOfOne_29 (Nat.le_of_ble_eq_true rfl) rfl ?_
  refine aw_pick [1, 2, 3, 4, 0] rfl ?_
  refine reg2 (fun (v2 : Int32) (h3 : Hea) => AW g RX8 cX8_nightOfOne (8, some .int, "nightOfOne", 3, 0, 0) (some (.int o), hz) 221 [(0, .ref a0), (3, .int v2)] [] h3 0 0) hf (fun v2 h3 hf => ?_) (fun v2 h3 hf hJ => l_X8_nightOfOne_31 g  lots h1 a0 a1 a2 1000000 0 v2 h3 hf hJ)
  refine aw_iconst (v := 0) dX8_nightOfOne_221 rfl ?_
  refine aw_istore [(4, .int 0), (0, .ref a0), (3, .int v2)] dX8_nightOfOne_222 (Nat.le_of_ble_eq_true rfl) rfl ?_
  refine aw_pick [1, 2, 0] rfl ?_
  refine reg1 (fun (h4 : Hea) => AW g RX8 cX8_nightOfOne (8, some .int, "nightOfOne", 3, 0, 0) (some (.int o), hz) 251 [(3, .int v2)] [] h4 0 0) hf (fun h4 hf => ?_) (fun h4 hf hJ => l_X8_nightOfOne_224 g  lots h3 a0 v2 0 h4 hf hJ)
  refine aw_iload_n 0 dX8_nightOfOne_251 rfl ?_
  obtain ⟨rfl, rfl⟩ := so2 hf
  exact aw_iret dX8_nightOfOne_252 rfl rfl
set_option maxRecDepth 100000 in
set_option maxHeartbeats 4000000 in
theorem l_X8_way_45 (g : Gx) {res : Option Value × Hea} : ∀ (n : Nat) (h : Hea) (y0 : Nat) (y1 : Int32) (y2 : Int32) (y3 : Int32) (ho : Hea) (hf : f_X8_way_45 n h y0 y3 = some ho) (kk : AW g RX8 cX8_way (5, some .int, "way", 4, 0, 0) res 65 [(0, .ref y0), (1, .int y1), (2, .int y2)] [] ho 0 0), AW g RX8 cX8_way (5, some .int, "way", 4, 0, 0) res 45 [(0, .ref y0), (1, .int y1), (2, .int y2), (3, .int y3)] [] h 0 0 := by
  intro n
  induction n with
  | zero =>
    intro h y0 y1 y2 y3 ho hf kk
    rw [f_X8_way_45] at hf
    cases hf
  | succ n ih =>
    intro h y0 y1 y2 y3 ho hf kk
    rw [f_X8_way_45] at hf
    refine aw_iload_n 3 dX8_way_45 rfl ?_
    refine aw_bipush (v := 48) dX8_way_46 rfl ?_
    refine aw_icmp_ge (tgt := 65) dX8_way_48 rfl (fun hc => ?_) (fun hc => ?_)
    · have hf := itp0 hc hf
      obtain rfl := so1 hf
      exact aw_pick [0, 1, 2] rfl kk
    · have hf := itn0 hc hf
      refine aw_aload_n 0 dX8_way_51 rfl ?_
      refine aw_gR fl_RX8_42 dX8_way_52 hf (fun x1 hf => ?_)
      refine aw_iload_n 3 dX8_way_55 rfl ?_
      refine aw_ldc (v := 1000000) kc_RX8_165 dX8_way_56 ?_
      refine aw_stI dX8_way_58 hf (fun h2 hf => ?_)
      refine aw_iinc (y3 + 1) [(3, .int (y3 + 1)), (0, .ref y0), (1, .int y1), (2, .int y2)] 3 dX8_way_59 rfl rfl (Nat.le_of_ble_eq_true rfl) rfl ?_
      refine aw_goto (tgt := 45) dX8_way_62 rfl ?_
      refine aw_pick [1, 2, 3, 0] rfl ?_
      exact ih h2 y0 y1 y2 (y3 + 1) ho hf kk
set_option maxRecDepth 100000 in
set_option maxHeartbeats 4000000 in
theorem l_X8_way_93 (g : Gx) : ∀ (n : Nat) (h : Hea) (y0 : Nat) (y1 : Int32) (y2 : Int32) (y3 : Int32) (o : Int32) (ho : Hea) (hf : f_X8_way_93 n h y0 y1 y2 y3 = some (o, ho)), AW g RX8 cX8_way (5, some .int, "way", 4, 0, 0) (some (.int o), ho) 93 [(0, .ref y0), (1, .int y1), (2, .int y2), (3, .int y3)] [] h 0 0 := by
  intro n
  induction n with
  | zero =>
    intro h y0 y1 y2 y3 o ho hf
    rw [f_X8_way_93] at hf
    cases hf
  | succ n ih =>
    intro h y0 y1 y2 y3 o ho hf
    rw [f_X8_way_93] at hf
    refine aw_iload_n 3 dX8_way_93 rfl ?_
    refine aw_bipush (v := 12) dX8_way_94 rfl ?_
    refine aw_icmp_ge (tgt := 163) dX8_way_96 rfl (fun hc => ?_) (fun hc => ?_)
    · have hf := itp0 hc hf
      refine aw_iconst (v := (-1)) dX8_way_163 rfl ?_
      obtain ⟨rfl, rfl⟩ := so2 hf
      exact aw_iret dX8_way_164 rfl rfl
    · have hf := itn0 hc hf
      refine aw_iload_n 3 dX8_way_99 rfl ?_
      refine reg1 (fun (h1 : Hea) => AW g RX8 cX8_way (5, some .int, "way", 4, 0, 0) (some (.int o), ho) 117 [(0, .ref y0), (1, .int y1), (2, .int y2), (3, .int y3)] [] h1 0 0) hf (fun h1 hf => ?_) (fun h1 hf hJ117 => ?_)
      · refine aw_aload_n 0 dX8_way_117 rfl ?_
        refine aw_iload_n 1 dX8_way_118 rfl ?_
        refine aw_aload_n 0 dX8_way_119 rfl ?_
        refine aw_gR fl_RX8_7 dX8_way_120 hf (fun x5 hf => ?_)
        refine aw_iconst (v := 3) dX8_way_123 rfl ?_
        refine aw_ldI dX8_way_124 hf (fun x6 hf => ?_)
        refine aw_iload_n 3 dX8_way_125 rfl ?_
        refine aw_iadd dX8_way_126 ?_
        refine aw_cV_wi (st := []) [.int y1, .int (x6 + y3)] wV_RX8_172 (ci := 8) rfl (fun xr hr er => c_X8_nightOfOne g h1 y0 y1 (x6 + y3) xr hr er) dX8_way_127 rfl rfl (Nat.le_of_ble_eq_true rfl) (Nat.le_of_ble_eq_true rfl) (Nat.le_of_ble_eq_true rfl) (Nat.le_of_ble_eq_true rfl) hf (fun x7 h8 hf => ?_)
        refine aw_istore [(4, .int x7), (0, .ref y0), (1, .int y1), (2, .int y2), (3, .int y3)] dX8_way_130 (Nat.le_of_ble_eq_true rfl) rfl ?_
        refine aw_iload 0 dX8_way_132 rfl ?_
        refine aw_ldc (v := 1000000) kc_RX8_165 dX8_way_134 ?_
        refine aw_icmp_ge (tgt := 157) dX8_way_136 rfl (fun hc => ?_) (fun hc => ?_)
        · have hf := itp0 hc hf
          refine aw_iinc (y3 + 1) [(3, .int (y3 + 1)), (4, .int x7), (0, .ref y0), (1, .int y1), (2, .int y2)] 4 dX8_way_157 rfl rfl (Nat.le_of_ble_eq_true rfl) rfl ?_
          refine aw_goto (tgt := 93) dX8_way_160 rfl ?_
          refine aw_pick [2, 3, 4, 0] rfl ?_
          exact ih h8 y0 y1 y2 (y3 + 1) o ho hf
        · have hf := itn0 hc hf
          refine aw_iload_n 3 dX8_way_139 rfl ?_
          refine aw_if_ne (tgt := 154) dX8_way_140 rfl (fun hc => ?_) (fun hc => ?_)
          · have hf := itn0 hc hf
            refine aw_iload 0 dX8_way_154 rfl ?_
            obtain ⟨rfl, rfl⟩ := so2 hf
            exact aw_iret dX8_way_156 rfl rfl
          · have hf := itp0 hc hf
            refine aw_aload_n 1 dX8_way_143 rfl ?_
            refine aw_gR fl_RX8_7 dX8_way_144 hf (fun x9 hf => ?_)
            refine aw_iconst (v := 3) dX8_way_147 rfl ?_
            refine aw_ldI dX8_way_148 hf (fun x10 hf => ?_)
            refine aw_iload_n 4 dX8_way_149 rfl ?_
            refine aw_iadd dX8_way_150 ?_
            refine aw_goto (tgt := 156) dX8_way_151 rfl ?_
            obtain ⟨rfl, rfl⟩ := so2 hf
            exact aw_iret dX8_way_156 rfl rfl
      · refine aw_if_gt (tgt := 113) dX8_way_100 rfl (fun hc => ?_) (fun hc => ?_)
        · have hf := itp0 hc hf
          refine aw_aload_n 0 dX8_way_113 rfl ?_
          refine aw_cV_v (st := []) [] wV_RX8_169 (ci := 8) rfl (fun hr er => c_X8_moveAll g h y0 hr er) dX8_way_114 rfl rfl (Nat.le_of_ble_eq_true rfl) (Nat.le_of_ble_eq_true rfl) (Nat.le_of_ble_eq_true rfl) (Nat.le_of_ble_eq_true rfl) hf (fun h2 hf => ?_)
          obtain rfl := so1 hf
          exact aw_pick [0, 1, 2, 3] rfl hJ117
        · have hf := itn0 hc hf
          refine aw_aload_n 0 dX8_way_103 rfl ?_
          refine aw_iload_n 1 dX8_way_104 rfl ?_
          refine aw_bipush (v := 6) dX8_way_105 rfl ?_
          refine aw_cV_i (st := []) [.int y1, .int 6] wV_RX8_119 (ci := 8) rfl (fun xr er => c_X8_get g h y0 y1 6 xr er) dX8_way_107 rfl rfl (Nat.le_of_ble_eq_true rfl) (Nat.le_of_ble_eq_true rfl) (Nat.le_of_ble_eq_true rfl) (Nat.le_of_ble_eq_true rfl) hf (fun x3 hf => ?_)
          refine aw_if_ne (tgt := 117) dX8_way_110 rfl (fun hc => ?_) (fun hc => ?_)
          · have hf := itn0 hc hf
            obtain rfl := so1 hf
            exact aw_pick [0, 1, 2, 3] rfl hJ117
          · have hf := itp0 hc hf
            refine aw_aload_n 0 dX8_way_113 rfl ?_
            refine aw_cV_v (st := []) [] wV_RX8_169 (ci := 8) rfl (fun hr er => c_X8_moveAll g h y0 hr er) dX8_way_114 rfl rfl (Nat.le_of_ble_eq_true rfl) (Nat.le_of_ble_eq_true rfl) (Nat.le_of_ble_eq_true rfl) (Nat.le_of_ble_eq_true rfl) hf (fun h4 hf => ?_)
            obtain rfl := so1 hf
            exact aw_pick [0, 1, 2, 3] rfl hJ117
set_option maxRecDepth 100000 in
set_option maxHeartbeats 4000000 in
theorem c_X8_way (g : Gx) (h : Hea) (a0 : Nat) (a1 : Int32) (a2 : Int32) (o : Int32) (hz : Hea) (hf : f_X8_way h a0 a1 a2 = some (o, hz)) : MC g yX8_way cX8_way 5 (some .int) 4 0 0 [.ref a0, .int a1, .int a2] h (some (.int o), hz) := by
  refine MC_of (own := RX8) (nm := "way") [(0, .ref a0), (1, .int a1), (2, .int a2)] rfl rfl pn_RX8 (Nat.le_of_ble_eq_true rfl) rfl ?_
  rw [f_X8_way] at hf
  refine aw_aload_n 0 dX8_way_0 rfl ?_
  refine aw_iload_n 1 dX8_way_1 rfl ?_
  refine aw_cV_i (st := []) [.int a1] wV_RX8_137 (ci := 8) rfl (fun xr er => c_X8_isHeir g h a0 a1 xr er) dX8_way_2 rfl rfl (Nat.le_of_ble_eq_true rfl) (Nat.le_of_ble_eq_true rfl) (Nat.le_of_ble_eq_true rfl) (Nat.le_of_ble_eq_true rfl) hf (fun x1 hf => ?_)
  refine aw_if_eq (tgt := 18) dX8_way_5 rfl (fun hc => ?_) (fun hc => ?_)
  · have hf := itp0 hc hf
    refine aw_aload_n 0 dX8_way_18 rfl ?_
    refine aw_bipush (v := (-2)) dX8_way_19 rfl ?_
    refine aw_cV_wi (st := []) [.int (-2)] wV_RX8_86 (ci := 8) rfl (fun xr hr er => c_X8_bad g h a0 (-2) xr hr er) dX8_way_21 rfl rfl (Nat.le_of_ble_eq_true rfl) (Nat.le_of_ble_eq_true rfl) (Nat.le_of_ble_eq_true rfl) (Nat.le_of_ble_eq_true rfl) hf (fun x2 h3 hf => ?_)
    obtain ⟨rfl, rfl⟩ := so2 hf
    exact aw_iret dX8_way_24 rfl rfl
  · have hf := itn0 hc hf
    refine aw_iload_n 2 dX8_way_8 rfl ?_
    refine aw_i2l dX8_way_9 ?_
    refine aw_lconst (v := 0) dX8_way_10 rfl ?_
    refine aw_lconst (v := 1) dX8_way_11 rfl ?_
    refine aw_cS_i (st := []) [.long a2.toInt64, .long 0, .long 1] wS_RX8_78 (fun xr er => c_X8_in g h a2.toInt64 0 1 xr er) dX8_way_12 rfl rfl (Nat.le_of_ble_eq_true rfl) (Nat.le_of_ble_eq_true rfl) (Nat.le_of_ble_eq_true rfl) (Nat.le_of_ble_eq_true rfl) hf (fun x4 hf => ?_)
    refine aw_if_ne (tgt := 25) dX8_way_15 rfl (fun hc => ?_) (fun hc => ?_)
    · have hf := itn0 hc hf
      refine aw_aload_n 0 dX8_way_25 rfl ?_
      refine aw_iload_n 1 dX8_way_26 rfl ?_
      refine aw_iconst (v := 4) dX8_way_27 rfl ?_
      refine aw_cV_i (st := []) [.int a1, .int 4] wV_RX8_119 (ci := 8) rfl (fun xr er => c_X8_get g h a0 a1 4 xr er) dX8_way_28 rfl rfl (Nat.le_of_ble_eq_true rfl) (Nat.le_of_ble_eq_true rfl) (Nat.le_of_ble_eq_true rfl) (Nat.le_of_ble_eq_true rfl) hf (fun x5 hf => ?_)
      refine aw_if_eq (tgt := 39) dX8_way_31 rfl (fun hc => ?_) (fun hc => ?_)
      · have hf := itp0 hc hf
        refine aw_aload_n 0 dX8_way_39 rfl ?_
        refine aw_cV_v (st := []) [] wV_RX8_150 (ci := 8) rfl (fun hr er => c_X8_layHand g h a0 hr er) dX8_way_40 rfl rfl (Nat.le_of_ble_eq_true rfl) (Nat.le_of_ble_eq_true rfl) (Nat.le_of_ble_eq_true rfl) (Nat.le_of_ble_eq_true rfl) hf (fun h6 hf => ?_)
        refine aw_iconst (v := 0) dX8_way_43 rfl ?_
        refine aw_istore_n [(3, .int 0), (0, .ref a0), (1, .int a1), (2, .int a2)] dX8_way_44 (Nat.le_of_ble_eq_true rfl) rfl ?_
        refine aw_pick [1, 2, 3, 0] rfl ?_
        refine reg1 (fun (h7 : Hea) => AW g RX8 cX8_way (5, some .int, "way", 4, 0, 0) (some (.int o), hz) 65 [(0, .ref a0), (1, .int a1), (2, .int a2)] [] h7 0 0) hf (fun h7 hf => ?_) (fun h7 hf hJ => l_X8_way_45 g  lots h6 a0 a1 a2 0 h7 hf hJ)
        refine aw_aload_n 0 dX8_way_65 rfl ?_
        refine aw_gR fl_RX8_42 dX8_way_66 hf (fun x8 hf => ?_)
        refine aw_bipush (v := 6) dX8_way_69 rfl ?_
        refine aw_aload_n 0 dX8_way_71 rfl ?_
        refine aw_iload_n 1 dX8_way_72 rfl ?_
        refine aw_iconst (v := 1) dX8_way_73 rfl ?_
        refine aw_cV_i (st := [.int 6, .ref x8]) [.int a1, .int 1] wV_RX8_119 (ci := 8) rfl (fun xr er => c_X8_get g h7 a0 a1 1 xr er) dX8_way_74 rfl rfl (Nat.le_of_ble_eq_true rfl) (Nat.le_of_ble_eq_true rfl) (Nat.le_of_ble_eq_true rfl) (Nat.le_of_ble_eq_true rfl) hf (fun x9 hf => ?_)
        refine aw_imul dX8_way_77 ?_
        refine aw_iconst (v := 5) dX8_way_78 rfl ?_
        refine aw_aload_n 0 dX8_way_79 rfl ?_
        refine aw_iload_n 1 dX8_way_80 rfl ?_
        refine aw_iconst (v := 3) dX8_way_81 rfl ?_
        refine aw_cV_i (st := [.int 5, .int (6 * x9), .ref x8]) [.int a1, .int 3] wV_RX8_119 (ci := 8) rfl (fun xr er => c_X8_get g h7 a0 a1 3 xr er) dX8_way_82 rfl rfl (Nat.le_of_ble_eq_true rfl) (Nat.le_of_ble_eq_true rfl) (Nat.le_of_ble_eq_true rfl) (Nat.le_of_ble_eq_true rfl) hf (fun x10 hf => ?_)
        refine aw_cS_i (st := [.int (6 * x9), .ref x8]) [.int 5, .int x10] wS_RX8_122 (fun xr er => c_X8_least g h7 5 x10 xr er) dX8_way_85 rfl rfl (Nat.le_of_ble_eq_true rfl) (Nat.le_of_ble_eq_true rfl) (Nat.le_of_ble_eq_true rfl) (Nat.le_of_ble_eq_true rfl) hf (fun x11 hf => ?_)
        refine aw_iadd dX8_way_88 ?_
        refine aw_iconst (v := 0) dX8_way_89 rfl ?_
        refine aw_stI dX8_way_90 hf (fun h12 hf => ?_)
        refine aw_iconst (v := 0) dX8_way_91 rfl ?_
        refine aw_istore_n [(3, .int 0), (0, .ref a0), (1, .int a1), (2, .int a2)] dX8_way_92 (Nat.le_of_ble_eq_true rfl) rfl ?_
        refine aw_pick [1, 2, 3, 0] rfl ?_
        exact l_X8_way_93 g lots h12 a0 a1 a2 0 _ _ hf
      · have hf := itn0 hc hf
        refine aw_aload_n 0 dX8_way_34 rfl ?_
        refine aw_cV_wi (st := []) [] wV_RX8_140 (ci := 8) rfl (fun xr hr er => c_X8_no g h a0 xr hr er) dX8_way_35 rfl rfl (Nat.le_of_ble_eq_true rfl) (Nat.le_of_ble_eq_true rfl) (Nat.le_of_ble_eq_true rfl) (Nat.le_of_ble_eq_true rfl) hf (fun x13 h14 hf => ?_)
        obtain ⟨rfl, rfl⟩ := so2 hf
        exact aw_iret dX8_way_38 rfl rfl
    · have hf := itp0 hc hf
      refine aw_aload_n 0 dX8_way_18 rfl ?_
      refine aw_bipush (v := (-2)) dX8_way_19 rfl ?_
      refine aw_cV_wi (st := []) [.int (-2)] wV_RX8_86 (ci := 8) rfl (fun xr hr er => c_X8_bad g h a0 (-2) xr hr er) dX8_way_21 rfl rfl (Nat.le_of_ble_eq_true rfl) (Nat.le_of_ble_eq_true rfl) (Nat.le_of_ble_eq_true rfl) (Nat.le_of_ble_eq_true rfl) hf (fun x15 h16 hf => ?_)
      obtain ⟨rfl, rfl⟩ := so2 hf
      exact aw_iret dX8_way_24 rfl rfl
set_option maxRecDepth 100000 in
set_option maxHeartbeats 4000000 in
theorem l_X8_goAside_2 (g : Gx) : ∀ (n : Nat) (h : Hea) (y0 : Nat) (y1 : Int32) (y2 : Int32) (o : Hea) (hf : f_X8_goAside_2 n h y0 y1 y2 = some o), AW g RX8 cX8_goAside (3, none, "goAside", 1, 0, 0) (none, o) 2 [(0, .ref y0), (1, .int y1), (2, .int y2)] [] h 0 0 := by
  intro n
  induction n with
  | zero =>
    intro h y0 y1 y2 o hf
    rw [f_X8_goAside_2] at hf
    cases hf
  | succ n ih =>
    intro h y0 y1 y2 o hf
    rw [f_X8_goAside_2] at hf
    refine aw_iload_n 2 dX8_goAside_2 rfl ?_
    refine aw_bipush (v := 8) dX8_goAside_3 rfl ?_
    refine aw_icmp_ge (tgt := 43) dX8_goAside_5 rfl (fun hc => ?_) (fun hc => ?_)
    · have hf := itp0 hc hf
      obtain rfl := so1 hf
      exact aw_vret dX8_goAside_43 rfl rfl
    · have hf := itn0 hc hf
      refine aw_aload_n 0 dX8_goAside_8 rfl ?_
      refine aw_aload_n 0 dX8_goAside_9 rfl ?_
      refine aw_iload_n 1 dX8_goAside_10 rfl ?_
      refine aw_iconst (v := 1) dX8_goAside_11 rfl ?_
      refine aw_cV_i (st := [.ref y0]) [.int y1, .int 1] wV_RX8_119 (ci := 8) rfl (fun xr er => c_X8_get g h y0 y1 1 xr er) dX8_goAside_12 rfl rfl (Nat.le_of_ble_eq_true rfl) (Nat.le_of_ble_eq_true rfl) (Nat.le_of_ble_eq_true rfl) (Nat.le_of_ble_eq_true rfl) hf (fun x1 hf => ?_)
      refine aw_iload_n 2 dX8_goAside_15 rfl ?_
      refine aw_cV_i (st := []) [.int x1, .int y2] wV_RX8_96 (ci := 8) rfl (fun xr er => c_X8_creaks g h y0 x1 y2 xr er) dX8_goAside_16 rfl rfl (Nat.le_of_ble_eq_true rfl) (Nat.le_of_ble_eq_true rfl) (Nat.le_of_ble_eq_true rfl) (Nat.le_of_ble_eq_true rfl) hf (fun x2 hf => ?_)
      refine aw_if_le (tgt := 37) dX8_goAside_19 rfl (fun hc => ?_) (fun hc => ?_)
      · have hf := itp0 hc hf
        refine aw_iinc (y2 + 1) [(2, .int (y2 + 1)), (0, .ref y0), (1, .int y1)] 2 dX8_goAside_37 rfl rfl (Nat.le_of_ble_eq_true rfl) rfl ?_
        refine aw_goto (tgt := 2) dX8_goAside_40 rfl ?_
        refine aw_pick [1, 2, 0] rfl ?_
        exact ih h y0 y1 (y2 + 1) o hf
      · have hf := itn0 hc hf
        refine aw_aload_n 0 dX8_goAside_22 rfl ?_
        refine aw_gR fl_RX8_27 dX8_goAside_23 hf (fun x3 hf => ?_)
        refine aw_iload_n 1 dX8_goAside_26 rfl ?_
        refine aw_iload_n 2 dX8_goAside_27 rfl ?_
        refine aw_stI dX8_goAside_28 hf (fun h4 hf => ?_)
        refine aw_aload_n 0 dX8_goAside_29 rfl ?_
        refine aw_gR fl_RX8_30 dX8_goAside_30 hf (fun x5 hf => ?_)
        refine aw_iload_n 1 dX8_goAside_33 rfl ?_
        refine aw_iconst (v := 0) dX8_goAside_34 rfl ?_
        refine aw_stI dX8_goAside_35 hf (fun h6 hf => ?_)
        obtain rfl := so1 hf
        exact aw_vret dX8_goAside_36 rfl rfl
set_option maxRecDepth 100000 in
set_option maxHeartbeats 4000000 in
theorem c_X8_goAside (g : Gx) (h : Hea) (a0 : Nat) (a1 : Int32) (o : Hea) (hf : f_X8_goAside h a0 a1 = some o) : MC g yX8_goAside cX8_goAside 3 none 1 0 0 [.ref a0, .int a1] h (none, o) := by
  refine MC_of (own := RX8) (nm := "goAside") [(0, .ref a0), (1, .int a1)] rfl rfl pn_RX8 (Nat.le_of_ble_eq_true rfl) rfl ?_
  rw [f_X8_goAside] at hf
  refine aw_iconst (v := 0) dX8_goAside_0 rfl ?_
  refine aw_istore_n [(2, .int 0), (0, .ref a0), (1, .int a1)] dX8_goAside_1 (Nat.le_of_ble_eq_true rfl) rfl ?_
  refine aw_pick [1, 2, 0] rfl ?_
  exact l_X8_goAside_2 g lots h a0 a1 0 _ hf
set_option maxRecDepth 100000 in
set_option maxHeartbeats 4000000 in
theorem l_X8_layHas_44 (g : Gx) {res : Option Value × Hea} : ∀ (n : Nat) (h : Hea) (y0 : Nat) (y1 : Int32) (y2 : Int32) (y3 : Int32) (y4 : Int32) (y5 : Int32) (y6 : Int32) (o4 : Int32) (o5 : Int32) (ho : Hea) (hf : f_X8_layHas_44 n h y0 y1 y2 y4 y5 y6 = some (o4, o5, ho)) (kk : AW g RX8 cX8_layHas (8, none, "layHas", 4, 0, 0) res 101 [(0, .ref y0), (1, .int y1), (2, .int y2), (3, .int y3), (4, .int o4), (5, .int o5)] [] ho 0 0), AW g RX8 cX8_layHas (8, none, "layHas", 4, 0, 0) res 44 [(0, .ref y0), (1, .int y1), (2, .int y2), (3, .int y3), (4, .int y4), (5, .int y5), (6, .int y6)] [] h 0 0 := by
  intro n
  induction n with
  | zero =>
    intro h y0 y1 y2 y3 y4 y5 y6 o4 o5 ho hf kk
    rw [f_X8_layHas_44] at hf
    cases hf
  | succ n ih =>
    intro h y0 y1 y2 y3 y4 y5 y6 o4 o5 ho hf kk
    rw [f_X8_layHas_44] at hf
    refine aw_iload 6 dX8_layHas_44 rfl ?_
    refine aw_bipush (v := 60) dX8_layHas_46 rfl ?_
    refine aw_icmp_ge (tgt := 101) dX8_layHas_48 rfl (fun hc => ?_) (fun hc => ?_)
    · have hf := itp0 hc hf
      obtain ⟨rfl, rfl, rfl⟩ := so3 hf
      exact aw_pick [0, 1, 2, 3, 4, 5] rfl kk
    · have hf := itn0 hc hf
      refine aw_aload_n 0 dX8_layHas_51 rfl ?_
      refine aw_cV_wi (st := []) [] wV_RX8_153 (ci := 8) rfl (fun xr hr er => c_X8_goNight g h y0 xr hr er) dX8_layHas_52 rfl rfl (Nat.le_of_ble_eq_true rfl) (Nat.le_of_ble_eq_true rfl) (Nat.le_of_ble_eq_true rfl) (Nat.le_of_ble_eq_true rfl) hf (fun x1 h2 hf => ?_)
      refine aw_istore [(7, .int x1), (0, .ref y0), (1, .int y1), (2, .int y2), (3, .int y3), (4, .int y4), (5, .int y5), (6, .int y6)] dX8_layHas_55 (Nat.le_of_ble_eq_true rfl) rfl ?_
      refine aw_iload 0 dX8_layHas_57 rfl ?_
      refine aw_iload_n 2 dX8_layHas_59 rfl ?_
      refine aw_ishr dX8_layHas_60 ?_
      refine aw_iconst (v := 1) dX8_layHas_61 rfl ?_
      refine aw_iand dX8_layHas_62 ?_
      refine aw_iconst (v := 1) dX8_layHas_63 rfl ?_
      refine reg1 (fun (v3 : Int32) => AW g RX8 cX8_layHas (8, none, "layHas", 4, 0, 0) res 74 [(0, .ref y0), (1, .int y1), (2, .int y2), (3, .int y3), (5, .int y5), (6, .int y6), (7, .int x1)] [.int v3] h2 0 0) hf (fun v3 hf => ?_) (fun v3 hf hJ74 => ?_)
      · refine aw_istore [(4, .int v3), (0, .ref y0), (1, .int y1), (2, .int y2), (3, .int y3), (5, .int y5), (6, .int y6), (7, .int x1)] dX8_layHas_74 (Nat.le_of_ble_eq_true rfl) rfl ?_
        refine aw_iload 7 dX8_layHas_76 rfl ?_
        refine aw_iload_n 3 dX8_layHas_78 rfl ?_
        refine aw_ishr dX8_layHas_79 ?_
        refine aw_iconst (v := 1) dX8_layHas_80 rfl ?_
        refine aw_iand dX8_layHas_81 ?_
        refine aw_iconst (v := 1) dX8_layHas_82 rfl ?_
        refine reg1 (fun (v4 : Int32) => AW g RX8 cX8_layHas (8, none, "layHas", 4, 0, 0) res 93 [(0, .ref y0), (1, .int y1), (2, .int y2), (3, .int y3), (4, .int v3), (6, .int y6)] [.int v4] h2 0 0) hf (fun v4 hf => ?_) (fun v4 hf hJ93 => ?_)
        · refine aw_istore [(5, .int v4), (0, .ref y0), (1, .int y1), (2, .int y2), (3, .int y3), (4, .int v3), (6, .int y6)] dX8_layHas_93 (Nat.le_of_ble_eq_true rfl) rfl ?_
          refine aw_iinc (y6 + 1) [(6, .int (y6 + 1)), (5, .int v4), (0, .ref y0), (1, .int y1), (2, .int y2), (3, .int y3), (4, .int v3)] 6 dX8_layHas_95 rfl rfl (Nat.le_of_ble_eq_true rfl) rfl ?_
          refine aw_goto (tgt := 44) dX8_layHas_98 rfl ?_
          refine aw_pick [2, 3, 4, 5, 6, 1, 0] rfl ?_
          exact ih h2 y0 y1 y2 y3 v3 v4 (y6 + 1) o4 o5 ho hf kk
        · refine aw_icmp_ne (tgt := 91) dX8_layHas_83 rfl (fun hc => ?_) (fun hc => ?_)
          · have hf := itn0 hc hf
            refine aw_iload 5 dX8_layHas_91 rfl ?_
            obtain rfl := so1 hf
            exact aw_pick [1, 2, 3, 4, 0, 6] rfl hJ93
          · have hf := itp0 hc hf
            refine aw_iload 6 dX8_layHas_86 rfl ?_
            refine aw_goto (tgt := 93) dX8_layHas_88 rfl ?_
            obtain rfl := so1 hf
            exact aw_pick [1, 2, 3, 4, 0, 6] rfl hJ93
      · refine aw_icmp_ne (tgt := 72) dX8_layHas_64 rfl (fun hc => ?_) (fun hc => ?_)
        · have hf := itn0 hc hf
          refine aw_iload 5 dX8_layHas_72 rfl ?_
          obtain rfl := so1 hf
          exact aw_pick [1, 2, 3, 4, 6, 7, 0] rfl hJ74
        · have hf := itp0 hc hf
          refine aw_iload 7 dX8_layHas_67 rfl ?_
          refine aw_goto (tgt := 74) dX8_layHas_69 rfl ?_
          obtain rfl := so1 hf
          exact aw_pick [1, 2, 3, 4, 6, 7, 0] rfl hJ74
set_option maxRecDepth 100000 in
set_option maxHeartbeats 4000000 in
theorem l_X8_layHas_2 (g : Gx) {res : Option Value × Hea} : ∀ (n : Nat) (h : Hea) (y0 : Nat) (y1 : Int32) (y2 : Int32) (y3 : Int32) (ho : Hea) (hf : f_X8_layHas_2 n h y0 y1 y2 y3 = some ho) (kk : AW g RX8 cX8_layHas (8, none, "layHas", 4, 0, 0) res 150 [] [] ho 0 0), AW g RX8 cX8_layHas (8, none, "layHas", 4, 0, 0) res 2 [(0, .ref y0), (1, .int y1), (2, .int y2), (3, .int y3)] [] h 0 0 := by
  intro n
  induction n with
  | zero =>
    intro h y0 y1 y2 y3 ho hf kk
    rw [f_X8_layHas_2] at hf
    cases hf
  | succ n ih =>
    intro h y0 y1 y2 y3 ho hf kk
    rw [f_X8_layHas_2] at hf
    refine aw_iload_n 3 dX8_layHas_2 rfl ?_
    refine aw_iconst (v := 4) dX8_layHas_3 rfl ?_
    refine aw_icmp_ge (tgt := 150) dX8_layHas_4 rfl (fun hc => ?_) (fun hc => ?_)
    · have hf := itp0 hc hf
      obtain rfl := so1 hf
      exact aw_pick [] rfl kk
    · have hf := itn0 hc hf
      refine aw_ldc (v := 1000000) kc_RX8_165 dX8_layHas_7 ?_
      refine aw_istore [(4, .int 1000000), (0, .ref y0), (1, .int y1), (2, .int y2), (3, .int y3)] dX8_layHas_9 (Nat.le_of_ble_eq_true rfl) rfl ?_
      refine aw_ldc (v := 1000000) kc_RX8_165 dX8_layHas_11 ?_
      refine aw_istore [(5, .int 1000000), (4, .int 1000000), (0, .ref y0), (1, .int y1), (2, .int y2), (3, .int y3)] dX8_layHas_13 (Nat.le_of_ble_eq_true rfl) rfl ?_
      refine aw_aload_n 2 dX8_layHas_15 rfl ?_
      refine aw_cV_v (st := []) [] wV_RX8_150 (ci := 8) rfl (fun hr er => c_X8_layHand g h y0 hr er) dX8_layHas_16 rfl rfl (Nat.le_of_ble_eq_true rfl) (Nat.le_of_ble_eq_true rfl) (Nat.le_of_ble_eq_true rfl) (Nat.le_of_ble_eq_true rfl) hf (fun h1 hf => ?_)
      refine aw_iload_n 5 dX8_layHas_19 rfl ?_
      refine aw_iconst (v := 1) dX8_layHas_20 rfl ?_
      refine aw_iand dX8_layHas_21 ?_
      refine aw_iconst (v := 1) dX8_layHas_22 rfl ?_
      refine reg1 (fun (h2 : Hea) => AW g RX8 cX8_layHas (8, none, "layHas", 4, 0, 0) res 31 [(0, .ref y0), (1, .int y1), (2, .int y2), (3, .int y3), (4, .int 1000000), (5, .int 1000000)] [] h2 0 0) hf (fun h2 hf => ?_) (fun h2 hf hJ31 => ?_)
      · refine aw_iload_n 3 dX8_layHas_31 rfl ?_
        refine aw_iconst (v := 1) dX8_layHas_32 rfl ?_
        refine reg1 (fun (h4 : Hea) => AW g RX8 cX8_layHas (8, none, "layHas", 4, 0, 0) res 41 [(0, .ref y0), (1, .int y1), (2, .int y2), (3, .int y3), (4, .int 1000000), (5, .int 1000000)] [] h4 0 0) hf (fun h4 hf => ?_) (fun h4 hf hJ41 => ?_)
        · refine aw_iconst (v := 0) dX8_layHas_41 rfl ?_
          refine aw_istore [(6, .int 0), (0, .ref y0), (1, .int y1), (2, .int y2), (3, .int y3), (4, .int 1000000), (5, .int 1000000)] dX8_layHas_42 (Nat.le_of_ble_eq_true rfl) rfl ?_
          refine aw_pick [1, 2, 3, 4, 5, 6, 0] rfl ?_
          refine reg3 (fun (v6 : Int32) (v7 : Int32) (h8 : Hea) => AW g RX8 cX8_layHas (8, none, "layHas", 4, 0, 0) res 101 [(0, .ref y0), (1, .int y1), (2, .int y2), (3, .int y3), (4, .int v6), (5, .int v7)] [] h8 0 0) hf (fun v6 v7 h8 hf => ?_) (fun v6 v7 h8 hf hJ => l_X8_layHas_44 g  lots h4 y0 y1 y2 y3 1000000 1000000 0 v6 v7 h8 hf hJ)
          refine aw_aload_n 0 dX8_layHas_101 rfl ?_
          refine aw_gR fl_RX8_48 dX8_layHas_102 hf (fun x9 hf => ?_)
          refine aw_iload_n 3 dX8_layHas_105 rfl ?_
          refine aw_iload 4 dX8_layHas_106 rfl ?_
          refine aw_iload 5 dX8_layHas_108 rfl ?_
          refine reg1 (fun (v10 : Int32) => AW g RX8 cX8_layHas (8, none, "layHas", 4, 0, 0) res 129 [(0, .ref y0), (1, .int y1), (2, .int y2), (3, .int y3)] [.int v10, .int y3, .ref x9] h8 0 0) hf (fun v10 hf => ?_) (fun v10 hf hJ129 => ?_)
          · refine aw_stI dX8_layHas_129 hf (fun h11 hf => ?_)
            refine aw_aload_n 0 dX8_layHas_130 rfl ?_
            refine aw_gR fl_RX8_51 dX8_layHas_131 hf (fun x12 hf => ?_)
            refine aw_iload_n 3 dX8_layHas_134 rfl ?_
            refine aw_iconst (v := 2) dX8_layHas_135 rfl ?_
            refine aw_aload_n 0 dX8_layHas_136 rfl ?_
            refine aw_gR fl_RX8_48 dX8_layHas_137 hf (fun x13 hf => ?_)
            refine aw_iload_n 3 dX8_layHas_140 rfl ?_
            refine aw_ldI dX8_layHas_141 hf (fun x14 hf => ?_)
            refine aw_isub dX8_layHas_142 ?_
            refine aw_stI dX8_layHas_143 hf (fun h15 hf => ?_)
            refine aw_iinc (y3 + 1) [(3, .int (y3 + 1)), (0, .ref y0), (1, .int y1), (2, .int y2)] 3 dX8_layHas_144 rfl rfl (Nat.le_of_ble_eq_true rfl) rfl ?_
            refine aw_goto (tgt := 2) dX8_layHas_147 rfl ?_
            refine aw_pick [1, 2, 3, 0] rfl ?_
            exact ih h15 y0 y1 y2 (y3 + 1) ho hf kk
          · refine aw_icmp_ge (tgt := 117) dX8_layHas_110 rfl (fun hc => ?_) (fun hc => ?_)
            · have hf := itp0 hc hf
              refine aw_iload 4 dX8_layHas_117 rfl ?_
              refine aw_iload 5 dX8_layHas_119 rfl ?_
              refine aw_icmp_ne (tgt := 128) dX8_layHas_121 rfl (fun hc => ?_) (fun hc => ?_)
              · have hf := itn0 hc hf
                refine aw_iconst (v := 0) dX8_layHas_128 rfl ?_
                obtain rfl := so1 hf
                exact aw_pick [0, 1, 2, 3] rfl hJ129
              · have hf := itp0 hc hf
                refine aw_iconst (v := 1) dX8_layHas_124 rfl ?_
                refine aw_goto (tgt := 129) dX8_layHas_125 rfl ?_
                obtain rfl := so1 hf
                exact aw_pick [0, 1, 2, 3] rfl hJ129
            · have hf := itn0 hc hf
              refine aw_iconst (v := 2) dX8_layHas_113 rfl ?_
              refine aw_goto (tgt := 129) dX8_layHas_114 rfl ?_
              obtain rfl := so1 hf
              exact aw_pick [0, 1, 2, 3] rfl hJ129
        · refine aw_icmp_le (tgt := 41) dX8_layHas_33 rfl (fun hc => ?_) (fun hc => ?_)
          · have hf := itp0 hc hf
            obtain rfl := so1 hf
            exact aw_pick [0, 1, 2, 3, 4, 5] rfl hJ41
          · have hf := itn0 hc hf
            refine aw_aload_n 0 dX8_layHas_36 rfl ?_
            refine aw_iload_n 2 dX8_layHas_37 rfl ?_
            refine aw_cV_v (st := []) [.int y2] wV_RX8_175 (ci := 8) rfl (fun hr er => c_X8_goAside g h2 y0 y2 hr er) dX8_layHas_38 rfl rfl (Nat.le_of_ble_eq_true rfl) (Nat.le_of_ble_eq_true rfl) (Nat.le_of_ble_eq_true rfl) (Nat.le_of_ble_eq_true rfl) hf (fun h5 hf => ?_)
            obtain rfl := so1 hf
            exact aw_pick [0, 1, 2, 3, 4, 5] rfl hJ41
      · refine aw_icmp_ne (tgt := 31) dX8_layHas_23 rfl (fun hc => ?_) (fun hc => ?_)
        · have hf := itn0 hc hf
          obtain rfl := so1 hf
          exact aw_pick [2, 3, 4, 5, 1, 0] rfl hJ31
        · have hf := itp0 hc hf
          refine aw_aload_n 2 dX8_layHas_26 rfl ?_
          refine aw_iload_n 3 dX8_layHas_27 rfl ?_
          refine aw_cV_v (st := []) [.int y1] wV_RX8_175 (ci := 8) rfl (fun hr er => c_X8_goAside g h1 y0 y1 hr er) dX8_layHas_28 rfl rfl (Nat.le_of_ble_eq_true rfl) (Nat.le_of_ble_eq_true rfl) (Nat.le_of_ble_eq_true rfl) (Nat.le_of_ble_eq_true rfl) hf (fun h3 hf => ?_)
          obtain rfl := so1 hf
          exact aw_pick [2, 3, 4, 5, 1, 0] rfl hJ31
set_option maxRecDepth 100000 in
set_option maxHeartbeats 4000000 in
theorem c_X8_layHas (g : Gx) (h : Hea) (a0 : Nat) (a1 : Int32) (a2 : Int32) (o : Hea) (hf : f_X8_layHas h a0 a1 a2 = some o) : MC g yX8_layHas cX8_layHas 8 none 4 0 0 [.ref a0, .int a1, .int a2] h (none, o) := by
  refine MC_of (own := RX8) (nm := "layHas") [(0, .ref a0), (1, .int a1), (2, .int a2)] rfl rfl pn_RX8 (Nat.le_of_ble_eq_true rfl) rfl ?_
  rw [f_X8_layHas] at hf
  refine aw_iconst (v := 0) dX8_layHas_0 rfl ?_
  refine aw_istore_n [(3, .int 0), (0, .ref a0), (1, .int a1), (2, .int a2)] dX8_layHas_1 (Nat.le_of_ble_eq_true rfl) rfl ?_
  refine aw_pick [1, 2, 3, 0] rfl ?_
  refine reg1 (fun (h1 : Hea) => AW g RX8 cX8_layHas (8, none, "layHas", 4, 0, 0) (none, o) 150 [] [] h1 0 0) hf (fun h1 hf => ?_) (fun h1 hf hJ => l_X8_layHas_2 g  lots h a0 a1 a2 0 h1 hf hJ)
  obtain rfl := so1 hf
  exact aw_vret dX8_layHas_150 rfl rfl
set_option maxRecDepth 100000 in
set_option maxHeartbeats 4000000 in
theorem l_X8_choose_62 (g : Gx) {res : Option Value × Hea} : ∀ (n : Nat) (h : Hea) (y0 : Nat) (y3 : Int32) (y4 : Int32) (o3 : Int32) (hf : f_X8_choose_62 n h y0 y3 y4 = some o3) (kk : AW g RX8 cX8_choose (6, some .int, "choose", 5, 0, 0) res 135 [(3, .int o3)] [] h 0 0), AW g RX8 cX8_choose (6, some .int, "choose", 5, 0, 0) res 62 [(0, .ref y0), (3, .int y3), (4, .int y4)] [] h 0 0 := by
  intro n
  induction n with
  | zero =>
    intro h y0 y3 y4 o3 hf kk
    rw [f_X8_choose_62] at hf
    cases hf
  | succ n ih =>
    intro h y0 y3 y4 o3 hf kk
    rw [f_X8_choose_62] at hf
    refine aw_iload 2 dX8_choose_62 rfl ?_
    refine aw_iconst (v := 4) dX8_choose_64 rfl ?_
    refine aw_icmp_ge (tgt := 135) dX8_choose_65 rfl (fun hc => ?_) (fun hc => ?_)
    · have hf := itp0 hc hf
      obtain rfl := so1 hf
      exact aw_pick [1] rfl kk
    · have hf := itn0 hc hf
      refine aw_aload_n 0 dX8_choose_68 rfl ?_
      refine aw_gR fl_RX8_48 dX8_choose_69 hf (fun x1 hf => ?_)
      refine aw_iload 2 dX8_choose_72 rfl ?_
      refine aw_ldI dX8_choose_74 hf (fun x2 hf => ?_)
      refine aw_aload_n 0 dX8_choose_75 rfl ?_
      refine aw_gR fl_RX8_48 dX8_choose_76 hf (fun x3 hf => ?_)
      refine aw_iload 2 dX8_choose_79 rfl ?_
      refine aw_iconst (v := 1) dX8_choose_81 rfl ?_
      refine aw_ixor dX8_choose_82 ?_
      refine aw_ldI dX8_choose_83 hf (fun x4 hf => ?_)
      refine reg1 (fun (v5 : Int32) => AW g RX8 cX8_choose (6, some .int, "choose", 5, 0, 0) res 111 [(0, .ref y0), (3, .int y3), (4, .int y4)] [.int v5] h 0 0) hf (fun v5 hf => ?_) (fun v5 hf hJ111 => ?_)
      · refine aw_istore [(5, .int v5), (0, .ref y0), (3, .int y3), (4, .int y4)] dX8_choose_111 (Nat.le_of_ble_eq_true rfl) rfl ?_
        refine aw_iload_n 2 dX8_choose_113 rfl ?_
        refine aw_iload 0 dX8_choose_114 rfl ?_
        refine reg1 (fun (v10 : Int32) => AW g RX8 cX8_choose (6, some .int, "choose", 5, 0, 0) res 127 [(0, .ref y0), (4, .int y4)] [.int v10, .int y3] h 0 0) hf (fun v10 hf => ?_) (fun v10 hf hJ127 => ?_)
        · refine aw_ior dX8_choose_127 ?_
          refine aw_istore_n [(3, .int (y3 ||| v10)), (0, .ref y0), (4, .int y4)] dX8_choose_128 (Nat.le_of_ble_eq_true rfl) rfl ?_
          refine aw_iinc (y4 + 1) [(4, .int (y4 + 1)), (3, .int (y3 ||| v10)), (0, .ref y0)] 2 dX8_choose_129 rfl rfl (Nat.le_of_ble_eq_true rfl) rfl ?_
          refine aw_goto (tgt := 62) dX8_choose_132 rfl ?_
          refine aw_pick [2, 1, 0] rfl ?_
          exact ih h y0 (y3 ||| v10) (y4 + 1) o3 hf kk
        · refine aw_if_eq (tgt := 126) dX8_choose_116 rfl (fun hc => ?_) (fun hc => ?_)
          · have hf := itp0 hc hf
            refine aw_iconst (v := 0) dX8_choose_126 rfl ?_
            obtain rfl := so1 hf
            exact aw_pick [1, 3] rfl hJ127
          · have hf := itn0 hc hf
            refine aw_iconst (v := 1) dX8_choose_119 rfl ?_
            refine aw_iload 3 dX8_choose_120 rfl ?_
            refine aw_ishl dX8_choose_122 ?_
            refine aw_goto (tgt := 127) dX8_choose_123 rfl ?_
            obtain rfl := so1 hf
            exact aw_pick [1, 3] rfl hJ127
      · refine aw_icmp_lt (tgt := 110) dX8_choose_84 rfl (fun hc => ?_) (fun hc => ?_)
        · have hf := itp0 hc hf
          refine aw_iconst (v := 0) dX8_choose_110 rfl ?_
          obtain rfl := so1 hf
          exact aw_pick [0, 1, 2] rfl hJ111
        · have hf := itn0 hc hf
          refine aw_aload_n 0 dX8_choose_87 rfl ?_
          refine aw_gR fl_RX8_51 dX8_choose_88 hf (fun x6 hf => ?_)
          refine aw_iload 2 dX8_choose_91 rfl ?_
          refine aw_ldI dX8_choose_93 hf (fun x7 hf => ?_)
          refine aw_aload_n 0 dX8_choose_94 rfl ?_
          refine aw_gR fl_RX8_51 dX8_choose_95 hf (fun x8 hf => ?_)
          refine aw_iload 2 dX8_choose_98 rfl ?_
          refine aw_iconst (v := 2) dX8_choose_100 rfl ?_
          refine aw_ixor dX8_choose_101 ?_
          refine aw_ldI dX8_choose_102 hf (fun x9 hf => ?_)
          refine aw_icmp_lt (tgt := 110) dX8_choose_103 rfl (fun hc => ?_) (fun hc => ?_)
          · have hf := itp0 hc hf
            refine aw_iconst (v := 0) dX8_choose_110 rfl ?_
            obtain rfl := so1 hf
            exact aw_pick [0, 1, 2] rfl hJ111
          · have hf := itn0 hc hf
            refine aw_iconst (v := 1) dX8_choose_106 rfl ?_
            refine aw_goto (tgt := 111) dX8_choose_107 rfl ?_
            obtain rfl := so1 hf
            exact aw_pick [0, 1, 2] rfl hJ111
set_option maxRecDepth 100000 in
set_option maxHeartbeats 4000000 in
theorem c_X8_choose (g : Gx) (h : Hea) (a0 : Nat) (a1 : Int32) (a2 : Int32) (o : Int32) (hz : Hea) (hf : f_X8_choose h a0 a1 a2 = some (o, hz)) : MC g yX8_choose cX8_choose 6 (some .int) 5 0 0 [.ref a0, .int a1, .int a2] h (some (.int o), hz) := by
  refine MC_of (own := RX8) (nm := "choose") [(0, .ref a0), (1, .int a1), (2, .int a2)] rfl rfl pn_RX8 (Nat.le_of_ble_eq_true rfl) rfl ?_
  rw [f_X8_choose] at hf
  refine aw_aload_n 0 dX8_choose_0 rfl ?_
  refine aw_iload_n 1 dX8_choose_1 rfl ?_
  refine aw_cV_i (st := []) [.int a1] wV_RX8_137 (ci := 8) rfl (fun xr er => c_X8_isHeir g h a0 a1 xr er) dX8_choose_2 rfl rfl (Nat.le_of_ble_eq_true rfl) (Nat.le_of_ble_eq_true rfl) (Nat.le_of_ble_eq_true rfl) (Nat.le_of_ble_eq_true rfl) hf (fun x1 hf => ?_)
  refine aw_if_eq (tgt := 21) dX8_choose_5 rfl (fun hc => ?_) (fun hc => ?_)
  · have hf := itp0 hc hf
    refine aw_aload_n 0 dX8_choose_21 rfl ?_
    refine aw_bipush (v := (-2)) dX8_choose_22 rfl ?_
    refine aw_cV_wi (st := []) [.int (-2)] wV_RX8_86 (ci := 8) rfl (fun xr hr er => c_X8_bad g h a0 (-2) xr hr er) dX8_choose_24 rfl rfl (Nat.le_of_ble_eq_true rfl) (Nat.le_of_ble_eq_true rfl) (Nat.le_of_ble_eq_true rfl) (Nat.le_of_ble_eq_true rfl) hf (fun x2 h3 hf => ?_)
    obtain ⟨rfl, rfl⟩ := so2 hf
    exact aw_iret dX8_choose_27 rfl rfl
  · have hf := itn0 hc hf
    refine aw_aload_n 0 dX8_choose_8 rfl ?_
    refine aw_iload_n 2 dX8_choose_9 rfl ?_
    refine aw_cV_i (st := []) [.int a2] wV_RX8_137 (ci := 8) rfl (fun xr er => c_X8_isHeir g h a0 a2 xr er) dX8_choose_10 rfl rfl (Nat.le_of_ble_eq_true rfl) (Nat.le_of_ble_eq_true rfl) (Nat.le_of_ble_eq_true rfl) (Nat.le_of_ble_eq_true rfl) hf (fun x4 hf => ?_)
    refine aw_if_eq (tgt := 21) dX8_choose_13 rfl (fun hc => ?_) (fun hc => ?_)
    · have hf := itp0 hc hf
      refine aw_aload_n 0 dX8_choose_21 rfl ?_
      refine aw_bipush (v := (-2)) dX8_choose_22 rfl ?_
      refine aw_cV_wi (st := []) [.int (-2)] wV_RX8_86 (ci := 8) rfl (fun xr hr er => c_X8_bad g h a0 (-2) xr hr er) dX8_choose_24 rfl rfl (Nat.le_of_ble_eq_true rfl) (Nat.le_of_ble_eq_true rfl) (Nat.le_of_ble_eq_true rfl) (Nat.le_of_ble_eq_true rfl) hf (fun x5 h6 hf => ?_)
      obtain ⟨rfl, rfl⟩ := so2 hf
      exact aw_iret dX8_choose_27 rfl rfl
    · have hf := itn0 hc hf
      refine aw_iload_n 1 dX8_choose_16 rfl ?_
      refine aw_iload_n 2 dX8_choose_17 rfl ?_
      refine aw_icmp_ne (tgt := 28) dX8_choose_18 rfl (fun hc => ?_) (fun hc => ?_)
      · have hf := itn0 hc hf
        refine aw_aload_n 0 dX8_choose_28 rfl ?_
        refine aw_iload_n 1 dX8_choose_29 rfl ?_
        refine aw_iconst (v := 4) dX8_choose_30 rfl ?_
        refine aw_cV_i (st := []) [.int a1, .int 4] wV_RX8_119 (ci := 8) rfl (fun xr er => c_X8_get g h a0 a1 4 xr er) dX8_choose_31 rfl rfl (Nat.le_of_ble_eq_true rfl) (Nat.le_of_ble_eq_true rfl) (Nat.le_of_ble_eq_true rfl) (Nat.le_of_ble_eq_true rfl) hf (fun x7 hf => ?_)
        refine aw_if_ne (tgt := 46) dX8_choose_34 rfl (fun hc => ?_) (fun hc => ?_)
        · have hf := itn0 hc hf
          refine aw_aload_n 0 dX8_choose_46 rfl ?_
          refine aw_cV_wi (st := []) [] wV_RX8_140 (ci := 8) rfl (fun xr hr er => c_X8_no g h a0 xr hr er) dX8_choose_47 rfl rfl (Nat.le_of_ble_eq_true rfl) (Nat.le_of_ble_eq_true rfl) (Nat.le_of_ble_eq_true rfl) (Nat.le_of_ble_eq_true rfl) hf (fun x8 h9 hf => ?_)
          obtain ⟨rfl, rfl⟩ := so2 hf
          exact aw_iret dX8_choose_50 rfl rfl
        · have hf := itp0 hc hf
          refine aw_aload_n 0 dX8_choose_37 rfl ?_
          refine aw_iload_n 2 dX8_choose_38 rfl ?_
          refine aw_iconst (v := 4) dX8_choose_39 rfl ?_
          refine aw_cV_i (st := []) [.int a2, .int 4] wV_RX8_119 (ci := 8) rfl (fun xr er => c_X8_get g h a0 a2 4 xr er) dX8_choose_40 rfl rfl (Nat.le_of_ble_eq_true rfl) (Nat.le_of_ble_eq_true rfl) (Nat.le_of_ble_eq_true rfl) (Nat.le_of_ble_eq_true rfl) hf (fun x10 hf => ?_)
          refine aw_if_eq (tgt := 51) dX8_choose_43 rfl (fun hc => ?_) (fun hc => ?_)
          · have hf := itp0 hc hf
            refine aw_aload_n 0 dX8_choose_51 rfl ?_
            refine aw_iload_n 1 dX8_choose_52 rfl ?_
            refine aw_iload_n 2 dX8_choose_53 rfl ?_
            refine aw_cV_v (st := []) [.int a1, .int a2] wV_RX8_179 (ci := 8) rfl (fun hr er => c_X8_layHas g h a0 a1 a2 hr er) dX8_choose_54 rfl rfl (Nat.le_of_ble_eq_true rfl) (Nat.le_of_ble_eq_true rfl) (Nat.le_of_ble_eq_true rfl) (Nat.le_of_ble_eq_true rfl) hf (fun h11 hf => ?_)
            refine aw_iconst (v := 0) dX8_choose_57 rfl ?_
            refine aw_istore_n [(3, .int 0), (0, .ref a0), (1, .int a1), (2, .int a2)] dX8_choose_58 (Nat.le_of_ble_eq_true rfl) rfl ?_
            refine aw_iconst (v := 0) dX8_choose_59 rfl ?_
            refine aw_istore [(4, .int 0), (3, .int 0), (0, .ref a0), (1, .int a1), (2, .int a2)] dX8_choose_60 (Nat.le_of_ble_eq_true rfl) rfl ?_
            refine aw_pick [2, 1, 0] rfl ?_
            refine reg1 (fun (v12 : Int32) => AW g RX8 cX8_choose (6, some .int, "choose", 5, 0, 0) (some (.int o), hz) 135 [(3, .int v12)] [] h11 0 0) hf (fun v12 hf => ?_) (fun v12 hf hJ => l_X8_choose_62 g  lots h11 a0 0 0 v12 hf hJ)
            refine aw_iload_n 0 dX8_choose_135 rfl ?_
            obtain ⟨rfl, rfl⟩ := so2 hf
            exact aw_iret dX8_choose_136 rfl rfl
          · have hf := itn0 hc hf
            refine aw_aload_n 0 dX8_choose_46 rfl ?_
            refine aw_cV_wi (st := []) [] wV_RX8_140 (ci := 8) rfl (fun xr hr er => c_X8_no g h a0 xr hr er) dX8_choose_47 rfl rfl (Nat.le_of_ble_eq_true rfl) (Nat.le_of_ble_eq_true rfl) (Nat.le_of_ble_eq_true rfl) (Nat.le_of_ble_eq_true rfl) hf (fun x13 h14 hf => ?_)
            obtain ⟨rfl, rfl⟩ := so2 hf
            exact aw_iret dX8_choose_50 rfl rfl
      · have hf := itp0 hc hf
        refine aw_aload_n 0 dX8_choose_21 rfl ?_
        refine aw_bipush (v := (-2)) dX8_choose_22 rfl ?_
        refine aw_cV_wi (st := []) [.int (-2)] wV_RX8_86 (ci := 8) rfl (fun xr hr er => c_X8_bad g h a0 (-2) xr hr er) dX8_choose_24 rfl rfl (Nat.le_of_ble_eq_true rfl) (Nat.le_of_ble_eq_true rfl) (Nat.le_of_ble_eq_true rfl) (Nat.le_of_ble_eq_true rfl) hf (fun x15 h16 hf => ?_)
        obtain ⟨rfl, rfl⟩ := so2 hf
        exact aw_iret dX8_choose_27 rfl rfl
