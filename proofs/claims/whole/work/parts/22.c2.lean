/-! ===== contracts, by program: X7_of .. X7_odds ===== -/
set_option maxRecDepth 100000 in
set_option maxHeartbeats 4000000 in
theorem c_X7_of (g : Gx) (h : Hea) (a0 : Nat) (a1 : Int32) (a2 : Int32) (o : Int32) (hz : Hea) (hf : f_X7_of h a0 a1 a2 = some (o, hz)) : MC g yX7_of cX7_of 4 (some .int) 2 0 0 [.ref a0, .int a1, .int a2] h (some (.int o), hz) := by
  refine MC_of (own := RX7) (nm := "of") [(0, .ref a0), (1, .int a1), (2, .int a2)] rfl rfl pn_RX7 (Nat.le_of_ble_eq_true rfl) rfl ?_
  rw [f_X7_of] at hf
  refine aw_aload_n 0 dX7_of_0 rfl ?_
  refine aw_iload_n 1 dX7_of_1 rfl ?_
  refine aw_cV_i (st := []) [.int a1] wV_RX7_148 (ci := 7) rfl (fun xr er => c_X7_isHeir g h a0 a1 xr er) dX7_of_2 rfl rfl (Nat.le_of_ble_eq_true rfl) (Nat.le_of_ble_eq_true rfl) (Nat.le_of_ble_eq_true rfl) (Nat.le_of_ble_eq_true rfl) hf (fun x1 hf => ?_)
  refine aw_if_ne (tgt := 13) dX7_of_5 rfl (fun hc => ?_) (fun hc => ?_)
  · have hf := itn0 hc hf
    refine aw_aload_n 0 dX7_of_13 rfl ?_
    refine aw_gR fl_RX7_10 dX7_of_14 hf (fun x2 hf => ?_)
    refine aw_gR fl_RX7_151 dX7_of_17 hf (fun x3 hf => ?_)
    refine aw_astore_n [(3, .ref x3), (0, .ref a0), (1, .int a1), (2, .int a2)] dX7_of_20 (Nat.le_of_ble_eq_true rfl) rfl ?_
    refine aw_iload_n 3 dX7_of_21 rfl ?_
    by_cases hc0 : a2 = 0
    · have hf := itp0 hc0 hf
      refine aw_tsK (tgt := 64) (off := 42) (k := 0) hc0 rfl dX7_of_22 (by decide) (by decide) rfl rfl ?_
      refine aw_aload_n 1 dX7_of_64 rfl ?_
      refine aw_gR fl_RX7_10 dX7_of_65 hf (fun x4 hf => ?_)
      refine aw_gR fl_RX7_186 dX7_of_68 hf (fun x5 hf => ?_)
      refine aw_iload_n 2 dX7_of_71 rfl ?_
      refine aw_ldI dX7_of_72 hf (fun x6 hf => ?_)
      obtain ⟨rfl, rfl⟩ := so2 hf
      exact aw_iret dX7_of_73 rfl rfl
    have hf := itn0 hc0 hf
    by_cases hc1 : a2 = 1
    · have hf := itp0 hc1 hf
      refine aw_tsK (tgt := 74) (off := 52) (k := 1) hc1 rfl dX7_of_22 (by decide) (by decide) rfl rfl ?_
      refine aw_aload_n 0 dX7_of_74 rfl ?_
      refine aw_gR fl_RX7_155 dX7_of_75 hf (fun x7 hf => ?_)
      refine aw_iload_n 2 dX7_of_78 rfl ?_
      refine aw_ldI dX7_of_79 hf (fun x8 hf => ?_)
      obtain ⟨rfl, rfl⟩ := so2 hf
      exact aw_iret dX7_of_80 rfl rfl
    have hf := itn0 hc1 hf
    by_cases hc2 : a2 = 2
    · have hf := itp0 hc2 hf
      refine aw_tsK (tgt := 81) (off := 59) (k := 2) hc2 rfl dX7_of_22 (by decide) (by decide) rfl rfl ?_
      refine aw_aload_n 1 dX7_of_81 rfl ?_
      refine aw_gR fl_RX7_10 dX7_of_82 hf (fun x9 hf => ?_)
      refine aw_gR fl_RX7_189 dX7_of_85 hf (fun x10 hf => ?_)
      refine aw_iload_n 2 dX7_of_88 rfl ?_
      refine aw_ldI dX7_of_89 hf (fun x11 hf => ?_)
      obtain ⟨rfl, rfl⟩ := so2 hf
      exact aw_iret dX7_of_90 rfl rfl
    have hf := itn0 hc2 hf
    by_cases hc3 : a2 = 3
    · have hf := itp0 hc3 hf
      refine aw_tsK (tgt := 91) (off := 69) (k := 3) hc3 rfl dX7_of_22 (by decide) (by decide) rfl rfl ?_
      refine aw_aload_n 0 dX7_of_91 rfl ?_
      refine aw_gR fl_RX7_192 dX7_of_92 hf (fun x12 hf => ?_)
      refine aw_iload_n 2 dX7_of_95 rfl ?_
      refine aw_ldI dX7_of_96 hf (fun x13 hf => ?_)
      obtain ⟨rfl, rfl⟩ := so2 hf
      exact aw_iret dX7_of_97 rfl rfl
    have hf := itn0 hc3 hf
    by_cases hc4 : a2 = 4
    · have hf := itp0 hc4 hf
      refine aw_tsK (tgt := 98) (off := 76) (k := 4) hc4 rfl dX7_of_22 (by decide) (by decide) rfl rfl ?_
      refine aw_aload_n 1 dX7_of_98 rfl ?_
      refine aw_gR fl_RX7_10 dX7_of_99 hf (fun x14 hf => ?_)
      refine aw_aload_n 0 dX7_of_102 rfl ?_
      refine aw_iload_n 2 dX7_of_103 rfl ?_
      refine aw_cV_i (st := []) [.ref x3, .int a1] wV_RX7_195 (ci := 1) rfl (fun xr er => c_X1_hidden g h x14 x3 a1 xr er) dX7_of_104 rfl rfl (Nat.le_of_ble_eq_true rfl) (Nat.le_of_ble_eq_true rfl) (Nat.le_of_ble_eq_true rfl) (Nat.le_of_ble_eq_true rfl) hf (fun x15 hf => ?_)
      obtain ⟨rfl, rfl⟩ := so2 hf
      exact aw_iret dX7_of_107 rfl rfl
    have hf := itn0 hc4 hf
    by_cases hc5 : a2 = 5
    · have hf := itp0 hc5 hf
      refine aw_tsK (tgt := 108) (off := 86) (k := 5) hc5 rfl dX7_of_22 (by decide) (by decide) rfl rfl ?_
      refine aw_aload_n 0 dX7_of_108 rfl ?_
      refine aw_gR fl_RX7_160 dX7_of_109 hf (fun x16 hf => ?_)
      refine aw_iload_n 2 dX7_of_112 rfl ?_
      refine aw_ldI dX7_of_113 hf (fun x17 hf => ?_)
      obtain ⟨rfl, rfl⟩ := so2 hf
      exact aw_iret dX7_of_114 rfl rfl
    have hf := itn0 hc5 hf
    by_cases hc6 : a2 = 6
    · have hf := itp0 hc6 hf
      refine aw_tsK (tgt := 115) (off := 93) (k := 6) hc6 rfl dX7_of_22 (by decide) (by decide) rfl rfl ?_
      refine aw_aload_n 0 dX7_of_115 rfl ?_
      refine aw_gR fl_RX7_198 dX7_of_116 hf (fun x18 hf => ?_)
      refine aw_iload_n 2 dX7_of_119 rfl ?_
      refine aw_ldI dX7_of_120 hf (fun x19 hf => ?_)
      obtain ⟨rfl, rfl⟩ := so2 hf
      exact aw_iret dX7_of_121 rfl rfl
    have hf := itn0 hc6 hf
    refine aw_tsOut (tgt := 122) dX7_of_22 (ts_out 0 7 (by decide) (by decide) (fun i hi => by rcases (show i = 0 ∨ i = 1 ∨ i = 2 ∨ i = 3 ∨ i = 4 ∨ i = 5 ∨ i = 6 by omega) with rfl | rfl | rfl | rfl | rfl | rfl | rfl <;> assumption)) rfl ?_
    refine aw_aload_n 1 dX7_of_122 rfl ?_
    refine aw_cV_wi (st := []) [] wV_RX7_94 (ci := 7) rfl (fun xr hr er => c_X7_refuseBad g h a0 xr hr er) dX7_of_123 rfl rfl (Nat.le_of_ble_eq_true rfl) (Nat.le_of_ble_eq_true rfl) (Nat.le_of_ble_eq_true rfl) (Nat.le_of_ble_eq_true rfl) hf (fun x20 h21 hf => ?_)
    obtain ⟨rfl, rfl⟩ := so2 hf
    exact aw_iret dX7_of_126 rfl rfl
  · have hf := itp0 hc hf
    refine aw_aload_n 0 dX7_of_8 rfl ?_
    refine aw_cV_wi (st := []) [] wV_RX7_94 (ci := 7) rfl (fun xr hr er => c_X7_refuseBad g h a0 xr hr er) dX7_of_9 rfl rfl (Nat.le_of_ble_eq_true rfl) (Nat.le_of_ble_eq_true rfl) (Nat.le_of_ble_eq_true rfl) (Nat.le_of_ble_eq_true rfl) hf (fun x22 h23 hf => ?_)
    obtain ⟨rfl, rfl⟩ := so2 hf
    exact aw_iret dX7_of_12 rfl rfl
set_option maxRecDepth 100000 in
set_option maxHeartbeats 4000000 in
theorem c_X7_looks (g : Gx) (h : Hea) (a0 : Nat) (a1 : Int32) (o : Int32) (hz : Hea) (hf : f_X7_looks h a0 a1 = some (o, hz)) : MC g yX7_looks cX7_looks 2 (some .int) 1 0 0 [.ref a0, .int a1] h (some (.int o), hz) := by
  refine MC_of (own := RX7) (nm := "looks") [(0, .ref a0), (1, .int a1)] rfl rfl pn_RX7 (Nat.le_of_ble_eq_true rfl) rfl ?_
  rw [f_X7_looks] at hf
  refine aw_iload_n 1 dX7_looks_0 rfl ?_
  refine aw_iconst (v := 0) dX7_looks_1 rfl ?_
  refine aw_bipush (v := 99) dX7_looks_2 rfl ?_
  refine aw_cS_i (st := []) [.int a1, .int 0, .int 99] wS_RX7_90 (fun xr er => c_X7_within g h a1 0 99 xr er) dX7_looks_4 rfl rfl (Nat.le_of_ble_eq_true rfl) (Nat.le_of_ble_eq_true rfl) (Nat.le_of_ble_eq_true rfl) (Nat.le_of_ble_eq_true rfl) hf (fun x1 hf => ?_)
  refine aw_if_ne (tgt := 15) dX7_looks_7 rfl (fun hc => ?_) (fun hc => ?_)
  · have hf := itn0 hc hf
    refine aw_aload_n 0 dX7_looks_15 rfl ?_
    refine aw_gR fl_RX7_10 dX7_looks_16 hf (fun x2 hf => ?_)
    refine aw_iload_n 1 dX7_looks_19 rfl ?_
    refine aw_cV_i (st := []) [.int a1] wV_RX7_201 (ci := 1) rfl (fun xr er => c_X1_lookedInto g h x2 a1 xr er) dX7_looks_20 rfl rfl (Nat.le_of_ble_eq_true rfl) (Nat.le_of_ble_eq_true rfl) (Nat.le_of_ble_eq_true rfl) (Nat.le_of_ble_eq_true rfl) hf (fun x3 hf => ?_)
    obtain ⟨rfl, rfl⟩ := so2 hf
    exact aw_iret dX7_looks_23 rfl rfl
  · have hf := itp0 hc hf
    refine aw_aload_n 0 dX7_looks_10 rfl ?_
    refine aw_cV_wi (st := []) [] wV_RX7_94 (ci := 7) rfl (fun xr hr er => c_X7_refuseBad g h a0 xr hr er) dX7_looks_11 rfl rfl (Nat.le_of_ble_eq_true rfl) (Nat.le_of_ble_eq_true rfl) (Nat.le_of_ble_eq_true rfl) (Nat.le_of_ble_eq_true rfl) hf (fun x4 h5 hf => ?_)
    obtain ⟨rfl, rfl⟩ := so2 hf
    exact aw_iret dX7_looks_14 rfl rfl
set_option maxRecDepth 100000 in
set_option maxHeartbeats 4000000 in
theorem l_X0_after_13 (g : Gx) {res : Option Value × Hea} : ∀ (n : Nat) (h : Hea) (y0 : Nat) (y1 : Nat) (y2 : Int32) (y3 : Int32) (ho : Hea) (hf : f_X0_after_13 n h y0 y1 y2 y3 = some ho) (kk : AW g RX0 cX0_after (4, some (.object "FoundLast$Scene"), "after", 4, 0, 0) res 37 [(0, .ref y0)] [] ho 0 0), AW g RX0 cX0_after (4, some (.object "FoundLast$Scene"), "after", 4, 0, 0) res 13 [(0, .ref y0), (1, .ref y1), (2, .int y2), (3, .int y3)] [] h 0 0 := by
  intro n
  induction n with
  | zero =>
    intro h y0 y1 y2 y3 ho hf kk
    rw [f_X0_after_13] at hf
    cases hf
  | succ n ih =>
    intro h y0 y1 y2 y3 ho hf kk
    rw [f_X0_after_13] at hf
    refine aw_iload_n 3 dX0_after_13 rfl ?_
    refine aw_iload_n 2 dX0_after_14 rfl ?_
    refine aw_icmp_ge (tgt := 37) dX0_after_15 rfl (fun hc => ?_) (fun hc => ?_)
    · have hf := itp0 hc hf
      obtain rfl := so1 hf
      exact aw_pick [0] rfl kk
    · have hf := itn0 hc hf
      refine aw_aload_n 1 dX0_after_18 rfl ?_
      refine aw_aload_n 0 dX0_after_19 rfl ?_
      refine aw_gR fl_RX0_12 dX0_after_20 hf (fun x1 hf => ?_)
      refine aw_aload_n 1 dX0_after_23 rfl ?_
      refine aw_gI fl_RX0_31 dX0_after_24 hf (fun x2 hf => ?_)
      refine aw_cV_wi (st := []) [.ref x1, .int x2] wV_RX0_35 (ci := 1) rfl (fun xr hr er => c_X1_runNight g h y1 x1 x2 xr hr er) dX0_after_27 rfl rfl (Nat.le_of_ble_eq_true rfl) (Nat.le_of_ble_eq_true rfl) (Nat.le_of_ble_eq_true rfl) (Nat.le_of_ble_eq_true rfl) hf (fun x3 h4 hf => ?_)
      refine aw_pop dX0_after_30 rfl ?_
      refine aw_iinc (y3 + 1) [(3, .int (y3 + 1)), (0, .ref y0), (1, .ref y1), (2, .int y2)] 3 dX0_after_31 rfl rfl (Nat.le_of_ble_eq_true rfl) rfl ?_
      refine aw_goto (tgt := 13) dX0_after_34 rfl ?_
      refine aw_pick [1, 2, 3, 0] rfl ?_
      exact ih h4 y0 y1 y2 (y3 + 1) ho hf kk
set_option maxRecDepth 100000 in
set_option maxHeartbeats 4000000 in
theorem c_X0_after (g : Gx) (h : Hea) (a0 : Nat) (a1 : Nat) (a2 : Int32) (o : Nat) (hz : Hea) (hf : f_X0_after h a0 a1 a2 = some (o, hz)) : MC g yX0_after cX0_after 4 (some (.object "FoundLast$Scene")) 4 0 0 [.ref a0, .ref a1, .int a2] h (some (.ref o), hz) := by
  refine MC_of (own := RX0) (nm := "after") [(0, .ref a0), (1, .ref a1), (2, .int a2)] rfl rfl pn_RX0 (Nat.le_of_ble_eq_true rfl) rfl ?_
  rw [f_X0_after] at hf
  refine aw_aload_n 0 dX0_after_0 rfl ?_
  refine aw_gR fl_RX0_12 dX0_after_1 hf (fun x1 hf => ?_)
  refine aw_aload_n 1 dX0_after_4 rfl ?_
  refine aw_gR fl_RX0_22 dX0_after_5 hf (fun x2 hf => ?_)
  refine aw_cV_v (st := []) [.ref x2] wV_RX0_27 (ci := 3) rfl (fun hr er => c_X3_take g h x1 x2 hr er) dX0_after_8 rfl rfl (Nat.le_of_ble_eq_true rfl) (Nat.le_of_ble_eq_true rfl) (Nat.le_of_ble_eq_true rfl) (Nat.le_of_ble_eq_true rfl) hf (fun h3 hf => ?_)
  refine aw_iconst (v := 0) dX0_after_11 rfl ?_
  refine aw_istore_n [(3, .int 0), (0, .ref a0), (1, .ref a1), (2, .int a2)] dX0_after_12 (Nat.le_of_ble_eq_true rfl) rfl ?_
  refine aw_pick [1, 2, 3, 0] rfl ?_
  refine reg1 (fun (h4 : Hea) => AW g RX0 cX0_after (4, some (.object "FoundLast$Scene"), "after", 4, 0, 0) (some (.ref o), hz) 37 [(0, .ref a0)] [] h4 0 0) hf (fun h4 hf => ?_) (fun h4 hf hJ => l_X0_after_13 g  lots h3 a0 a1 a2 0 h4 hf hJ)
  refine aw_aload_n 0 dX0_after_37 rfl ?_
  refine aw_gR fl_RX0_12 dX0_after_38 hf (fun x5 hf => ?_)
  obtain ⟨rfl, rfl⟩ := so2 hf
  exact aw_aret dX0_after_41 rfl rfl
set_option maxRecDepth 100000 in
set_option maxHeartbeats 4000000 in
theorem c_X7_byThen (g : Gx) (h : Hea) (a0 : Nat) (a1 : Int32) (a2 : Int32) (a3 : Int32) (o : Int32) (hz : Hea) (hf : f_X7_byThen h a0 a1 a2 a3 = some (o, hz)) : MC g yX7_byThen cX7_byThen 5 (some .int) 5 0 0 [.ref a0, .int a1, .int a2, .int a3] h (some (.int o), hz) := by
  refine MC_of (own := RX7) (nm := "byThen") [(0, .ref a0), (1, .int a1), (2, .int a2), (3, .int a3)] rfl rfl pn_RX7 (Nat.le_of_ble_eq_true rfl) rfl ?_
  rw [f_X7_byThen] at hf
  refine aw_aload_n 0 dX7_byThen_0 rfl ?_
  refine aw_iload_n 1 dX7_byThen_1 rfl ?_
  refine aw_cV_i (st := []) [.int a1] wV_RX7_148 (ci := 7) rfl (fun xr er => c_X7_isHeir g h a0 a1 xr er) dX7_byThen_2 rfl rfl (Nat.le_of_ble_eq_true rfl) (Nat.le_of_ble_eq_true rfl) (Nat.le_of_ble_eq_true rfl) (Nat.le_of_ble_eq_true rfl) hf (fun x1 hf => ?_)
  refine aw_if_eq (tgt := 27) dX7_byThen_5 rfl (fun hc => ?_) (fun hc => ?_)
  · have hf := itp0 hc hf
    refine aw_aload_n 0 dX7_byThen_27 rfl ?_
    refine aw_cV_wi (st := []) [] wV_RX7_94 (ci := 7) rfl (fun xr hr er => c_X7_refuseBad g h a0 xr hr er) dX7_byThen_28 rfl rfl (Nat.le_of_ble_eq_true rfl) (Nat.le_of_ble_eq_true rfl) (Nat.le_of_ble_eq_true rfl) (Nat.le_of_ble_eq_true rfl) hf (fun x2 h3 hf => ?_)
    obtain ⟨rfl, rfl⟩ := so2 hf
    exact aw_iret dX7_byThen_31 rfl rfl
  · have hf := itn0 hc hf
    refine aw_iload_n 2 dX7_byThen_8 rfl ?_
    refine aw_iconst (v := 1) dX7_byThen_9 rfl ?_
    refine aw_bipush (v := 60) dX7_byThen_10 rfl ?_
    refine aw_cS_i (st := []) [.int a2, .int 1, .int 60] wS_RX7_90 (fun xr er => c_X7_within g h a2 1 60 xr er) dX7_byThen_12 rfl rfl (Nat.le_of_ble_eq_true rfl) (Nat.le_of_ble_eq_true rfl) (Nat.le_of_ble_eq_true rfl) (Nat.le_of_ble_eq_true rfl) hf (fun x4 hf => ?_)
    refine aw_if_eq (tgt := 27) dX7_byThen_15 rfl (fun hc => ?_) (fun hc => ?_)
    · have hf := itp0 hc hf
      refine aw_aload_n 0 dX7_byThen_27 rfl ?_
      refine aw_cV_wi (st := []) [] wV_RX7_94 (ci := 7) rfl (fun xr hr er => c_X7_refuseBad g h a0 xr hr er) dX7_byThen_28 rfl rfl (Nat.le_of_ble_eq_true rfl) (Nat.le_of_ble_eq_true rfl) (Nat.le_of_ble_eq_true rfl) (Nat.le_of_ble_eq_true rfl) hf (fun x5 h6 hf => ?_)
      obtain ⟨rfl, rfl⟩ := so2 hf
      exact aw_iret dX7_byThen_31 rfl rfl
    · have hf := itn0 hc hf
      refine aw_iload_n 3 dX7_byThen_18 rfl ?_
      refine aw_iconst (v := 0) dX7_byThen_19 rfl ?_
      refine aw_iconst (v := 1) dX7_byThen_20 rfl ?_
      refine aw_cS_i (st := []) [.int a3, .int 0, .int 1] wS_RX7_90 (fun xr er => c_X7_within g h a3 0 1 xr er) dX7_byThen_21 rfl rfl (Nat.le_of_ble_eq_true rfl) (Nat.le_of_ble_eq_true rfl) (Nat.le_of_ble_eq_true rfl) (Nat.le_of_ble_eq_true rfl) hf (fun x7 hf => ?_)
      refine aw_if_ne (tgt := 32) dX7_byThen_24 rfl (fun hc => ?_) (fun hc => ?_)
      · have hf := itn0 hc hf
        refine aw_aload_n 0 dX7_byThen_32 rfl ?_
        refine aw_gR fl_RX7_41 dX7_byThen_33 hf (fun x8 hf => ?_)
        refine aw_aload_n 0 dX7_byThen_36 rfl ?_
        refine aw_gR fl_RX7_10 dX7_byThen_37 hf (fun x9 hf => ?_)
        refine aw_iload_n 2 dX7_byThen_40 rfl ?_
        refine aw_cV_wa (st := []) [.ref x9, .int a2] wV_RX7_205 (ci := 0) rfl (fun xr hr er => c_X0_after g h x8 x9 a2 xr hr er) dX7_byThen_41 rfl rfl (Nat.le_of_ble_eq_true rfl) (Nat.le_of_ble_eq_true rfl) (Nat.le_of_ble_eq_true rfl) (Nat.le_of_ble_eq_true rfl) hf (fun x10 h11 hf => ?_)
        refine aw_astore [(4, .ref x10), (0, .ref a0), (1, .int a1), (2, .int a2), (3, .int a3)] dX7_byThen_44 (Nat.le_of_ble_eq_true rfl) rfl ?_
        refine aw_iload_n 4 dX7_byThen_46 rfl ?_
        refine reg1 (fun (v12 : Int32) => AW g RX7 cX7_byThen (5, some .int, "byThen", 5, 0, 0) (some (.int o), hz) 67 [] [.int v12] h11 0 0) hf (fun v12 hf => ?_) (fun v12 hf hJ67 => ?_)
        · obtain ⟨rfl, rfl⟩ := so2 hf
          exact aw_iret dX7_byThen_67 rfl rfl
        · refine aw_if_ne (tgt := 60) dX7_byThen_47 rfl (fun hc => ?_) (fun hc => ?_)
          · have hf := itn0 hc hf
            refine aw_aload 0 dX7_byThen_60 rfl ?_
            refine aw_gR fl_RX7_198 dX7_byThen_62 hf (fun x13 hf => ?_)
            refine aw_iload_n 2 dX7_byThen_65 rfl ?_
            refine aw_ldI dX7_byThen_66 hf (fun x14 hf => ?_)
            obtain rfl := so1 hf
            exact aw_pick [] rfl hJ67
          · have hf := itp0 hc hf
            refine aw_aload 0 dX7_byThen_50 rfl ?_
            refine aw_gR fl_RX7_160 dX7_byThen_52 hf (fun x15 hf => ?_)
            refine aw_iload_n 2 dX7_byThen_55 rfl ?_
            refine aw_ldI dX7_byThen_56 hf (fun x16 hf => ?_)
            refine aw_goto (tgt := 67) dX7_byThen_57 rfl ?_
            obtain rfl := so1 hf
            exact aw_pick [] rfl hJ67
      · have hf := itp0 hc hf
        refine aw_aload_n 0 dX7_byThen_27 rfl ?_
        refine aw_cV_wi (st := []) [] wV_RX7_94 (ci := 7) rfl (fun xr hr er => c_X7_refuseBad g h a0 xr hr er) dX7_byThen_28 rfl rfl (Nat.le_of_ble_eq_true rfl) (Nat.le_of_ble_eq_true rfl) (Nat.le_of_ble_eq_true rfl) (Nat.le_of_ble_eq_true rfl) hf (fun x17 h18 hf => ?_)
        obtain ⟨rfl, rfl⟩ := so2 hf
        exact aw_iret dX7_byThen_31 rfl rfl
set_option maxRecDepth 100000 in
set_option maxHeartbeats 4000000 in
theorem l_X0_firstFound_15 (g : Gx) {res : Option Value × Hea} : ∀ (n : Nat) (h : Hea) (y0 : Nat) (y1 : Nat) (y2 : Int32) (y3 : Int32) (o2 : Int32) (ho : Hea) (hf : f_X0_firstFound_15 n h y0 y1 y2 y3 = some (o2, ho)) (kk : AW g RX0 cX0_firstFound (4, some .int, "firstFound", 4, 0, 0) res 44 [(2, .int o2)] [] ho 0 0), AW g RX0 cX0_firstFound (4, some .int, "firstFound", 4, 0, 0) res 15 [(0, .ref y0), (1, .ref y1), (2, .int y2), (3, .int y3)] [] h 0 0 := by
  intro n
  induction n with
  | zero =>
    intro h y0 y1 y2 y3 o2 ho hf kk
    rw [f_X0_firstFound_15] at hf
    cases hf
  | succ n ih =>
    intro h y0 y1 y2 y3 o2 ho hf kk
    rw [f_X0_firstFound_15] at hf
    refine aw_iload_n 3 dX0_firstFound_15 rfl ?_
    refine aw_bipush (v := 60) dX0_firstFound_16 rfl ?_
    refine aw_icmp_ge (tgt := 44) dX0_firstFound_18 rfl (fun hc => ?_) (fun hc => ?_)
    · have hf := itp0 hc hf
      obtain ⟨rfl, rfl⟩ := so2 hf
      exact aw_pick [2] rfl kk
    · have hf := itn0 hc hf
      refine aw_iload_n 2 dX0_firstFound_21 rfl ?_
      refine aw_if_ne (tgt := 44) dX0_firstFound_22 rfl (fun hc => ?_) (fun hc => ?_)
      · have hf := itn0 hc hf
        obtain ⟨rfl, rfl⟩ := so2 hf
        exact aw_pick [2] rfl kk
      · have hf := itp0 hc hf
        refine aw_aload_n 1 dX0_firstFound_25 rfl ?_
        refine aw_aload_n 0 dX0_firstFound_26 rfl ?_
        refine aw_gR fl_RX0_12 dX0_firstFound_27 hf (fun x1 hf => ?_)
        refine aw_aload_n 1 dX0_firstFound_30 rfl ?_
        refine aw_gI fl_RX0_31 dX0_firstFound_31 hf (fun x2 hf => ?_)
        refine aw_cV_wi (st := []) [.ref x1, .int x2] wV_RX0_35 (ci := 1) rfl (fun xr hr er => c_X1_runNight g h y1 x1 x2 xr hr er) dX0_firstFound_34 rfl rfl (Nat.le_of_ble_eq_true rfl) (Nat.le_of_ble_eq_true rfl) (Nat.le_of_ble_eq_true rfl) (Nat.le_of_ble_eq_true rfl) hf (fun x3 h4 hf => ?_)
        refine aw_istore_n [(2, .int x3), (0, .ref y0), (1, .ref y1), (3, .int y3)] dX0_firstFound_37 (Nat.le_of_ble_eq_true rfl) rfl ?_
        refine aw_iinc (y3 + 1) [(3, .int (y3 + 1)), (2, .int x3), (0, .ref y0), (1, .ref y1)] 3 dX0_firstFound_38 rfl rfl (Nat.le_of_ble_eq_true rfl) rfl ?_
        refine aw_goto (tgt := 15) dX0_firstFound_41 rfl ?_
        refine aw_pick [2, 3, 1, 0] rfl ?_
        exact ih h4 y0 y1 x3 (y3 + 1) o2 ho hf kk
set_option maxRecDepth 100000 in
set_option maxHeartbeats 4000000 in
theorem c_X0_firstFound (g : Gx) (h : Hea) (a0 : Nat) (a1 : Nat) (o : Int32) (hz : Hea) (hf : f_X0_firstFound h a0 a1 = some (o, hz)) : MC g yX0_firstFound cX0_firstFound 4 (some .int) 4 0 0 [.ref a0, .ref a1] h (some (.int o), hz) := by
  refine MC_of (own := RX0) (nm := "firstFound") [(0, .ref a0), (1, .ref a1)] rfl rfl pn_RX0 (Nat.le_of_ble_eq_true rfl) rfl ?_
  rw [f_X0_firstFound] at hf
  refine aw_aload_n 0 dX0_firstFound_0 rfl ?_
  refine aw_gR fl_RX0_12 dX0_firstFound_1 hf (fun x1 hf => ?_)
  refine aw_aload_n 1 dX0_firstFound_4 rfl ?_
  refine aw_gR fl_RX0_22 dX0_firstFound_5 hf (fun x2 hf => ?_)
  refine aw_cV_v (st := []) [.ref x2] wV_RX0_27 (ci := 3) rfl (fun hr er => c_X3_take g h x1 x2 hr er) dX0_firstFound_8 rfl rfl (Nat.le_of_ble_eq_true rfl) (Nat.le_of_ble_eq_true rfl) (Nat.le_of_ble_eq_true rfl) (Nat.le_of_ble_eq_true rfl) hf (fun h3 hf => ?_)
  refine aw_iconst (v := 0) dX0_firstFound_11 rfl ?_
  refine aw_istore_n [(2, .int 0), (0, .ref a0), (1, .ref a1)] dX0_firstFound_12 (Nat.le_of_ble_eq_true rfl) rfl ?_
  refine aw_iconst (v := 0) dX0_firstFound_13 rfl ?_
  refine aw_istore_n [(3, .int 0), (2, .int 0), (0, .ref a0), (1, .ref a1)] dX0_firstFound_14 (Nat.le_of_ble_eq_true rfl) rfl ?_
  refine aw_pick [2, 3, 1, 0] rfl ?_
  refine reg2 (fun (v4 : Int32) (h5 : Hea) => AW g RX0 cX0_firstFound (4, some .int, "firstFound", 4, 0, 0) (some (.int o), hz) 44 [(2, .int v4)] [] h5 0 0) hf (fun v4 h5 hf => ?_) (fun v4 h5 hf hJ => l_X0_firstFound_15 g  lots h3 a0 a1 0 0 v4 h5 hf hJ)
  refine aw_iload_n 0 dX0_firstFound_44 rfl ?_
  obtain ⟨rfl, rfl⟩ := so2 hf
  exact aw_iret dX0_firstFound_45 rfl rfl
set_option maxRecDepth 100000 in
set_option maxHeartbeats 4000000 in
theorem c_X7_first (g : Gx) (h : Hea) (a0 : Nat) (a1 : Int32) (o : Int32) (hz : Hea) (hf : f_X7_first h a0 a1 = some (o, hz)) : MC g yX7_first cX7_first 3 (some .int) 5 0 0 [.ref a0, .int a1] h (some (.int o), hz) := by
  refine MC_of (own := RX7) (nm := "first") [(0, .ref a0), (1, .int a1)] rfl rfl pn_RX7 (Nat.le_of_ble_eq_true rfl) rfl ?_
  rw [f_X7_first] at hf
  refine aw_iload_n 1 dX7_first_0 rfl ?_
  refine aw_iconst (v := 0) dX7_first_1 rfl ?_
  refine aw_iconst (v := 1) dX7_first_2 rfl ?_
  refine aw_cS_i (st := []) [.int a1, .int 0, .int 1] wS_RX7_90 (fun xr er => c_X7_within g h a1 0 1 xr er) dX7_first_3 rfl rfl (Nat.le_of_ble_eq_true rfl) (Nat.le_of_ble_eq_true rfl) (Nat.le_of_ble_eq_true rfl) (Nat.le_of_ble_eq_true rfl) hf (fun x1 hf => ?_)
  refine aw_if_ne (tgt := 14) dX7_first_6 rfl (fun hc => ?_) (fun hc => ?_)
  · have hf := itn0 hc hf
    refine aw_aload_n 0 dX7_first_14 rfl ?_
    refine aw_gR fl_RX7_41 dX7_first_15 hf (fun x2 hf => ?_)
    refine aw_aload_n 0 dX7_first_18 rfl ?_
    refine aw_gR fl_RX7_10 dX7_first_19 hf (fun x3 hf => ?_)
    refine aw_cV_wi (st := []) [.ref x3] wV_RX7_209 (ci := 0) rfl (fun xr hr er => c_X0_firstFound g h x2 x3 xr hr er) dX7_first_22 rfl rfl (Nat.le_of_ble_eq_true rfl) (Nat.le_of_ble_eq_true rfl) (Nat.le_of_ble_eq_true rfl) (Nat.le_of_ble_eq_true rfl) hf (fun x4 h5 hf => ?_)
    refine aw_istore_n [(2, .int x4), (0, .ref a0), (1, .int a1)] dX7_first_25 (Nat.le_of_ble_eq_true rfl) rfl ?_
    refine aw_iload_n 0 dX7_first_26 rfl ?_
    refine aw_if_ne (tgt := 32) dX7_first_27 rfl (fun hc => ?_) (fun hc => ?_)
    · have hf := itn0 hc hf
      refine aw_iload_n 2 dX7_first_32 rfl ?_
      refine reg1 (fun (v6 : Int32) => AW g RX7 cX7_first (3, some .int, "first", 5, 0, 0) (some (.int o), hz) 52 [] [.int v6] h5 0 0) hf (fun v6 hf => ?_) (fun v6 hf hJ52 => ?_)
      · obtain ⟨rfl, rfl⟩ := so2 hf
        exact aw_iret dX7_first_52 rfl rfl
      · refine aw_if_ne (tgt := 51) dX7_first_33 rfl (fun hc => ?_) (fun hc => ?_)
        · have hf := itn0 hc hf
          refine aw_iload_n 0 dX7_first_51 rfl ?_
          obtain rfl := so1 hf
          exact aw_pick [] rfl hJ52
        · have hf := itp0 hc hf
          refine aw_aload_n 1 dX7_first_36 rfl ?_
          refine aw_gR fl_RX7_41 dX7_first_37 hf (fun x7 hf => ?_)
          refine aw_gR fl_RX7_213 dX7_first_40 hf (fun x8 hf => ?_)
          refine aw_gI fl_RX7_183 dX7_first_43 hf (fun x9 hf => ?_)
          refine aw_iconst (v := 1) dX7_first_46 rfl ?_
          refine aw_isub dX7_first_47 ?_
          refine aw_goto (tgt := 52) dX7_first_48 rfl ?_
          obtain rfl := so1 hf
          exact aw_pick [] rfl hJ52
    · have hf := itp0 hc hf
      refine aw_iconst (v := (-1)) dX7_first_30 rfl ?_
      obtain ⟨rfl, rfl⟩ := so2 hf
      exact aw_iret dX7_first_31 rfl rfl
  · have hf := itp0 hc hf
    refine aw_aload_n 0 dX7_first_9 rfl ?_
    refine aw_cV_wi (st := []) [] wV_RX7_94 (ci := 7) rfl (fun xr hr er => c_X7_refuseBad g h a0 xr hr er) dX7_first_10 rfl rfl (Nat.le_of_ble_eq_true rfl) (Nat.le_of_ble_eq_true rfl) (Nat.le_of_ble_eq_true rfl) (Nat.le_of_ble_eq_true rfl) hf (fun x10 h11 hf => ?_)
    obtain ⟨rfl, rfl⟩ := so2 hf
    exact aw_iret dX7_first_13 rfl rfl
set_option maxRecDepth 100000 in
set_option maxHeartbeats 4000000 in
theorem c_X7_passed (g : Gx) (h : Hea) (a0 : Nat) (o : Int32) (hf : f_X7_passed h a0 = some o) : MC g yX7_passed cX7_passed 3 (some .int) 3 0 0 [.ref a0] h (some (.int o), h) := by
  refine MC_of (own := RX7) (nm := "passed") [(0, .ref a0)] rfl rfl pn_RX7 (Nat.le_of_ble_eq_true rfl) rfl ?_
  rw [f_X7_passed] at hf
  refine aw_aload_n 0 dX7_passed_0 rfl ?_
  refine aw_gR fl_RX7_10 dX7_passed_1 hf (fun x1 hf => ?_)
  refine aw_gR fl_RX7_151 dX7_passed_4 hf (fun x2 hf => ?_)
  refine aw_astore_n [(1, .ref x2), (0, .ref a0)] dX7_passed_7 (Nat.le_of_ble_eq_true rfl) rfl ?_
  refine aw_aload_n 1 dX7_passed_8 rfl ?_
  refine aw_gR fl_RX7_10 dX7_passed_9 hf (fun x3 hf => ?_)
  refine aw_aload_n 0 dX7_passed_12 rfl ?_
  refine aw_cV_i (st := []) [.ref x2] wV_RX7_216 (ci := 1) rfl (fun xr er => c_X1_goingOut g h x3 x2 xr er) dX7_passed_13 rfl rfl (Nat.le_of_ble_eq_true rfl) (Nat.le_of_ble_eq_true rfl) (Nat.le_of_ble_eq_true rfl) (Nat.le_of_ble_eq_true rfl) hf (fun x4 hf => ?_)
  refine aw_istore_n [(2, .int x4), (1, .ref x2), (0, .ref a0)] dX7_passed_16 (Nat.le_of_ble_eq_true rfl) rfl ?_
  refine aw_aload_n 2 dX7_passed_17 rfl ?_
  refine aw_gR fl_RX7_10 dX7_passed_18 hf (fun x5 hf => ?_)
  refine aw_aload_n 1 dX7_passed_21 rfl ?_
  refine aw_iload_n 0 dX7_passed_22 rfl ?_
  refine aw_cV_i (st := []) [.ref x2, .int x4] wV_RX7_220 (ci := 1) rfl (fun xr er => c_X1_inSight g h x5 x2 x4 xr er) dX7_passed_23 rfl rfl (Nat.le_of_ble_eq_true rfl) (Nat.le_of_ble_eq_true rfl) (Nat.le_of_ble_eq_true rfl) (Nat.le_of_ble_eq_true rfl) hf (fun x6 hf => ?_)
  refine aw_aload_n 2 dX7_passed_26 rfl ?_
  refine aw_gR fl_RX7_10 dX7_passed_27 hf (fun x7 hf => ?_)
  refine aw_aload_n 1 dX7_passed_30 rfl ?_
  refine aw_iload_n 0 dX7_passed_31 rfl ?_
  refine aw_aload_n 2 dX7_passed_32 rfl ?_
  refine aw_gR fl_RX7_10 dX7_passed_33 hf (fun x8 hf => ?_)
  refine aw_gI fl_RX7_133 dX7_passed_36 hf (fun x9 hf => ?_)
  refine aw_cV_i (st := [.int x6]) [.ref x2, .int x4, .int x9] wV_RX7_223 (ci := 1) rfl (fun xr er => c_X1_beingFound g h x7 x2 x4 x9 xr er) dX7_passed_39 rfl rfl (Nat.le_of_ble_eq_true rfl) (Nat.le_of_ble_eq_true rfl) (Nat.le_of_ble_eq_true rfl) (Nat.le_of_ble_eq_true rfl) hf (fun x10 hf => ?_)
  refine aw_iconst (v := (-1)) dX7_passed_42 rfl ?_
  refine aw_ixor dX7_passed_43 ?_
  refine aw_iand dX7_passed_44 ?_
  obtain rfl := so1 hf
  exact aw_iret dX7_passed_45 rfl rfl
set_option maxRecDepth 100000 in
set_option maxHeartbeats 4000000 in
theorem c_X7_isIn (g : Gx) (h : Hea) (a0 : Nat) (a1 : Int32) (o : Int32) (hf : f_X7_isIn h a0 a1 = some o) : MC g yX7_isIn cX7_isIn 2 (some .boolean) 0 0 0 [.ref a0, .int a1] h (some (.int o), h) := by
  refine MC_of (own := RX7) (nm := "isIn") [(0, .ref a0), (1, .int a1)] rfl rfl pn_RX7 (Nat.le_of_ble_eq_true rfl) rfl ?_
  rw [f_X7_isIn] at hf
  refine aw_aload_n 0 dX7_isIn_0 rfl ?_
  refine aw_gR fl_RX7_10 dX7_isIn_1 hf (fun x1 hf => ?_)
  refine aw_gR fl_RX7_151 dX7_isIn_4 hf (fun x2 hf => ?_)
  refine aw_gR fl_RX7_160 dX7_isIn_7 hf (fun x3 hf => ?_)
  refine aw_iload_n 1 dX7_isIn_10 rfl ?_
  refine aw_ldI dX7_isIn_11 hf (fun x4 hf => ?_)
  refine reg1 (fun (v5 : Int32) => AW g RX7 cX7_isIn (2, some .boolean, "isIn", 0, 0, 0) (some (.int o), h) 20 [] [.int v5] h 0 0) hf (fun v5 hf => ?_) (fun v5 hf hJ20 => ?_)
  · exact aw_zretb dX7_isIn_20 rfl hf rfl
  · refine aw_if_ne (tgt := 19) dX7_isIn_12 rfl (fun hc => ?_) (fun hc => ?_)
    · have hf := itn0 hc hf
      refine aw_iconst (v := 0) dX7_isIn_19 rfl ?_
      obtain rfl := so1 hf
      exact aw_pick [] rfl hJ20
    · have hf := itp0 hc hf
      refine aw_iconst (v := 1) dX7_isIn_15 rfl ?_
      refine aw_goto (tgt := 20) dX7_isIn_16 rfl ?_
      obtain rfl := so1 hf
      exact aw_pick [] rfl hJ20
set_option maxRecDepth 100000 in
set_option maxHeartbeats 4000000 in
theorem l_X0_runUntilNoMoreIn_3 (g : Gx) {res : Option Value × Hea} : ∀ (n : Nat) (h : Hea) (y0 : Nat) (y1 : Nat) (y2 : Int32) (y3 : Int32) (y4 : Int32) (ho : Hea) (hf : f_X0_runUntilNoMoreIn_3 n h y0 y1 y2 y3 y4 = some ho) (kk : AW g RX0 cX0_runUntilNoMoreIn (5, none, "runUntilNoMoreIn", 4, 0, 0) res 53 [] [] ho 0 0), AW g RX0 cX0_runUntilNoMoreIn (5, none, "runUntilNoMoreIn", 4, 0, 0) res 3 [(0, .ref y0), (1, .ref y1), (2, .int y2), (3, .int y3), (4, .int y4)] [] h 0 0 := by
  intro n
  induction n with
  | zero =>
    intro h y0 y1 y2 y3 y4 ho hf kk
    rw [f_X0_runUntilNoMoreIn_3] at hf
    cases hf
  | succ n ih =>
    intro h y0 y1 y2 y3 y4 ho hf kk
    rw [f_X0_runUntilNoMoreIn_3] at hf
    refine aw_iload 4 dX0_runUntilNoMoreIn_3 rfl ?_
    refine aw_bipush (v := 60) dX0_runUntilNoMoreIn_5 rfl ?_
    refine aw_icmp_ge (tgt := 53) dX0_runUntilNoMoreIn_7 rfl (fun hc => ?_) (fun hc => ?_)
    · have hf := itp0 hc hf
      obtain rfl := so1 hf
      exact aw_pick [] rfl kk
    · have hf := itn0 hc hf
      refine aw_aload_n 0 dX0_runUntilNoMoreIn_10 rfl ?_
      refine aw_gR fl_RX0_12 dX0_runUntilNoMoreIn_11 hf (fun x1 hf => ?_)
      refine aw_gR fl_RX0_51 dX0_runUntilNoMoreIn_14 hf (fun x2 hf => ?_)
      refine aw_iload_n 2 dX0_runUntilNoMoreIn_17 rfl ?_
      refine aw_ldI dX0_runUntilNoMoreIn_18 hf (fun x3 hf => ?_)
      refine aw_if_eq (tgt := 34) dX0_runUntilNoMoreIn_19 rfl (fun hc => ?_) (fun hc => ?_)
      · have hf := itp0 hc hf
        refine aw_aload_n 1 dX0_runUntilNoMoreIn_34 rfl ?_
        refine aw_aload_n 0 dX0_runUntilNoMoreIn_35 rfl ?_
        refine aw_gR fl_RX0_12 dX0_runUntilNoMoreIn_36 hf (fun x4 hf => ?_)
        refine aw_aload_n 1 dX0_runUntilNoMoreIn_39 rfl ?_
        refine aw_gI fl_RX0_31 dX0_runUntilNoMoreIn_40 hf (fun x5 hf => ?_)
        refine aw_cV_wi (st := []) [.ref x4, .int x5] wV_RX0_35 (ci := 1) rfl (fun xr hr er => c_X1_runNight g h y1 x4 x5 xr hr er) dX0_runUntilNoMoreIn_43 rfl rfl (Nat.le_of_ble_eq_true rfl) (Nat.le_of_ble_eq_true rfl) (Nat.le_of_ble_eq_true rfl) (Nat.le_of_ble_eq_true rfl) hf (fun x6 h7 hf => ?_)
        refine aw_pop dX0_runUntilNoMoreIn_46 rfl ?_
        refine aw_iinc (y4 + 1) [(4, .int (y4 + 1)), (0, .ref y0), (1, .ref y1), (2, .int y2), (3, .int y3)] 4 dX0_runUntilNoMoreIn_47 rfl rfl (Nat.le_of_ble_eq_true rfl) rfl ?_
        refine aw_goto (tgt := 3) dX0_runUntilNoMoreIn_50 rfl ?_
        refine aw_pick [1, 2, 3, 4, 0] rfl ?_
        exact ih h7 y0 y1 y2 y3 (y4 + 1) ho hf kk
      · have hf := itn0 hc hf
        refine aw_aload_n 0 dX0_runUntilNoMoreIn_22 rfl ?_
        refine aw_gR fl_RX0_12 dX0_runUntilNoMoreIn_23 hf (fun x8 hf => ?_)
        refine aw_gR fl_RX0_51 dX0_runUntilNoMoreIn_26 hf (fun x9 hf => ?_)
        refine aw_iload_n 3 dX0_runUntilNoMoreIn_29 rfl ?_
        refine aw_ldI dX0_runUntilNoMoreIn_30 hf (fun x10 hf => ?_)
        refine aw_if_ne (tgt := 53) dX0_runUntilNoMoreIn_31 rfl (fun hc => ?_) (fun hc => ?_)
        · have hf := itn0 hc hf
          obtain rfl := so1 hf
          exact aw_pick [] rfl kk
        · have hf := itp0 hc hf
          refine aw_aload_n 1 dX0_runUntilNoMoreIn_34 rfl ?_
          refine aw_aload_n 0 dX0_runUntilNoMoreIn_35 rfl ?_
          refine aw_gR fl_RX0_12 dX0_runUntilNoMoreIn_36 hf (fun x11 hf => ?_)
          refine aw_aload_n 1 dX0_runUntilNoMoreIn_39 rfl ?_
          refine aw_gI fl_RX0_31 dX0_runUntilNoMoreIn_40 hf (fun x12 hf => ?_)
          refine aw_cV_wi (st := []) [.ref x11, .int x12] wV_RX0_35 (ci := 1) rfl (fun xr hr er => c_X1_runNight g h y1 x11 x12 xr hr er) dX0_runUntilNoMoreIn_43 rfl rfl (Nat.le_of_ble_eq_true rfl) (Nat.le_of_ble_eq_true rfl) (Nat.le_of_ble_eq_true rfl) (Nat.le_of_ble_eq_true rfl) hf (fun x13 h14 hf => ?_)
          refine aw_pop dX0_runUntilNoMoreIn_46 rfl ?_
          refine aw_iinc (y4 + 1) [(4, .int (y4 + 1)), (0, .ref y0), (1, .ref y1), (2, .int y2), (3, .int y3)] 4 dX0_runUntilNoMoreIn_47 rfl rfl (Nat.le_of_ble_eq_true rfl) rfl ?_
          refine aw_goto (tgt := 3) dX0_runUntilNoMoreIn_50 rfl ?_
          refine aw_pick [1, 2, 3, 4, 0] rfl ?_
          exact ih h14 y0 y1 y2 y3 (y4 + 1) ho hf kk
set_option maxRecDepth 100000 in
set_option maxHeartbeats 4000000 in
theorem c_X0_runUntilNoMoreIn (g : Gx) (h : Hea) (a0 : Nat) (a1 : Nat) (a2 : Int32) (a3 : Int32) (o : Hea) (hf : f_X0_runUntilNoMoreIn h a0 a1 a2 a3 = some o) : MC g yX0_runUntilNoMoreIn cX0_runUntilNoMoreIn 5 none 4 0 0 [.ref a0, .ref a1, .int a2, .int a3] h (none, o) := by
  refine MC_of (own := RX0) (nm := "runUntilNoMoreIn") [(0, .ref a0), (1, .ref a1), (2, .int a2), (3, .int a3)] rfl rfl pn_RX0 (Nat.le_of_ble_eq_true rfl) rfl ?_
  rw [f_X0_runUntilNoMoreIn] at hf
  refine aw_iconst (v := 0) dX0_runUntilNoMoreIn_0 rfl ?_
  refine aw_istore [(4, .int 0), (0, .ref a0), (1, .ref a1), (2, .int a2), (3, .int a3)] dX0_runUntilNoMoreIn_1 (Nat.le_of_ble_eq_true rfl) rfl ?_
  refine aw_pick [1, 2, 3, 4, 0] rfl ?_
  refine reg1 (fun (h1 : Hea) => AW g RX0 cX0_runUntilNoMoreIn (5, none, "runUntilNoMoreIn", 4, 0, 0) (none, o) 53 [] [] h1 0 0) hf (fun h1 hf => ?_) (fun h1 hf hJ => l_X0_runUntilNoMoreIn_3 g  lots h a0 a1 a2 a3 0 h1 hf hJ)
  obtain rfl := so1 hf
  exact aw_vret dX0_runUntilNoMoreIn_53 rfl rfl
set_option maxRecDepth 100000 in
set_option maxHeartbeats 4000000 in
theorem c_X0_foundNight (g : Gx) (h : Hea) (a0 : Nat) (a1 : Int32) (o : Int32) (hf : f_X0_foundNight h a0 a1 = some o) : MC g yX0_foundNight cX0_foundNight 2 (some .int) 0 0 0 [.ref a0, .int a1] h (some (.int o), h) := by
  refine MC_of (own := RX0) (nm := "foundNight") [(0, .ref a0), (1, .int a1)] rfl rfl pn_RX0 (Nat.le_of_ble_eq_true rfl) rfl ?_
  rw [f_X0_foundNight] at hf
  refine aw_aload_n 0 dX0_foundNight_0 rfl ?_
  refine aw_gR fl_RX0_12 dX0_foundNight_1 hf (fun x1 hf => ?_)
  refine aw_gR fl_RX0_51 dX0_foundNight_4 hf (fun x2 hf => ?_)
  refine aw_iload_n 1 dX0_foundNight_7 rfl ?_
  refine aw_ldI dX0_foundNight_8 hf (fun x3 hf => ?_)
  refine aw_iconst (v := 2) dX0_foundNight_9 rfl ?_
  refine reg1 (fun (v4 : Int32) => AW g RX0 cX0_foundNight (2, some .int, "foundNight", 0, 0, 0) (some (.int o), h) 27 [] [.int v4] h 0 0) hf (fun v4 hf => ?_) (fun v4 hf hJ27 => ?_)
  · obtain rfl := so1 hf
    exact aw_iret dX0_foundNight_27 rfl rfl
  · refine aw_icmp_ne (tgt := 25) dX0_foundNight_10 rfl (fun hc => ?_) (fun hc => ?_)
    · have hf := itn0 hc hf
      refine aw_ldc (v := 2147483647) kc_RX0_39 dX0_foundNight_25 ?_
      obtain rfl := so1 hf
      exact aw_pick [] rfl hJ27
    · have hf := itp0 hc hf
      refine aw_aload_n 0 dX0_foundNight_13 rfl ?_
      refine aw_gR fl_RX0_12 dX0_foundNight_14 hf (fun x5 hf => ?_)
      refine aw_gR fl_RX0_54 dX0_foundNight_17 hf (fun x6 hf => ?_)
      refine aw_iload_n 1 dX0_foundNight_20 rfl ?_
      refine aw_ldI dX0_foundNight_21 hf (fun x7 hf => ?_)
      refine aw_goto (tgt := 27) dX0_foundNight_22 rfl ?_
      obtain rfl := so1 hf
      exact aw_pick [] rfl hJ27
set_option maxRecDepth 100000 in
set_option maxHeartbeats 4000000 in
theorem l_X0_bestRoom_9 (g : Gx) {res : Option Value × Hea} : ∀ (n : Nat) (h : Hea) (y0 : Nat) (y1 : Nat) (y2 : Int32) (y3 : Int32) (y4 : Int32) (y5 : Int32) (o3 : Int32) (ho : Hea) (hf : f_X0_bestRoom_9 n h y0 y1 y2 y3 y4 y5 = some (o3, ho)) (kk : AW g RX0 cX0_bestRoom (7, some .int, "bestRoom", 5, 0, 0) res 72 [(3, .int o3)] [] ho 0 0), AW g RX0 cX0_bestRoom (7, some .int, "bestRoom", 5, 0, 0) res 9 [(0, .ref y0), (1, .ref y1), (2, .int y2), (3, .int y3), (4, .int y4), (5, .int y5)] [] h 0 0 := by
  intro n
  induction n with
  | zero =>
    intro h y0 y1 y2 y3 y4 y5 o3 ho hf kk
    rw [f_X0_bestRoom_9] at hf
    cases hf
  | succ n ih =>
    intro h y0 y1 y2 y3 y4 y5 o3 ho hf kk
    rw [f_X0_bestRoom_9] at hf
    refine aw_iload 5 dX0_bestRoom_9 rfl ?_
    refine aw_bipush (v := 8) dX0_bestRoom_11 rfl ?_
    refine aw_icmp_ge (tgt := 72) dX0_bestRoom_13 rfl (fun hc => ?_) (fun hc => ?_)
    · have hf := itp0 hc hf
      obtain ⟨rfl, rfl⟩ := so2 hf
      exact aw_pick [3] rfl kk
    · have hf := itn0 hc hf
      refine aw_aload_n 0 dX0_bestRoom_16 rfl ?_
      refine aw_gR fl_RX0_12 dX0_bestRoom_17 hf (fun x1 hf => ?_)
      refine aw_aload_n 1 dX0_bestRoom_20 rfl ?_
      refine aw_gR fl_RX0_22 dX0_bestRoom_21 hf (fun x2 hf => ?_)
      refine aw_cV_v (st := []) [.ref x2] wV_RX0_27 (ci := 3) rfl (fun hr er => c_X3_take g h x1 x2 hr er) dX0_bestRoom_24 rfl rfl (Nat.le_of_ble_eq_true rfl) (Nat.le_of_ble_eq_true rfl) (Nat.le_of_ble_eq_true rfl) (Nat.le_of_ble_eq_true rfl) hf (fun h3 hf => ?_)
      refine aw_aload_n 0 dX0_bestRoom_27 rfl ?_
      refine aw_gR fl_RX0_12 dX0_bestRoom_28 hf (fun x4 hf => ?_)
      refine aw_gR fl_RX0_40 dX0_bestRoom_31 hf (fun x5 hf => ?_)
      refine aw_iload_n 2 dX0_bestRoom_34 rfl ?_
      refine aw_iload 5 dX0_bestRoom_35 rfl ?_
      refine aw_stI dX0_bestRoom_37 hf (fun h6 hf => ?_)
      refine aw_aload_n 0 dX0_bestRoom_38 rfl ?_
      refine aw_aload_n 1 dX0_bestRoom_39 rfl ?_
      refine aw_iload_n 2 dX0_bestRoom_40 rfl ?_
      refine aw_iload_n 2 dX0_bestRoom_41 rfl ?_
      refine aw_cV_v (st := []) [.ref y1, .int y2, .int y2] wV_RX0_43 (ci := 0) rfl (fun hr er => c_X0_runUntilNoMoreIn g h6 y0 y1 y2 y2 hr er) dX0_bestRoom_42 rfl rfl (Nat.le_of_ble_eq_true rfl) (Nat.le_of_ble_eq_true rfl) (Nat.le_of_ble_eq_true rfl) (Nat.le_of_ble_eq_true rfl) hf (fun h7 hf => ?_)
      refine aw_aload_n 0 dX0_bestRoom_45 rfl ?_
      refine aw_iload_n 2 dX0_bestRoom_46 rfl ?_
      refine aw_cV_i (st := []) [.int y2] wV_RX0_47 (ci := 0) rfl (fun xr er => c_X0_foundNight g h7 y0 y2 xr er) dX0_bestRoom_47 rfl rfl (Nat.le_of_ble_eq_true rfl) (Nat.le_of_ble_eq_true rfl) (Nat.le_of_ble_eq_true rfl) (Nat.le_of_ble_eq_true rfl) hf (fun x8 hf => ?_)
      refine aw_istore [(6, .int x8), (0, .ref y0), (1, .ref y1), (2, .int y2), (3, .int y3), (4, .int y4), (5, .int y5)] dX0_bestRoom_50 (Nat.le_of_ble_eq_true rfl) rfl ?_
      refine aw_iload 0 dX0_bestRoom_52 rfl ?_
      refine aw_iload 5 dX0_bestRoom_54 rfl ?_
      refine reg2 (fun (v9 : Int32) (v10 : Int32) => AW g RX0 cX0_bestRoom (7, some .int, "bestRoom", 5, 0, 0) res 66 [(0, .ref y0), (1, .ref y1), (2, .int y2), (3, .int v9), (4, .int v10), (5, .int y5)] [] h7 0 0) hf (fun v9 v10 hf => ?_) (fun v9 v10 hf hJ66 => ?_)
      · refine aw_iinc (y5 + 1) [(5, .int (y5 + 1)), (0, .ref y0), (1, .ref y1), (2, .int y2), (3, .int v9), (4, .int v10)] 5 dX0_bestRoom_66 rfl rfl (Nat.le_of_ble_eq_true rfl) rfl ?_
        refine aw_goto (tgt := 9) dX0_bestRoom_69 rfl ?_
        refine aw_pick [1, 2, 3, 4, 5, 0] rfl ?_
        exact ih h7 y0 y1 y2 v9 v10 (y5 + 1) o3 ho hf kk
      · refine aw_icmp_ge (tgt := 66) dX0_bestRoom_56 rfl (fun hc => ?_) (fun hc => ?_)
        · have hf := itp0 hc hf
          obtain ⟨rfl, rfl⟩ := so2 hf
          exact aw_pick [1, 2, 3, 4, 5, 6] rfl hJ66
        · have hf := itn0 hc hf
          refine aw_iload 0 dX0_bestRoom_59 rfl ?_
          refine aw_istore [(4, .int x8), (6, .int x8), (0, .ref y0), (1, .ref y1), (2, .int y2), (3, .int y3), (5, .int y5)] dX0_bestRoom_61 (Nat.le_of_ble_eq_true rfl) rfl ?_
          refine aw_iload 6 dX0_bestRoom_63 rfl ?_
          refine aw_istore_n [(3, .int y5), (4, .int x8), (6, .int x8), (0, .ref y0), (1, .ref y1), (2, .int y2), (5, .int y5)] dX0_bestRoom_65 (Nat.le_of_ble_eq_true rfl) rfl ?_
          obtain ⟨rfl, rfl⟩ := so2 hf
          exact aw_pick [3, 4, 5, 0, 1, 6] rfl hJ66
set_option maxRecDepth 100000 in
set_option maxHeartbeats 4000000 in
theorem c_X0_bestRoom (g : Gx) (h : Hea) (a0 : Nat) (a1 : Nat) (a2 : Int32) (o : Int32) (hz : Hea) (hf : f_X0_bestRoom h a0 a1 a2 = some (o, hz)) : MC g yX0_bestRoom cX0_bestRoom 7 (some .int) 5 0 0 [.ref a0, .ref a1, .int a2] h (some (.int o), hz) := by
  refine MC_of (own := RX0) (nm := "bestRoom") [(0, .ref a0), (1, .ref a1), (2, .int a2)] rfl rfl pn_RX0 (Nat.le_of_ble_eq_true rfl) rfl ?_
  rw [f_X0_bestRoom] at hf
  refine aw_iconst (v := (-1)) dX0_bestRoom_0 rfl ?_
  refine aw_istore_n [(3, .int (-1)), (0, .ref a0), (1, .ref a1), (2, .int a2)] dX0_bestRoom_1 (Nat.le_of_ble_eq_true rfl) rfl ?_
  refine aw_ldc (v := 2147483647) kc_RX0_39 dX0_bestRoom_2 ?_
  refine aw_istore [(4, .int 2147483647), (3, .int (-1)), (0, .ref a0), (1, .ref a1), (2, .int a2)] dX0_bestRoom_4 (Nat.le_of_ble_eq_true rfl) rfl ?_
  refine aw_iconst (v := 0) dX0_bestRoom_6 rfl ?_
  refine aw_istore [(5, .int 0), (4, .int 2147483647), (3, .int (-1)), (0, .ref a0), (1, .ref a1), (2, .int a2)] dX0_bestRoom_7 (Nat.le_of_ble_eq_true rfl) rfl ?_
  refine aw_pick [3, 4, 5, 2, 1, 0] rfl ?_
  refine reg2 (fun (v1 : Int32) (h2 : Hea) => AW g RX0 cX0_bestRoom (7, some .int, "bestRoom", 5, 0, 0) (some (.int o), hz) 72 [(3, .int v1)] [] h2 0 0) hf (fun v1 h2 hf => ?_) (fun v1 h2 hf hJ => l_X0_bestRoom_9 g  lots h a0 a1 a2 (-1) 2147483647 0 v1 h2 hf hJ)
  refine aw_iload_n 0 dX0_bestRoom_72 rfl ?_
  obtain ⟨rfl, rfl⟩ := so2 hf
  exact aw_iret dX0_bestRoom_73 rfl rfl
set_option maxRecDepth 100000 in
set_option maxHeartbeats 4000000 in
theorem c_X7_hide (g : Gx) (h : Hea) (a0 : Nat) (a1 : Int32) (o : Int32) (hz : Hea) (hf : f_X7_hide h a0 a1 = some (o, hz)) : MC g yX7_hide cX7_hide 2 (some .int) 6 0 0 [.ref a0, .int a1] h (some (.int o), hz) := by
  refine MC_of (own := RX7) (nm := "hide") [(0, .ref a0), (1, .int a1)] rfl rfl pn_RX7 (Nat.le_of_ble_eq_true rfl) rfl ?_
  rw [f_X7_hide] at hf
  refine aw_aload_n 0 dX7_hide_0 rfl ?_
  refine aw_iload_n 1 dX7_hide_1 rfl ?_
  refine aw_cV_i (st := []) [.int a1] wV_RX7_148 (ci := 7) rfl (fun xr er => c_X7_isHeir g h a0 a1 xr er) dX7_hide_2 rfl rfl (Nat.le_of_ble_eq_true rfl) (Nat.le_of_ble_eq_true rfl) (Nat.le_of_ble_eq_true rfl) (Nat.le_of_ble_eq_true rfl) hf (fun x1 hf => ?_)
  refine aw_if_ne (tgt := 13) dX7_hide_5 rfl (fun hc => ?_) (fun hc => ?_)
  · have hf := itn0 hc hf
    refine aw_aload_n 0 dX7_hide_13 rfl ?_
    refine aw_iload_n 1 dX7_hide_14 rfl ?_
    refine aw_cV_i (st := []) [.int a1] wV_RX7_227 (ci := 7) rfl (fun xr er => c_X7_isIn g h a0 a1 xr er) dX7_hide_15 rfl rfl (Nat.le_of_ble_eq_true rfl) (Nat.le_of_ble_eq_true rfl) (Nat.le_of_ble_eq_true rfl) (Nat.le_of_ble_eq_true rfl) hf (fun x2 hf => ?_)
    refine aw_if_ne (tgt := 26) dX7_hide_18 rfl (fun hc => ?_) (fun hc => ?_)
    · have hf := itn0 hc hf
      refine aw_aload_n 0 dX7_hide_26 rfl ?_
      refine aw_gR fl_RX7_41 dX7_hide_27 hf (fun x3 hf => ?_)
      refine aw_aload_n 0 dX7_hide_30 rfl ?_
      refine aw_gR fl_RX7_10 dX7_hide_31 hf (fun x4 hf => ?_)
      refine aw_iload_n 1 dX7_hide_34 rfl ?_
      refine aw_cV_wi (st := []) [.ref x4, .int a1] wV_RX7_230 (ci := 0) rfl (fun xr hr er => c_X0_bestRoom g h x3 x4 a1 xr hr er) dX7_hide_35 rfl rfl (Nat.le_of_ble_eq_true rfl) (Nat.le_of_ble_eq_true rfl) (Nat.le_of_ble_eq_true rfl) (Nat.le_of_ble_eq_true rfl) hf (fun x5 h6 hf => ?_)
      obtain ⟨rfl, rfl⟩ := so2 hf
      exact aw_iret dX7_hide_38 rfl rfl
    · have hf := itp0 hc hf
      refine aw_aload_n 0 dX7_hide_21 rfl ?_
      refine aw_cV_wi (st := []) [] wV_RX7_166 (ci := 7) rfl (fun xr hr er => c_X7_refuseNo g h a0 xr hr er) dX7_hide_22 rfl rfl (Nat.le_of_ble_eq_true rfl) (Nat.le_of_ble_eq_true rfl) (Nat.le_of_ble_eq_true rfl) (Nat.le_of_ble_eq_true rfl) hf (fun x7 h8 hf => ?_)
      obtain ⟨rfl, rfl⟩ := so2 hf
      exact aw_iret dX7_hide_25 rfl rfl
  · have hf := itp0 hc hf
    refine aw_aload_n 0 dX7_hide_8 rfl ?_
    refine aw_cV_wi (st := []) [] wV_RX7_94 (ci := 7) rfl (fun xr hr er => c_X7_refuseBad g h a0 xr hr er) dX7_hide_9 rfl rfl (Nat.le_of_ble_eq_true rfl) (Nat.le_of_ble_eq_true rfl) (Nat.le_of_ble_eq_true rfl) (Nat.le_of_ble_eq_true rfl) hf (fun x9 h10 hf => ?_)
    obtain ⟨rfl, rfl⟩ := so2 hf
    exact aw_iret dX7_hide_12 rfl rfl
set_option maxRecDepth 100000 in
set_option maxHeartbeats 4000000 in
theorem l_X6_empty_2 (g : Gx) {res : Option Value × Hea} : ∀ (n : Nat) (h : Hea) (y0 : Nat) (y1 : Int32) (ho : Hea) (hf : f_X6_empty_2 n h y0 y1 = some ho) (kk : AW g RX6 cX6_empty (2, none, "empty", 0, 0, 0) res 19 [] [] ho 0 0), AW g RX6 cX6_empty (2, none, "empty", 0, 0, 0) res 2 [(0, .ref y0), (1, .int y1)] [] h 0 0 := by
  intro n
  induction n with
  | zero =>
    intro h y0 y1 ho hf kk
    rw [f_X6_empty_2] at hf
    cases hf
  | succ n ih =>
    intro h y0 y1 ho hf kk
    rw [f_X6_empty_2] at hf
    refine aw_iload_n 1 dX6_empty_2 rfl ?_
    refine aw_bipush (v := 48) dX6_empty_3 rfl ?_
    refine aw_icmp_ge (tgt := 19) dX6_empty_5 rfl (fun hc => ?_) (fun hc => ?_)
    · have hf := itp0 hc hf
      obtain rfl := so1 hf
      exact aw_pick [] rfl kk
    · have hf := itn0 hc hf
      refine aw_aload_n 0 dX6_empty_8 rfl ?_
      refine aw_iload_n 1 dX6_empty_9 rfl ?_
      refine aw_ldc (v := 2147483647) kc_RX6_64 dX6_empty_10 ?_
      refine aw_stI dX6_empty_12 hf (fun h1 hf => ?_)
      refine aw_iinc (y1 + 1) [(1, .int (y1 + 1)), (0, .ref y0)] 1 dX6_empty_13 rfl rfl (Nat.le_of_ble_eq_true rfl) rfl ?_
      refine aw_goto (tgt := 2) dX6_empty_16 rfl ?_
      refine aw_pick [1, 0] rfl ?_
      exact ih h1 y0 (y1 + 1) ho hf kk
set_option maxRecDepth 100000 in
set_option maxHeartbeats 4000000 in
theorem c_X6_empty (g : Gx) (h : Hea) (a0 : Nat) (o : Hea) (hf : f_X6_empty h a0 = some o) : MC g yX6_empty cX6_empty 2 none 0 0 0 [.ref a0] h (none, o) := by
  refine MC_of (own := RX6) (nm := "empty") [(0, .ref a0)] rfl rfl pn_RX6 (Nat.le_of_ble_eq_true rfl) rfl ?_
  rw [f_X6_empty] at hf
  refine aw_iconst (v := 0) dX6_empty_0 rfl ?_
  refine aw_istore_n [(1, .int 0), (0, .ref a0)] dX6_empty_1 (Nat.le_of_ble_eq_true rfl) rfl ?_
  refine aw_pick [1, 0] rfl ?_
  refine reg1 (fun (h1 : Hea) => AW g RX6 cX6_empty (2, none, "empty", 0, 0, 0) (none, o) 19 [] [] h1 0 0) hf (fun h1 hf => ?_) (fun h1 hf hJ => l_X6_empty_2 g  lots h a0 0 h1 hf hJ)
  obtain rfl := so1 hf
  exact aw_vret dX6_empty_19 rfl rfl
set_option maxRecDepth 100000 in
set_option maxHeartbeats 4000000 in
theorem c_X6_lower (g : Gx) (h : Hea) (a0 : Nat) (a1 : Int32) (a2 : Int32) (a3 : Int32) (o : Hea) (hf : f_X6_lower h a0 a1 a2 a3 = some o) : MC g yX6_lower cX6_lower 5 none 1 0 0 [.ref a0, .int a1, .int a2, .int a3] h (none, o) := by
  refine MC_of (own := RX6) (nm := "lower") [(0, .ref a0), (1, .int a1), (2, .int a2), (3, .int a3)] rfl rfl pn_RX6 (Nat.le_of_ble_eq_true rfl) rfl ?_
  rw [f_X6_lower] at hf
  refine aw_iload_n 1 dX6_lower_0 rfl ?_
  refine aw_bipush (v := 6) dX6_lower_1 rfl ?_
  refine aw_imul dX6_lower_3 ?_
  refine aw_iload_n 2 dX6_lower_4 rfl ?_
  refine aw_iconst (v := 5) dX6_lower_5 rfl ?_
  refine aw_mmin km_RX6_65 dX6_lower_6 (Nat.le_of_ble_eq_true rfl) (Nat.le_of_ble_eq_true rfl) (Nat.le_of_ble_eq_true rfl) (Nat.le_of_ble_eq_true rfl) ?_
  refine aw_iadd dX6_lower_9 ?_
  refine aw_istore [(4, .int ((a1 * 6) + (if 5 < a2 then 5 else a2))), (0, .ref a0), (1, .int a1), (2, .int a2), (3, .int a3)] dX6_lower_10 (Nat.le_of_ble_eq_true rfl) rfl ?_
  refine aw_aload_n 1 dX6_lower_12 rfl ?_
  refine aw_iload 0 dX6_lower_13 rfl ?_
  refine aw_aload_n 1 dX6_lower_15 rfl ?_
  refine aw_iload 0 dX6_lower_16 rfl ?_
  refine aw_ldI dX6_lower_18 hf (fun x1 hf => ?_)
  refine aw_iload_n 4 dX6_lower_19 rfl ?_
  refine aw_mmin km_RX6_65 dX6_lower_20 (Nat.le_of_ble_eq_true rfl) (Nat.le_of_ble_eq_true rfl) (Nat.le_of_ble_eq_true rfl) (Nat.le_of_ble_eq_true rfl) ?_
  refine aw_stI dX6_lower_23 hf (fun h2 hf => ?_)
  obtain rfl := so1 hf
  exact aw_vret dX6_lower_24 rfl rfl
set_option maxRecDepth 100000 in
set_option maxHeartbeats 4000000 in
theorem l_X6_spreadFrom_3 (g : Gx) {res : Option Value × Hea} : ∀ (n : Nat) (h : Hea) (y0 : Nat) (y1 : Nat) (y2 : Int32) (y3 : Int32) (y4 : Int32) (ho : Hea) (hf : f_X6_spreadFrom_3 n h y0 y1 y2 y3 y4 = some ho) (kk : AW g RX6 cX6_spreadFrom (6, none, "spreadFrom", 2, 0, 0) res 44 [] [] ho 0 0), AW g RX6 cX6_spreadFrom (6, none, "spreadFrom", 2, 0, 0) res 3 [(0, .ref y0), (1, .ref y1), (2, .int y2), (3, .int y3), (4, .int y4)] [] h 0 0 := by
  intro n
  induction n with
  | zero =>
    intro h y0 y1 y2 y3 y4 ho hf kk
    rw [f_X6_spreadFrom_3] at hf
    cases hf
  | succ n ih =>
    intro h y0 y1 y2 y3 y4 ho hf kk
    rw [f_X6_spreadFrom_3] at hf
    refine aw_iload 4 dX6_spreadFrom_3 rfl ?_
    refine aw_bipush (v := 8) dX6_spreadFrom_5 rfl ?_
    refine aw_icmp_ge (tgt := 44) dX6_spreadFrom_7 rfl (fun hc => ?_) (fun hc => ?_)
    · have hf := itp0 hc hf
      obtain rfl := so1 hf
      exact aw_pick [] rfl kk
    · have hf := itn0 hc hf
      refine aw_aload_n 1 dX6_spreadFrom_10 rfl ?_
      refine aw_iload_n 2 dX6_spreadFrom_11 rfl ?_
      refine aw_iload 4 dX6_spreadFrom_12 rfl ?_
      refine aw_cV_i (st := []) [.int y2, .int y4] wV_RX6_81 (ci := 1) rfl (fun xr er => c_X1_creaksBetween g h y1 y2 y4 xr er) dX6_spreadFrom_14 rfl rfl (Nat.le_of_ble_eq_true rfl) (Nat.le_of_ble_eq_true rfl) (Nat.le_of_ble_eq_true rfl) (Nat.le_of_ble_eq_true rfl) hf (fun x1 hf => ?_)
      refine aw_istore [(5, .int x1), (0, .ref y0), (1, .ref y1), (2, .int y2), (3, .int y3), (4, .int y4)] dX6_spreadFrom_17 (Nat.le_of_ble_eq_true rfl) rfl ?_
      refine aw_iload 0 dX6_spreadFrom_19 rfl ?_
      refine reg1 (fun (h2 : Hea) => AW g RX6 cX6_spreadFrom (6, none, "spreadFrom", 2, 0, 0) res 38 [(0, .ref y0), (1, .ref y1), (2, .int y2), (3, .int y3), (4, .int y4)] [] h2 0 0) hf (fun h2 hf => ?_) (fun h2 hf hJ38 => ?_)
      · refine aw_iinc (y4 + 1) [(4, .int (y4 + 1)), (0, .ref y0), (1, .ref y1), (2, .int y2), (3, .int y3)] 4 dX6_spreadFrom_38 rfl rfl (Nat.le_of_ble_eq_true rfl) rfl ?_
        refine aw_goto (tgt := 3) dX6_spreadFrom_41 rfl ?_
        refine aw_pick [1, 2, 3, 4, 0] rfl ?_
        exact ih h2 y0 y1 y2 y3 (y4 + 1) ho hf kk
      · refine aw_if_le (tgt := 38) dX6_spreadFrom_21 rfl (fun hc => ?_) (fun hc => ?_)
        · have hf := itp0 hc hf
          obtain rfl := so1 hf
          exact aw_pick [1, 2, 3, 4, 5] rfl hJ38
        · have hf := itn0 hc hf
          refine aw_aload_n 1 dX6_spreadFrom_24 rfl ?_
          refine aw_gR fl_RX6_22 dX6_spreadFrom_25 hf (fun x3 hf => ?_)
          refine aw_iload 5 dX6_spreadFrom_28 rfl ?_
          refine aw_iconst (v := 0) dX6_spreadFrom_30 rfl ?_
          refine aw_iload_n 4 dX6_spreadFrom_31 rfl ?_
          refine aw_iload 0 dX6_spreadFrom_32 rfl ?_
          refine aw_iadd dX6_spreadFrom_34 ?_
          refine aw_cS_v (st := []) [.ref x3, .int y4, .int 0, .int (y3 + x1)] wS_RX6_51 (fun hr er => c_X6_lower g h x3 y4 0 (y3 + x1) hr er) dX6_spreadFrom_35 rfl rfl (Nat.le_of_ble_eq_true rfl) (Nat.le_of_ble_eq_true rfl) (Nat.le_of_ble_eq_true rfl) (Nat.le_of_ble_eq_true rfl) hf (fun h4 hf => ?_)
          obtain rfl := so1 hf
          exact aw_pick [1, 2, 3, 4, 5] rfl hJ38
set_option maxRecDepth 100000 in
set_option maxHeartbeats 4000000 in
theorem c_X6_spreadFrom (g : Gx) (h : Hea) (a0 : Nat) (a1 : Nat) (a2 : Int32) (a3 : Int32) (o : Hea) (hf : f_X6_spreadFrom h a0 a1 a2 a3 = some o) : MC g yX6_spreadFrom cX6_spreadFrom 6 none 2 0 0 [.ref a0, .ref a1, .int a2, .int a3] h (none, o) := by
  refine MC_of (own := RX6) (nm := "spreadFrom") [(0, .ref a0), (1, .ref a1), (2, .int a2), (3, .int a3)] rfl rfl pn_RX6 (Nat.le_of_ble_eq_true rfl) rfl ?_
  rw [f_X6_spreadFrom] at hf
  refine aw_iconst (v := 0) dX6_spreadFrom_0 rfl ?_
  refine aw_istore [(4, .int 0), (0, .ref a0), (1, .ref a1), (2, .int a2), (3, .int a3)] dX6_spreadFrom_1 (Nat.le_of_ble_eq_true rfl) rfl ?_
  refine aw_pick [1, 2, 3, 4, 0] rfl ?_
  refine reg1 (fun (h1 : Hea) => AW g RX6 cX6_spreadFrom (6, none, "spreadFrom", 2, 0, 0) (none, o) 44 [] [] h1 0 0) hf (fun h1 hf => ?_) (fun h1 hf hJ => l_X6_spreadFrom_3 g  lots h a0 a1 a2 a3 0 h1 hf hJ)
  obtain rfl := so1 hf
  exact aw_vret dX6_spreadFrom_44 rfl rfl
set_option maxRecDepth 100000 in
set_option maxHeartbeats 4000000 in
theorem l_X6_spread_22 (g : Gx) {res : Option Value × Hea} : ∀ (n : Nat) (h : Hea) (y0 : Nat) (y1 : Nat) (y3 : Int32) (ho : Hea) (hf : f_X6_spread_22 n h y0 y1 y3 = some ho) (kk : AW g RX6 cX6_spread (4, none, "spread", 3, 0, 0) res 60 [] [] ho 0 0), AW g RX6 cX6_spread (4, none, "spread", 3, 0, 0) res 22 [(0, .ref y0), (1, .ref y1), (3, .int y3)] [] h 0 0 := by
  intro n
  induction n with
  | zero =>
    intro h y0 y1 y3 ho hf kk
    rw [f_X6_spread_22] at hf
    cases hf
  | succ n ih =>
    intro h y0 y1 y3 ho hf kk
    rw [f_X6_spread_22] at hf
    refine aw_iload_n 2 dX6_spread_22 rfl ?_
    refine aw_bipush (v := 48) dX6_spread_23 rfl ?_
    refine aw_icmp_ge (tgt := 60) dX6_spread_25 rfl (fun hc => ?_) (fun hc => ?_)
    · have hf := itp0 hc hf
      obtain rfl := so1 hf
      exact aw_pick [] rfl kk
    · have hf := itn0 hc hf
      refine aw_aload_n 0 dX6_spread_28 rfl ?_
      refine aw_gR fl_RX6_18 dX6_spread_29 hf (fun x1 hf => ?_)
      refine aw_iload_n 2 dX6_spread_32 rfl ?_
      refine aw_ldI dX6_spread_33 hf (fun x2 hf => ?_)
      refine aw_ldc (v := 2147483647) kc_RX6_64 dX6_spread_34 ?_
      refine reg1 (fun (h3 : Hea) => AW g RX6 cX6_spread (4, none, "spread", 3, 0, 0) res 54 [(0, .ref y0), (1, .ref y1), (3, .int y3)] [] h3 0 0) hf (fun h3 hf => ?_) (fun h3 hf hJ54 => ?_)
      · refine aw_iinc (y3 + 1) [(3, .int (y3 + 1)), (0, .ref y0), (1, .ref y1)] 2 dX6_spread_54 rfl rfl (Nat.le_of_ble_eq_true rfl) rfl ?_
        refine aw_goto (tgt := 22) dX6_spread_57 rfl ?_
        refine aw_pick [1, 2, 0] rfl ?_
        exact ih h3 y0 y1 (y3 + 1) ho hf kk
      · refine aw_icmp_eq (tgt := 54) dX6_spread_36 rfl (fun hc => ?_) (fun hc => ?_)
        · have hf := itp0 hc hf
          obtain rfl := so1 hf
          exact aw_pick [0, 1, 2] rfl hJ54
        · have hf := itn0 hc hf
          refine aw_aload_n 0 dX6_spread_39 rfl ?_
          refine aw_aload_n 1 dX6_spread_40 rfl ?_
          refine aw_iload_n 2 dX6_spread_41 rfl ?_
          refine aw_bipush (v := 6) dX6_spread_42 rfl ?_
          refine aw_idiv0 dX6_spread_44 (by decide) ?_
          refine aw_aload_n 0 dX6_spread_45 rfl ?_
          refine aw_gR fl_RX6_18 dX6_spread_46 hf (fun x4 hf => ?_)
          refine aw_iload_n 2 dX6_spread_49 rfl ?_
          refine aw_ldI dX6_spread_50 hf (fun x5 hf => ?_)
          refine aw_cV_v (st := []) [.ref y1, .int (y3 / 6), .int x5] wV_RX6_77 (ci := 6) rfl (fun hr er => c_X6_spreadFrom g h y0 y1 (y3 / 6) x5 hr er) dX6_spread_51 rfl rfl (Nat.le_of_ble_eq_true rfl) (Nat.le_of_ble_eq_true rfl) (Nat.le_of_ble_eq_true rfl) (Nat.le_of_ble_eq_true rfl) hf (fun h6 hf => ?_)
          obtain rfl := so1 hf
          exact aw_pick [0, 1, 2] rfl hJ54
set_option maxRecDepth 100000 in
set_option maxHeartbeats 4000000 in
theorem c_X6_spread (g : Gx) (h : Hea) (a0 : Nat) (a1 : Nat) (a2 : Int32) (o : Hea) (hf : f_X6_spread h a0 a1 a2 = some o) : MC g yX6_spread cX6_spread 4 none 3 0 0 [.ref a0, .ref a1, .int a2] h (none, o) := by
  refine MC_of (own := RX6) (nm := "spread") [(0, .ref a0), (1, .ref a1), (2, .int a2)] rfl rfl pn_RX6 (Nat.le_of_ble_eq_true rfl) rfl ?_
  rw [f_X6_spread] at hf
  refine aw_aload_n 0 dX6_spread_0 rfl ?_
  refine aw_gR fl_RX6_18 dX6_spread_1 hf (fun x1 hf => ?_)
  refine aw_iconst (v := 0) dX6_spread_4 rfl ?_
  refine aw_aload_n 0 dX6_spread_5 rfl ?_
  refine aw_gR fl_RX6_22 dX6_spread_6 hf (fun x2 hf => ?_)
  refine aw_iconst (v := 0) dX6_spread_9 rfl ?_
  refine aw_bipush (v := 48) dX6_spread_10 rfl ?_
  refine aw_cpI kw_RX6_71 dX6_spread_12 (Nat.le_of_ble_eq_true rfl) (Nat.le_of_ble_eq_true rfl) hf (fun h3 hf => ?_)
  refine aw_iload_n 2 dX6_spread_15 rfl ?_
  refine aw_if_ne (tgt := 20) dX6_spread_16 rfl (fun hc => ?_) (fun hc => ?_)
  · have hf := itn0 hc hf
    refine aw_iconst (v := 0) dX6_spread_20 rfl ?_
    refine aw_istore_n [(3, .int 0), (0, .ref a0), (1, .ref a1), (2, .int a2)] dX6_spread_21 (Nat.le_of_ble_eq_true rfl) rfl ?_
    refine aw_pick [1, 2, 0] rfl ?_
    refine reg1 (fun (h4 : Hea) => AW g RX6 cX6_spread (4, none, "spread", 3, 0, 0) (none, o) 60 [] [] h4 0 0) hf (fun h4 hf => ?_) (fun h4 hf hJ => l_X6_spread_22 g  lots h3 a0 a1 0 h4 hf hJ)
    obtain rfl := so1 hf
    exact aw_vret dX6_spread_60 rfl rfl
  · have hf := itp0 hc hf
    obtain rfl := so1 hf
    exact aw_vret dX6_spread_19 rfl rfl
set_option maxRecDepth 100000 in
set_option maxHeartbeats 4000000 in
theorem l_X6_passNight_26 (g : Gx) {res : Option Value × Hea} : ∀ (n : Nat) (h : Hea) (y0 : Nat) (y1 : Nat) (y2 : Int32) (y3 : Int32) (y4 : Int32) (y5 : Int32) (o4 : Int32) (ho : Hea) (hf : f_X6_passNight_26 n h y0 y1 y2 y3 y4 y5 = some (o4, ho)) (kk : AW g RX6 cX6_passNight (7, none, "passNight", 2, 0, 0) res 178 [(0, .ref y0), (4, .int o4)] [] ho 0 0), AW g RX6 cX6_passNight (7, none, "passNight", 2, 0, 0) res 26 [(0, .ref y0), (1, .ref y1), (2, .int y2), (3, .int y3), (4, .int y4), (5, .int y5)] [] h 0 0 := by
  intro n
  induction n with
  | zero =>
    intro h y0 y1 y2 y3 y4 y5 o4 ho hf kk
    rw [f_X6_passNight_26] at hf
    cases hf
  | succ n ih =>
    intro h y0 y1 y2 y3 y4 y5 o4 ho hf kk
    rw [f_X6_passNight_26] at hf
    refine aw_iload 5 dX6_passNight_26 rfl ?_
    refine aw_bipush (v := 48) dX6_passNight_28 rfl ?_
    refine aw_icmp_ge (tgt := 178) dX6_passNight_30 rfl (fun hc => ?_) (fun hc => ?_)
    · have hf := itp0 hc hf
      obtain ⟨rfl, rfl⟩ := so2 hf
      exact aw_pick [0, 4] rfl kk
    · have hf := itn0 hc hf
      refine aw_aload_n 0 dX6_passNight_33 rfl ?_
      refine aw_gR fl_RX6_22 dX6_passNight_34 hf (fun x1 hf => ?_)
      refine aw_iload 5 dX6_passNight_37 rfl ?_
      refine aw_ldI dX6_passNight_39 hf (fun x2 hf => ?_)
      refine aw_ldc (v := 2147483647) kc_RX6_64 dX6_passNight_40 ?_
      refine reg2 (fun (v3 : Int32) (h4 : Hea) => AW g RX6 cX6_passNight (7, none, "passNight", 2, 0, 0) res 172 [(0, .ref y0), (1, .ref y1), (2, .int y2), (3, .int y3), (4, .int v3), (5, .int y5)] [] h4 0 0) hf (fun v3 h4 hf => ?_) (fun v3 h4 hf hJ172 => ?_)
      · refine aw_iinc (y5 + 1) [(5, .int (y5 + 1)), (0, .ref y0), (1, .ref y1), (2, .int y2), (3, .int y3), (4, .int v3)] 5 dX6_passNight_172 rfl rfl (Nat.le_of_ble_eq_true rfl) rfl ?_
        refine aw_goto (tgt := 26) dX6_passNight_175 rfl ?_
        refine aw_pick [1, 2, 3, 4, 5, 0] rfl ?_
        exact ih h4 y0 y1 y2 y3 v3 (y5 + 1) o4 ho hf kk
      · refine aw_icmp_ne (tgt := 48) dX6_passNight_42 rfl (fun hc => ?_) (fun hc => ?_)
        · have hf := itn0 hc hf
          refine aw_aload_n 0 dX6_passNight_48 rfl ?_
          refine aw_gR fl_RX6_14 dX6_passNight_49 hf (fun x5 hf => ?_)
          refine aw_gR fl_RX6_45 dX6_passNight_52 hf (fun x6 hf => ?_)
          refine aw_iload_n 2 dX6_passNight_55 rfl ?_
          refine aw_iload 5 dX6_passNight_56 rfl ?_
          refine aw_bipush (v := 6) dX6_passNight_58 rfl ?_
          refine aw_idiv0 dX6_passNight_60 (by decide) ?_
          refine aw_stI dX6_passNight_61 hf (fun h7 hf => ?_)
          refine aw_aload_n 0 dX6_passNight_62 rfl ?_
          refine aw_gR fl_RX6_14 dX6_passNight_63 hf (fun x8 hf => ?_)
          refine aw_gR fl_RX6_48 dX6_passNight_66 hf (fun x9 hf => ?_)
          refine aw_iload_n 2 dX6_passNight_69 rfl ?_
          refine aw_iload 5 dX6_passNight_70 rfl ?_
          refine aw_bipush (v := 6) dX6_passNight_72 rfl ?_
          refine aw_irem0 dX6_passNight_74 (by decide) ?_
          refine aw_stI dX6_passNight_75 hf (fun h10 hf => ?_)
          refine aw_aload_n 1 dX6_passNight_76 rfl ?_
          refine aw_aload_n 0 dX6_passNight_77 rfl ?_
          refine aw_gR fl_RX6_14 dX6_passNight_78 hf (fun x11 hf => ?_)
          refine aw_iload_n 2 dX6_passNight_81 rfl ?_
          refine aw_cV_i (st := []) [.ref x11, .int y2] wV_RX6_91 (ci := 1) rfl (fun xr er => c_X1_hidden g h10 y1 x11 y2 xr er) dX6_passNight_82 rfl rfl (Nat.le_of_ble_eq_true rfl) (Nat.le_of_ble_eq_true rfl) (Nat.le_of_ble_eq_true rfl) (Nat.le_of_ble_eq_true rfl) hf (fun x12 hf => ?_)
          refine aw_istore [(6, .int x12), (0, .ref y0), (1, .ref y1), (2, .int y2), (3, .int y3), (4, .int y4), (5, .int y5)] dX6_passNight_85 (Nat.le_of_ble_eq_true rfl) rfl ?_
          refine aw_iload 0 dX6_passNight_87 rfl ?_
          refine aw_aload_n 2 dX6_passNight_89 rfl ?_
          refine aw_gI fl_RX6_95 dX6_passNight_90 hf (fun x13 hf => ?_)
          refine aw_icmp_ge (tgt := 99) dX6_passNight_93 rfl (fun hc => ?_) (fun hc => ?_)
          · have hf := itp0 hc hf
            refine aw_aload_n 1 dX6_passNight_99 rfl ?_
            refine aw_gR fl_RX6_14 dX6_passNight_100 hf (fun x14 hf => ?_)
            refine aw_gR fl_RX6_45 dX6_passNight_103 hf (fun x15 hf => ?_)
            refine aw_iload_n 3 dX6_passNight_106 rfl ?_
            refine aw_ldI dX6_passNight_107 hf (fun x16 hf => ?_)
            refine aw_iload_n 4 dX6_passNight_108 rfl ?_
            refine aw_icmp_ne (tgt := 138) dX6_passNight_109 rfl (fun hc => ?_) (fun hc => ?_)
            · have hf := itn0 hc hf
              refine aw_aload_n 1 dX6_passNight_138 rfl ?_
              refine aw_gR fl_RX6_18 dX6_passNight_139 hf (fun x17 hf => ?_)
              refine aw_aload_n 1 dX6_passNight_142 rfl ?_
              refine aw_gR fl_RX6_14 dX6_passNight_143 hf (fun x18 hf => ?_)
              refine aw_gR fl_RX6_45 dX6_passNight_146 hf (fun x19 hf => ?_)
              refine aw_iload_n 3 dX6_passNight_149 rfl ?_
              refine aw_ldI dX6_passNight_150 hf (fun x20 hf => ?_)
              refine aw_aload_n 1 dX6_passNight_151 rfl ?_
              refine aw_gR fl_RX6_14 dX6_passNight_152 hf (fun x21 hf => ?_)
              refine aw_gR fl_RX6_48 dX6_passNight_155 hf (fun x22 hf => ?_)
              refine aw_iload_n 3 dX6_passNight_158 rfl ?_
              refine aw_ldI dX6_passNight_159 hf (fun x23 hf => ?_)
              refine aw_iconst (v := 1) dX6_passNight_160 rfl ?_
              refine aw_iadd dX6_passNight_161 ?_
              refine aw_aload_n 1 dX6_passNight_162 rfl ?_
              refine aw_gR fl_RX6_22 dX6_passNight_163 hf (fun x24 hf => ?_)
              refine aw_iload 6 dX6_passNight_166 rfl ?_
              refine aw_ldI dX6_passNight_168 hf (fun x25 hf => ?_)
              refine aw_cS_v (st := []) [.ref x17, .int x20, .int (x23 + 1), .int x25] wS_RX6_51 (fun hr er => c_X6_lower g h10 x17 x20 (x23 + 1) x25 hr er) dX6_passNight_169 rfl rfl (Nat.le_of_ble_eq_true rfl) (Nat.le_of_ble_eq_true rfl) (Nat.le_of_ble_eq_true rfl) (Nat.le_of_ble_eq_true rfl) hf (fun h26 hf => ?_)
              obtain ⟨rfl, rfl⟩ := so2 hf
              exact aw_pick [1, 2, 3, 4, 5, 6] rfl hJ172
            · have hf := itp0 hc hf
              refine aw_iload 0 dX6_passNight_112 rfl ?_
              refine aw_aload_n 2 dX6_passNight_114 rfl ?_
              refine aw_gI fl_RX6_98 dX6_passNight_115 hf (fun x27 hf => ?_)
              refine aw_icmp_ge (tgt := 138) dX6_passNight_118 rfl (fun hc => ?_) (fun hc => ?_)
              · have hf := itp0 hc hf
                refine aw_aload_n 1 dX6_passNight_138 rfl ?_
                refine aw_gR fl_RX6_18 dX6_passNight_139 hf (fun x28 hf => ?_)
                refine aw_aload_n 1 dX6_passNight_142 rfl ?_
                refine aw_gR fl_RX6_14 dX6_passNight_143 hf (fun x29 hf => ?_)
                refine aw_gR fl_RX6_45 dX6_passNight_146 hf (fun x30 hf => ?_)
                refine aw_iload_n 3 dX6_passNight_149 rfl ?_
                refine aw_ldI dX6_passNight_150 hf (fun x31 hf => ?_)
                refine aw_aload_n 1 dX6_passNight_151 rfl ?_
                refine aw_gR fl_RX6_14 dX6_passNight_152 hf (fun x32 hf => ?_)
                refine aw_gR fl_RX6_48 dX6_passNight_155 hf (fun x33 hf => ?_)
                refine aw_iload_n 3 dX6_passNight_158 rfl ?_
                refine aw_ldI dX6_passNight_159 hf (fun x34 hf => ?_)
                refine aw_iconst (v := 1) dX6_passNight_160 rfl ?_
                refine aw_iadd dX6_passNight_161 ?_
                refine aw_aload_n 1 dX6_passNight_162 rfl ?_
                refine aw_gR fl_RX6_22 dX6_passNight_163 hf (fun x35 hf => ?_)
                refine aw_iload 6 dX6_passNight_166 rfl ?_
                refine aw_ldI dX6_passNight_168 hf (fun x36 hf => ?_)
                refine aw_cS_v (st := []) [.ref x28, .int x31, .int (x34 + 1), .int x36] wS_RX6_51 (fun hr er => c_X6_lower g h10 x28 x31 (x34 + 1) x36 hr er) dX6_passNight_169 rfl rfl (Nat.le_of_ble_eq_true rfl) (Nat.le_of_ble_eq_true rfl) (Nat.le_of_ble_eq_true rfl) (Nat.le_of_ble_eq_true rfl) hf (fun h37 hf => ?_)
                obtain ⟨rfl, rfl⟩ := so2 hf
                exact aw_pick [1, 2, 3, 4, 5, 6] rfl hJ172
              · have hf := itn0 hc hf
                refine aw_iload 5 dX6_passNight_121 rfl ?_
                refine aw_aload_n 1 dX6_passNight_123 rfl ?_
                refine aw_gR fl_RX6_22 dX6_passNight_124 hf (fun x38 hf => ?_)
                refine aw_iload 6 dX6_passNight_127 rfl ?_
                refine aw_ldI dX6_passNight_129 hf (fun x39 hf => ?_)
                refine aw_mmin km_RX6_65 dX6_passNight_130 (Nat.le_of_ble_eq_true rfl) (Nat.le_of_ble_eq_true rfl) (Nat.le_of_ble_eq_true rfl) (Nat.le_of_ble_eq_true rfl) ?_
                refine aw_istore [(4, .int (if x39 < y4 then x39 else y4)), (6, .int x12), (0, .ref y0), (1, .ref y1), (2, .int y2), (3, .int y3), (5, .int y5)] dX6_passNight_133 (Nat.le_of_ble_eq_true rfl) rfl ?_
                refine aw_goto (tgt := 172) dX6_passNight_135 rfl ?_
                obtain ⟨rfl, rfl⟩ := so2 hf
                exact aw_pick [2, 3, 4, 5, 0, 6] rfl hJ172
          · have hf := itn0 hc hf
            refine aw_goto (tgt := 172) dX6_passNight_96 rfl ?_
            obtain ⟨rfl, rfl⟩ := so2 hf
            exact aw_pick [1, 2, 3, 4, 5, 6] rfl hJ172
        · have hf := itp0 hc hf
          refine aw_goto (tgt := 172) dX6_passNight_45 rfl ?_
          obtain ⟨rfl, rfl⟩ := so2 hf
          exact aw_pick [0, 1, 2, 3, 4, 5] rfl hJ172
set_option maxRecDepth 100000 in
set_option maxHeartbeats 4000000 in
theorem c_X6_passNight (g : Gx) (h : Hea) (a0 : Nat) (a1 : Nat) (a2 : Int32) (o : Hea) (hf : f_X6_passNight h a0 a1 a2 = some o) : MC g yX6_passNight cX6_passNight 7 none 2 0 0 [.ref a0, .ref a1, .int a2] h (none, o) := by
  refine MC_of (own := RX6) (nm := "passNight") [(0, .ref a0), (1, .ref a1), (2, .int a2)] rfl rfl pn_RX6 (Nat.le_of_ble_eq_true rfl) rfl ?_
  rw [f_X6_passNight] at hf
  refine aw_aload_n 1 dX6_passNight_0 rfl ?_
  refine aw_aload_n 0 dX6_passNight_1 rfl ?_
  refine aw_gR fl_RX6_14 dX6_passNight_2 hf (fun x1 hf => ?_)
  refine aw_gI fl_RX6_84 dX6_passNight_5 hf (fun x2 hf => ?_)
  refine aw_cV_i (st := []) [.int x2] wV_RX6_87 (ci := 1) rfl (fun xr er => c_X1_lookedInto g h a1 x2 xr er) dX6_passNight_8 rfl rfl (Nat.le_of_ble_eq_true rfl) (Nat.le_of_ble_eq_true rfl) (Nat.le_of_ble_eq_true rfl) (Nat.le_of_ble_eq_true rfl) hf (fun x3 hf => ?_)
  refine aw_istore_n [(3, .int x3), (0, .ref a0), (1, .ref a1), (2, .int a2)] dX6_passNight_11 (Nat.le_of_ble_eq_true rfl) rfl ?_
  refine aw_ldc (v := 2147483647) kc_RX6_64 dX6_passNight_12 ?_
  refine aw_istore [(4, .int 2147483647), (3, .int x3), (0, .ref a0), (1, .ref a1), (2, .int a2)] dX6_passNight_14 (Nat.le_of_ble_eq_true rfl) rfl ?_
  refine aw_aload_n 2 dX6_passNight_16 rfl ?_
  refine aw_gR fl_RX6_18 dX6_passNight_17 hf (fun x4 hf => ?_)
  refine aw_cS_v (st := []) [.ref x4] wS_RX6_41 (fun hr er => c_X6_empty g h x4 hr er) dX6_passNight_20 rfl rfl (Nat.le_of_ble_eq_true rfl) (Nat.le_of_ble_eq_true rfl) (Nat.le_of_ble_eq_true rfl) (Nat.le_of_ble_eq_true rfl) hf (fun h5 hf => ?_)
  refine aw_iconst (v := 0) dX6_passNight_23 rfl ?_
  refine aw_istore [(5, .int 0), (4, .int 2147483647), (3, .int x3), (0, .ref a0), (1, .ref a1), (2, .int a2)] dX6_passNight_24 (Nat.le_of_ble_eq_true rfl) rfl ?_
  refine aw_pick [3, 4, 5, 2, 1, 0] rfl ?_
  refine reg2 (fun (v6 : Int32) (h7 : Hea) => AW g RX6 cX6_passNight (7, none, "passNight", 2, 0, 0) (none, o) 178 [(0, .ref a0), (4, .int v6)] [] h7 0 0) hf (fun v6 h7 hf => ?_) (fun v6 h7 hf hJ => l_X6_passNight_26 g  lots h5 a0 a1 a2 x3 2147483647 0 v6 h7 hf hJ)
  refine aw_iload 1 dX6_passNight_178 rfl ?_
  refine aw_ldc (v := 2147483647) kc_RX6_64 dX6_passNight_180 ?_
  refine reg1 (fun (h8 : Hea) => AW g RX6 cX6_passNight (7, none, "passNight", 2, 0, 0) (none, o) 202 [(0, .ref a0)] [] h8 0 0) hf (fun h8 hf => ?_) (fun h8 hf hJ202 => ?_)
  · refine aw_aload_n 0 dX6_passNight_202 rfl ?_
    refine aw_gR fl_RX6_14 dX6_passNight_203 hf (fun x13 hf => ?_)
    refine aw_dup dX6_passNight_206 rfl ?_
    refine aw_gI fl_RX6_84 dX6_passNight_207 hf (fun x14 hf => ?_)
    refine aw_iconst (v := 1) dX6_passNight_210 rfl ?_
    refine aw_iadd dX6_passNight_211 ?_
    refine aw_pI fp_RX6_84 dX6_passNight_212 hf (fun h15 hf => ?_)
    obtain rfl := so1 hf
    exact aw_vret dX6_passNight_215 rfl rfl
  · refine aw_icmp_eq (tgt := 202) dX6_passNight_182 rfl (fun hc => ?_) (fun hc => ?_)
    · have hf := itp0 hc hf
      obtain rfl := so1 hf
      exact aw_pick [0] rfl hJ202
    · have hf := itn0 hc hf
      refine aw_aload_n 0 dX6_passNight_185 rfl ?_
      refine aw_aload_n 0 dX6_passNight_186 rfl ?_
      refine aw_gR fl_RX6_14 dX6_passNight_187 hf (fun x9 hf => ?_)
      refine aw_gI fl_RX6_84 dX6_passNight_190 hf (fun x10 hf => ?_)
      refine aw_pI fp_RX6_34 dX6_passNight_193 hf (fun h11 hf => ?_)
      refine aw_aload_n 0 dX6_passNight_196 rfl ?_
      refine aw_iload 1 dX6_passNight_197 rfl ?_
      refine aw_pI fp_RX6_38 dX6_passNight_199 hf (fun h12 hf => ?_)
      obtain rfl := so1 hf
      exact aw_pick [0] rfl hJ202
set_option maxRecDepth 100000 in
set_option maxHeartbeats 4000000 in
theorem l_X6_search_56 (g : Gx) {res : Option Value × Hea} : ∀ (n : Nat) (h : Hea) (y0 : Nat) (y1 : Nat) (y2 : Int32) (y3 : Int32) (ho : Hea) (hf : f_X6_search_56 n h y0 y1 y2 y3 = some ho) (kk : AW g RX6 cX6_search (4, none, "search", 4, 0, 0) res 108 [] [] ho 0 0), AW g RX6 cX6_search (4, none, "search", 4, 0, 0) res 56 [(0, .ref y0), (1, .ref y1), (2, .int y2), (3, .int y3)] [] h 0 0 := by
  intro n
  induction n with
  | zero =>
    intro h y0 y1 y2 y3 ho hf kk
    rw [f_X6_search_56] at hf
    cases hf
  | succ n ih =>
    intro h y0 y1 y2 y3 ho hf kk
    rw [f_X6_search_56] at hf
    refine aw_iload_n 3 dX6_search_56 rfl ?_
    refine aw_bipush (v := 12) dX6_search_57 rfl ?_
    refine aw_icmp_ge (tgt := 108) dX6_search_59 rfl (fun hc => ?_) (fun hc => ?_)
    · have hf := itp0 hc hf
      obtain rfl := so1 hf
      exact aw_pick [] rfl kk
    · have hf := itn0 hc hf
      refine aw_aload_n 0 dX6_search_62 rfl ?_
      refine aw_gI fl_RX6_34 dX6_search_63 hf (fun x1 hf => ?_)
      refine aw_iconst (v := (-1)) dX6_search_66 rfl ?_
      refine aw_icmp_ne (tgt := 108) dX6_search_67 rfl (fun hc => ?_) (fun hc => ?_)
      · have hf := itn0 hc hf
        obtain rfl := so1 hf
        exact aw_pick [] rfl kk
      · have hf := itp0 hc hf
        refine aw_aload_n 0 dX6_search_70 rfl ?_
        refine aw_aload_n 1 dX6_search_71 rfl ?_
        refine aw_iload_n 3 dX6_search_72 rfl ?_
        refine reg1 (fun (v2 : Int32) => AW g RX6 cX6_search (4, none, "search", 4, 0, 0) res 93 [(0, .ref y0), (1, .ref y1), (2, .int y2), (3, .int y3)] [.int v2, .ref y1, .ref y0] h 0 0) hf (fun v2 hf => ?_) (fun v2 hf hJ93 => ?_)
        · refine aw_cV_v (st := []) [.ref y1, .int v2] wV_RX6_56 (ci := 6) rfl (fun hr er => c_X6_spread g h y0 y1 v2 hr er) dX6_search_93 rfl rfl (Nat.le_of_ble_eq_true rfl) (Nat.le_of_ble_eq_true rfl) (Nat.le_of_ble_eq_true rfl) (Nat.le_of_ble_eq_true rfl) hf (fun h6 hf => ?_)
          refine aw_aload_n 0 dX6_search_96 rfl ?_
          refine aw_aload_n 1 dX6_search_97 rfl ?_
          refine aw_iload_n 2 dX6_search_98 rfl ?_
          refine aw_cV_v (st := []) [.ref y1, .int y2] wV_RX6_60 (ci := 6) rfl (fun hr er => c_X6_passNight g h6 y0 y1 y2 hr er) dX6_search_99 rfl rfl (Nat.le_of_ble_eq_true rfl) (Nat.le_of_ble_eq_true rfl) (Nat.le_of_ble_eq_true rfl) (Nat.le_of_ble_eq_true rfl) hf (fun h7 hf => ?_)
          refine aw_iinc (y3 + 1) [(3, .int (y3 + 1)), (0, .ref y0), (1, .ref y1), (2, .int y2)] 3 dX6_search_102 rfl rfl (Nat.le_of_ble_eq_true rfl) rfl ?_
          refine aw_goto (tgt := 56) dX6_search_105 rfl ?_
          refine aw_pick [1, 2, 3, 0] rfl ?_
          exact ih h7 y0 y1 y2 (y3 + 1) ho hf kk
        · refine aw_if_gt (tgt := 88) dX6_search_73 rfl (fun hc => ?_) (fun hc => ?_)
          · have hf := itp0 hc hf
            refine aw_iconst (v := 1) dX6_search_88 rfl ?_
            refine aw_goto (tgt := 93) dX6_search_89 rfl ?_
            obtain rfl := so1 hf
            exact aw_pick [0, 1, 2, 3] rfl hJ93
          · have hf := itn0 hc hf
            refine aw_aload_n 1 dX6_search_76 rfl ?_
            refine aw_gR fl_RX6_25 dX6_search_77 hf (fun x3 hf => ?_)
            refine aw_gR fl_RX6_55 dX6_search_80 hf (fun x4 hf => ?_)
            refine aw_iload_n 2 dX6_search_83 rfl ?_
            refine aw_ldI dX6_search_84 hf (fun x5 hf => ?_)
            refine aw_if_ne (tgt := 92) dX6_search_85 rfl (fun hc => ?_) (fun hc => ?_)
            · have hf := itn0 hc hf
              refine aw_iconst (v := 0) dX6_search_92 rfl ?_
              obtain rfl := so1 hf
              exact aw_pick [0, 1, 2, 3] rfl hJ93
            · have hf := itp0 hc hf
              refine aw_iconst (v := 1) dX6_search_88 rfl ?_
              refine aw_goto (tgt := 93) dX6_search_89 rfl ?_
              obtain rfl := so1 hf
              exact aw_pick [0, 1, 2, 3] rfl hJ93
set_option maxRecDepth 100000 in
set_option maxHeartbeats 4000000 in
theorem c_X6_search (g : Gx) (h : Hea) (a0 : Nat) (a1 : Nat) (a2 : Int32) (o : Hea) (hf : f_X6_search h a0 a1 a2 = some o) : MC g yX6_search cX6_search 4 none 4 0 0 [.ref a0, .ref a1, .int a2] h (none, o) := by
  refine MC_of (own := RX6) (nm := "search") [(0, .ref a0), (1, .ref a1), (2, .int a2)] rfl rfl pn_RX6 (Nat.le_of_ble_eq_true rfl) rfl ?_
  rw [f_X6_search] at hf
  refine aw_aload_n 0 dX6_search_0 rfl ?_
  refine aw_gR fl_RX6_14 dX6_search_1 hf (fun x1 hf => ?_)
  refine aw_aload_n 1 dX6_search_4 rfl ?_
  refine aw_gR fl_RX6_25 dX6_search_5 hf (fun x2 hf => ?_)
  refine aw_cV_v (st := []) [.ref x2] wV_RX6_30 (ci := 3) rfl (fun hr er => c_X3_take g h x1 x2 hr er) dX6_search_8 rfl rfl (Nat.le_of_ble_eq_true rfl) (Nat.le_of_ble_eq_true rfl) (Nat.le_of_ble_eq_true rfl) (Nat.le_of_ble_eq_true rfl) hf (fun h3 hf => ?_)
  refine aw_aload_n 0 dX6_search_11 rfl ?_
  refine aw_iconst (v := (-1)) dX6_search_12 rfl ?_
  refine aw_pI fp_RX6_34 dX6_search_13 hf (fun h4 hf => ?_)
  refine aw_aload_n 0 dX6_search_16 rfl ?_
  refine aw_iconst (v := (-1)) dX6_search_17 rfl ?_
  refine aw_pI fp_RX6_38 dX6_search_18 hf (fun h5 hf => ?_)
  refine aw_aload_n 0 dX6_search_21 rfl ?_
  refine aw_gR fl_RX6_18 dX6_search_22 hf (fun x6 hf => ?_)
  refine aw_cS_v (st := []) [.ref x6] wS_RX6_41 (fun hr er => c_X6_empty g h5 x6 hr er) dX6_search_25 rfl rfl (Nat.le_of_ble_eq_true rfl) (Nat.le_of_ble_eq_true rfl) (Nat.le_of_ble_eq_true rfl) (Nat.le_of_ble_eq_true rfl) hf (fun h7 hf => ?_)
  refine aw_aload_n 0 dX6_search_28 rfl ?_
  refine aw_gR fl_RX6_18 dX6_search_29 hf (fun x8 hf => ?_)
  refine aw_aload_n 0 dX6_search_32 rfl ?_
  refine aw_gR fl_RX6_14 dX6_search_33 hf (fun x9 hf => ?_)
  refine aw_gR fl_RX6_45 dX6_search_36 hf (fun x10 hf => ?_)
  refine aw_iload_n 2 dX6_search_39 rfl ?_
  refine aw_ldI dX6_search_40 hf (fun x11 hf => ?_)
  refine aw_aload_n 0 dX6_search_41 rfl ?_
  refine aw_gR fl_RX6_14 dX6_search_42 hf (fun x12 hf => ?_)
  refine aw_gR fl_RX6_48 dX6_search_45 hf (fun x13 hf => ?_)
  refine aw_iload_n 2 dX6_search_48 rfl ?_
  refine aw_ldI dX6_search_49 hf (fun x14 hf => ?_)
  refine aw_iconst (v := 0) dX6_search_50 rfl ?_
  refine aw_cS_v (st := []) [.ref x8, .int x11, .int x14, .int 0] wS_RX6_51 (fun hr er => c_X6_lower g h7 x8 x11 x14 0 hr er) dX6_search_51 rfl rfl (Nat.le_of_ble_eq_true rfl) (Nat.le_of_ble_eq_true rfl) (Nat.le_of_ble_eq_true rfl) (Nat.le_of_ble_eq_true rfl) hf (fun h15 hf => ?_)
  refine aw_iconst (v := 0) dX6_search_54 rfl ?_
  refine aw_istore_n [(3, .int 0), (0, .ref a0), (1, .ref a1), (2, .int a2)] dX6_search_55 (Nat.le_of_ble_eq_true rfl) rfl ?_
  refine aw_pick [1, 2, 3, 0] rfl ?_
  refine reg1 (fun (h16 : Hea) => AW g RX6 cX6_search (4, none, "search", 4, 0, 0) (none, o) 108 [] [] h16 0 0) hf (fun h16 hf => ?_) (fun h16 hf hJ => l_X6_search_56 g  lots h15 a0 a1 a2 0 h16 hf hJ)
  obtain rfl := so1 hf
  exact aw_vret dX6_search_108 rfl rfl
set_option maxRecDepth 100000 in
set_option maxHeartbeats 4000000 in
theorem c_X7_way (g : Gx) (h : Hea) (a0 : Nat) (a1 : Int32) (a2 : Int32) (o : Int32) (hz : Hea) (hf : f_X7_way h a0 a1 a2 = some (o, hz)) : MC g yX7_way cX7_way 3 (some .int) 5 0 0 [.ref a0, .int a1, .int a2] h (some (.int o), hz) := by
  refine MC_of (own := RX7) (nm := "way") [(0, .ref a0), (1, .int a1), (2, .int a2)] rfl rfl pn_RX7 (Nat.le_of_ble_eq_true rfl) rfl ?_
  rw [f_X7_way] at hf
  refine aw_aload_n 0 dX7_way_0 rfl ?_
  refine aw_iload_n 1 dX7_way_1 rfl ?_
  refine aw_cV_i (st := []) [.int a1] wV_RX7_148 (ci := 7) rfl (fun xr er => c_X7_isHeir g h a0 a1 xr er) dX7_way_2 rfl rfl (Nat.le_of_ble_eq_true rfl) (Nat.le_of_ble_eq_true rfl) (Nat.le_of_ble_eq_true rfl) (Nat.le_of_ble_eq_true rfl) hf (fun x1 hf => ?_)
  refine aw_if_eq (tgt := 17) dX7_way_5 rfl (fun hc => ?_) (fun hc => ?_)
  · have hf := itp0 hc hf
    refine aw_aload_n 0 dX7_way_17 rfl ?_
    refine aw_cV_wi (st := []) [] wV_RX7_94 (ci := 7) rfl (fun xr hr er => c_X7_refuseBad g h a0 xr hr er) dX7_way_18 rfl rfl (Nat.le_of_ble_eq_true rfl) (Nat.le_of_ble_eq_true rfl) (Nat.le_of_ble_eq_true rfl) (Nat.le_of_ble_eq_true rfl) hf (fun x2 h3 hf => ?_)
    obtain ⟨rfl, rfl⟩ := so2 hf
    exact aw_iret dX7_way_21 rfl rfl
  · have hf := itn0 hc hf
    refine aw_iload_n 2 dX7_way_8 rfl ?_
    refine aw_iconst (v := 0) dX7_way_9 rfl ?_
    refine aw_iconst (v := 1) dX7_way_10 rfl ?_
    refine aw_cS_i (st := []) [.int a2, .int 0, .int 1] wS_RX7_90 (fun xr er => c_X7_within g h a2 0 1 xr er) dX7_way_11 rfl rfl (Nat.le_of_ble_eq_true rfl) (Nat.le_of_ble_eq_true rfl) (Nat.le_of_ble_eq_true rfl) (Nat.le_of_ble_eq_true rfl) hf (fun x4 hf => ?_)
    refine aw_if_ne (tgt := 22) dX7_way_14 rfl (fun hc => ?_) (fun hc => ?_)
    · have hf := itn0 hc hf
      refine aw_aload_n 0 dX7_way_22 rfl ?_
      refine aw_iload_n 1 dX7_way_23 rfl ?_
      refine aw_cV_i (st := []) [.int a1] wV_RX7_227 (ci := 7) rfl (fun xr er => c_X7_isIn g h a0 a1 xr er) dX7_way_24 rfl rfl (Nat.le_of_ble_eq_true rfl) (Nat.le_of_ble_eq_true rfl) (Nat.le_of_ble_eq_true rfl) (Nat.le_of_ble_eq_true rfl) hf (fun x5 hf => ?_)
      refine aw_if_ne (tgt := 35) dX7_way_27 rfl (fun hc => ?_) (fun hc => ?_)
      · have hf := itn0 hc hf
        refine aw_aload_n 0 dX7_way_35 rfl ?_
        refine aw_gR fl_RX7_48 dX7_way_36 hf (fun x6 hf => ?_)
        refine aw_aload_n 0 dX7_way_39 rfl ?_
        refine aw_gR fl_RX7_10 dX7_way_40 hf (fun x7 hf => ?_)
        refine aw_iload_n 1 dX7_way_43 rfl ?_
        refine aw_cV_v (st := []) [.ref x7, .int a1] wV_RX7_234 (ci := 6) rfl (fun hr er => c_X6_search g h x6 x7 a1 hr er) dX7_way_44 rfl rfl (Nat.le_of_ble_eq_true rfl) (Nat.le_of_ble_eq_true rfl) (Nat.le_of_ble_eq_true rfl) (Nat.le_of_ble_eq_true rfl) hf (fun h8 hf => ?_)
        refine aw_iload_n 2 dX7_way_47 rfl ?_
        refine reg1 (fun (v9 : Int32) => AW g RX7 cX7_way (3, some .int, "way", 5, 0, 0) (some (.int o), hz) 68 [] [.int v9] h8 0 0) hf (fun v9 hf => ?_) (fun v9 hf hJ68 => ?_)
        · obtain ⟨rfl, rfl⟩ := so2 hf
          exact aw_iret dX7_way_68 rfl rfl
        · refine aw_if_ne (tgt := 61) dX7_way_48 rfl (fun hc => ?_) (fun hc => ?_)
          · have hf := itn0 hc hf
            refine aw_aload_n 0 dX7_way_61 rfl ?_
            refine aw_gR fl_RX7_48 dX7_way_62 hf (fun x10 hf => ?_)
            refine aw_gI fl_RX7_241 dX7_way_65 hf (fun x11 hf => ?_)
            obtain rfl := so1 hf
            exact aw_pick [] rfl hJ68
          · have hf := itp0 hc hf
            refine aw_aload_n 0 dX7_way_51 rfl ?_
            refine aw_gR fl_RX7_48 dX7_way_52 hf (fun x12 hf => ?_)
            refine aw_gI fl_RX7_238 dX7_way_55 hf (fun x13 hf => ?_)
            refine aw_goto (tgt := 68) dX7_way_58 rfl ?_
            obtain rfl := so1 hf
            exact aw_pick [] rfl hJ68
      · have hf := itp0 hc hf
        refine aw_aload_n 0 dX7_way_30 rfl ?_
        refine aw_cV_wi (st := []) [] wV_RX7_166 (ci := 7) rfl (fun xr hr er => c_X7_refuseNo g h a0 xr hr er) dX7_way_31 rfl rfl (Nat.le_of_ble_eq_true rfl) (Nat.le_of_ble_eq_true rfl) (Nat.le_of_ble_eq_true rfl) (Nat.le_of_ble_eq_true rfl) hf (fun x14 h15 hf => ?_)
        obtain ⟨rfl, rfl⟩ := so2 hf
        exact aw_iret dX7_way_34 rfl rfl
    · have hf := itp0 hc hf
      refine aw_aload_n 0 dX7_way_17 rfl ?_
      refine aw_cV_wi (st := []) [] wV_RX7_94 (ci := 7) rfl (fun xr hr er => c_X7_refuseBad g h a0 xr hr er) dX7_way_18 rfl rfl (Nat.le_of_ble_eq_true rfl) (Nat.le_of_ble_eq_true rfl) (Nat.le_of_ble_eq_true rfl) (Nat.le_of_ble_eq_true rfl) hf (fun x16 h17 hf => ?_)
      obtain ⟨rfl, rfl⟩ := so2 hf
      exact aw_iret dX7_way_21 rfl rfl
set_option maxRecDepth 100000 in
set_option maxHeartbeats 4000000 in
theorem l_X0_goThroughLeastDoor_13 (g : Gx) : ∀ (n : Nat) (h : Hea) (y0 : Nat) (y1 : Nat) (y2 : Int32) (y3 : Int32) (y4 : Int32) (o : Hea) (hf : f_X0_goThroughLeastDoor_13 n h y0 y1 y2 y3 y4 = some o), AW g RX0 cX0_goThroughLeastDoor (5, none, "goThroughLeastDoor", 1, 0, 0) (none, o) 13 [(0, .ref y0), (1, .ref y1), (2, .int y2), (3, .int y3), (4, .int y4)] [] h 0 0 := by
  intro n
  induction n with
  | zero =>
    intro h y0 y1 y2 y3 y4 o hf
    rw [f_X0_goThroughLeastDoor_13] at hf
    cases hf
  | succ n ih =>
    intro h y0 y1 y2 y3 y4 o hf
    rw [f_X0_goThroughLeastDoor_13] at hf
    refine aw_iload 4 dX0_goThroughLeastDoor_13 rfl ?_
    refine aw_bipush (v := 8) dX0_goThroughLeastDoor_15 rfl ?_
    refine aw_icmp_ge (tgt := 47) dX0_goThroughLeastDoor_17 rfl (fun hc => ?_) (fun hc => ?_)
    · have hf := itp0 hc hf
      obtain rfl := so1 hf
      exact aw_vret dX0_goThroughLeastDoor_47 rfl rfl
    · have hf := itn0 hc hf
      refine aw_aload_n 1 dX0_goThroughLeastDoor_20 rfl ?_
      refine aw_iload_n 3 dX0_goThroughLeastDoor_21 rfl ?_
      refine aw_iload 4 dX0_goThroughLeastDoor_22 rfl ?_
      refine aw_cV_i (st := []) [.int y3, .int y4] wV_RX0_70 (ci := 1) rfl (fun xr er => c_X1_creaksBetween g h y1 y3 y4 xr er) dX0_goThroughLeastDoor_24 rfl rfl (Nat.le_of_ble_eq_true rfl) (Nat.le_of_ble_eq_true rfl) (Nat.le_of_ble_eq_true rfl) (Nat.le_of_ble_eq_true rfl) hf (fun x1 hf => ?_)
      refine aw_if_le (tgt := 41) dX0_goThroughLeastDoor_27 rfl (fun hc => ?_) (fun hc => ?_)
      · have hf := itp0 hc hf
        refine aw_iinc (y4 + 1) [(4, .int (y4 + 1)), (0, .ref y0), (1, .ref y1), (2, .int y2), (3, .int y3)] 4 dX0_goThroughLeastDoor_41 rfl rfl (Nat.le_of_ble_eq_true rfl) rfl ?_
        refine aw_goto (tgt := 13) dX0_goThroughLeastDoor_44 rfl ?_
        refine aw_pick [1, 2, 3, 4, 0] rfl ?_
        exact ih h y0 y1 y2 y3 (y4 + 1) o hf
      · have hf := itn0 hc hf
        refine aw_aload_n 0 dX0_goThroughLeastDoor_30 rfl ?_
        refine aw_gR fl_RX0_12 dX0_goThroughLeastDoor_31 hf (fun x2 hf => ?_)
        refine aw_iload_n 2 dX0_goThroughLeastDoor_34 rfl ?_
        refine aw_iload 4 dX0_goThroughLeastDoor_35 rfl ?_
        refine aw_cV_v (st := []) [.int y2, .int y4] wV_RX0_73 (ci := 3) rfl (fun hr er => c_X3_go g h x2 y2 y4 hr er) dX0_goThroughLeastDoor_37 rfl rfl (Nat.le_of_ble_eq_true rfl) (Nat.le_of_ble_eq_true rfl) (Nat.le_of_ble_eq_true rfl) (Nat.le_of_ble_eq_true rfl) hf (fun h3 hf => ?_)
        obtain rfl := so1 hf
        exact aw_vret dX0_goThroughLeastDoor_40 rfl rfl
set_option maxRecDepth 100000 in
set_option maxHeartbeats 4000000 in
theorem c_X0_goThroughLeastDoor (g : Gx) (h : Hea) (a0 : Nat) (a1 : Nat) (a2 : Int32) (o : Hea) (hf : f_X0_goThroughLeastDoor h a0 a1 a2 = some o) : MC g yX0_goThroughLeastDoor cX0_goThroughLeastDoor 5 none 1 0 0 [.ref a0, .ref a1, .int a2] h (none, o) := by
  refine MC_of (own := RX0) (nm := "goThroughLeastDoor") [(0, .ref a0), (1, .ref a1), (2, .int a2)] rfl rfl pn_RX0 (Nat.le_of_ble_eq_true rfl) rfl ?_
  rw [f_X0_goThroughLeastDoor] at hf
  refine aw_aload_n 0 dX0_goThroughLeastDoor_0 rfl ?_
  refine aw_gR fl_RX0_12 dX0_goThroughLeastDoor_1 hf (fun x1 hf => ?_)
  refine aw_gR fl_RX0_40 dX0_goThroughLeastDoor_4 hf (fun x2 hf => ?_)
  refine aw_iload_n 2 dX0_goThroughLeastDoor_7 rfl ?_
  refine aw_ldI dX0_goThroughLeastDoor_8 hf (fun x3 hf => ?_)
  refine aw_istore_n [(3, .int x3), (0, .ref a0), (1, .ref a1), (2, .int a2)] dX0_goThroughLeastDoor_9 (Nat.le_of_ble_eq_true rfl) rfl ?_
  refine aw_iconst (v := 0) dX0_goThroughLeastDoor_10 rfl ?_
  refine aw_istore [(4, .int 0), (3, .int x3), (0, .ref a0), (1, .ref a1), (2, .int a2)] dX0_goThroughLeastDoor_11 (Nat.le_of_ble_eq_true rfl) rfl ?_
  refine aw_pick [2, 3, 4, 1, 0] rfl ?_
  exact l_X0_goThroughLeastDoor_13 g lots h a0 a1 a2 x3 0 _ hf
set_option maxRecDepth 100000 in
set_option maxHeartbeats 4000000 in
theorem c_X0_begin (g : Gx) (h : Hea) (a0 : Nat) (a1 : Nat) (a2 : Int32) (a3 : Int32) (o : Hea) (hf : f_X0_begin h a0 a1 a2 a3 = some o) : MC g yX0_begin cX0_begin 4 none 2 0 0 [.ref a0, .ref a1, .int a2, .int a3] h (none, o) := by
  refine MC_of (own := RX0) (nm := "begin") [(0, .ref a0), (1, .ref a1), (2, .int a2), (3, .int a3)] rfl rfl pn_RX0 (Nat.le_of_ble_eq_true rfl) rfl ?_
  rw [f_X0_begin] at hf
  refine aw_aload_n 0 dX0_begin_0 rfl ?_
  refine aw_gR fl_RX0_12 dX0_begin_1 hf (fun x1 hf => ?_)
  refine aw_aload_n 1 dX0_begin_4 rfl ?_
  refine aw_gR fl_RX0_22 dX0_begin_5 hf (fun x2 hf => ?_)
  refine aw_cV_v (st := []) [.ref x2] wV_RX0_27 (ci := 3) rfl (fun hr er => c_X3_take g h x1 x2 hr er) dX0_begin_8 rfl rfl (Nat.le_of_ble_eq_true rfl) (Nat.le_of_ble_eq_true rfl) (Nat.le_of_ble_eq_true rfl) (Nat.le_of_ble_eq_true rfl) hf (fun h3 hf => ?_)
  refine aw_iload_n 2 dX0_begin_11 rfl ?_
  refine aw_iconst (v := (-1)) dX0_begin_12 rfl ?_
  refine reg1 (fun (h4 : Hea) => AW g RX0 cX0_begin (4, none, "begin", 2, 0, 0) (none, o) 22 [(0, .ref a0), (1, .ref a1), (3, .int a3)] [] h4 0 0) hf (fun h4 hf => ?_) (fun h4 hf hJ22 => ?_)
  · refine aw_iload_n 2 dX0_begin_22 rfl ?_
    refine aw_iconst (v := (-1)) dX0_begin_23 rfl ?_
    refine reg1 (fun (h6 : Hea) => AW g RX0 cX0_begin (4, none, "begin", 2, 0, 0) (none, o) 33 [] [] h6 0 0) hf (fun h6 hf => ?_) (fun h6 hf hJ33 => ?_)
    · obtain rfl := so1 hf
      exact aw_vret dX0_begin_33 rfl rfl
    · refine aw_icmp_eq (tgt := 33) dX0_begin_24 rfl (fun hc => ?_) (fun hc => ?_)
      · have hf := itp0 hc hf
        obtain rfl := so1 hf
        exact aw_pick [] rfl hJ33
      · have hf := itn0 hc hf
        refine aw_aload_n 0 dX0_begin_27 rfl ?_
        refine aw_aload_n 1 dX0_begin_28 rfl ?_
        refine aw_iload_n 2 dX0_begin_29 rfl ?_
        refine aw_cV_v (st := []) [.ref a1, .int a3] wV_RX0_66 (ci := 0) rfl (fun hr er => c_X0_goThroughLeastDoor g h4 a0 a1 a3 hr er) dX0_begin_30 rfl rfl (Nat.le_of_ble_eq_true rfl) (Nat.le_of_ble_eq_true rfl) (Nat.le_of_ble_eq_true rfl) (Nat.le_of_ble_eq_true rfl) hf (fun h7 hf => ?_)
        obtain rfl := so1 hf
        exact aw_pick [] rfl hJ33
  · refine aw_icmp_eq (tgt := 22) dX0_begin_13 rfl (fun hc => ?_) (fun hc => ?_)
    · have hf := itp0 hc hf
      obtain rfl := so1 hf
      exact aw_pick [0, 1, 3] rfl hJ22
    · have hf := itn0 hc hf
      refine aw_aload_n 0 dX0_begin_16 rfl ?_
      refine aw_aload_n 1 dX0_begin_17 rfl ?_
      refine aw_iload_n 2 dX0_begin_18 rfl ?_
      refine aw_cV_v (st := []) [.ref a1, .int a2] wV_RX0_66 (ci := 0) rfl (fun hr er => c_X0_goThroughLeastDoor g h3 a0 a1 a2 hr er) dX0_begin_19 rfl rfl (Nat.le_of_ble_eq_true rfl) (Nat.le_of_ble_eq_true rfl) (Nat.le_of_ble_eq_true rfl) (Nat.le_of_ble_eq_true rfl) hf (fun h5 hf => ?_)
      obtain rfl := so1 hf
      exact aw_pick [0, 1, 3] rfl hJ22
set_option maxRecDepth 100000 in
set_option maxHeartbeats 4000000 in
theorem l_X0_restingPairs_3 (g : Gx) {res : Option Value × Hea} : ∀ (n : Nat) (h : Hea) (y0 : Nat) (y1 : Nat) (y2 : Int32) (y3 : Int32) (y4 : Int32) (ho : Hea) (hf : f_X0_restingPairs_3 n h y0 y1 y2 y3 y4 = some ho) (kk : AW g RX0 cX0_restingPairs (6, some .int, "restingPairs", 5, 0, 0) res 73 [(0, .ref y0)] [] ho 0 0), AW g RX0 cX0_restingPairs (6, some .int, "restingPairs", 5, 0, 0) res 3 [(0, .ref y0), (1, .ref y1), (2, .int y2), (3, .int y3), (4, .int y4)] [] h 0 0 := by
  intro n
  induction n with
  | zero =>
    intro h y0 y1 y2 y3 y4 ho hf kk
    rw [f_X0_restingPairs_3] at hf
    cases hf
  | succ n ih =>
    intro h y0 y1 y2 y3 y4 ho hf kk
    rw [f_X0_restingPairs_3] at hf
    refine aw_iload 4 dX0_restingPairs_3 rfl ?_
    refine aw_iconst (v := 4) dX0_restingPairs_5 rfl ?_
    refine aw_icmp_ge (tgt := 73) dX0_restingPairs_6 rfl (fun hc => ?_) (fun hc => ?_)
    · have hf := itp0 hc hf
      obtain rfl := so1 hf
      exact aw_pick [0] rfl kk
    · have hf := itn0 hc hf
      refine aw_aload_n 0 dX0_restingPairs_9 rfl ?_
      refine aw_aload_n 1 dX0_restingPairs_10 rfl ?_
      refine aw_iload 4 dX0_restingPairs_11 rfl ?_
      refine aw_iconst (v := 1) dX0_restingPairs_13 rfl ?_
      refine aw_iand dX0_restingPairs_14 ?_
      refine reg1 (fun (v1 : Int32) => AW g RX0 cX0_restingPairs (6, some .int, "restingPairs", 5, 0, 0) res 23 [(0, .ref y0), (1, .ref y1), (2, .int y2), (3, .int y3), (4, .int y4)] [.int v1, .ref y1, .ref y0] h 0 0) hf (fun v1 hf => ?_) (fun v1 hf hJ23 => ?_)
      · refine aw_iload 4 dX0_restingPairs_23 rfl ?_
        refine aw_iconst (v := 2) dX0_restingPairs_25 rfl ?_
        refine aw_iand dX0_restingPairs_26 ?_
        refine reg1 (fun (v2 : Int32) => AW g RX0 cX0_restingPairs (6, some .int, "restingPairs", 5, 0, 0) res 35 [(0, .ref y0), (1, .ref y1), (2, .int y2), (3, .int y3), (4, .int y4)] [.int v2, .int v1, .ref y1, .ref y0] h 0 0) hf (fun v2 hf => ?_) (fun v2 hf hJ35 => ?_)
        · refine aw_cV_v (st := []) [.ref y1, .int v1, .int v2] wV_RX0_57 (ci := 0) rfl (fun hr er => c_X0_begin g h y0 y1 v1 v2 hr er) dX0_restingPairs_35 rfl rfl (Nat.le_of_ble_eq_true rfl) (Nat.le_of_ble_eq_true rfl) (Nat.le_of_ble_eq_true rfl) (Nat.le_of_ble_eq_true rfl) hf (fun h3 hf => ?_)
          refine aw_aload_n 0 dX0_restingPairs_38 rfl ?_
          refine aw_aload_n 1 dX0_restingPairs_39 rfl ?_
          refine aw_iload_n 2 dX0_restingPairs_40 rfl ?_
          refine aw_iload_n 3 dX0_restingPairs_41 rfl ?_
          refine aw_cV_v (st := []) [.ref y1, .int y2, .int y3] wV_RX0_43 (ci := 0) rfl (fun hr er => c_X0_runUntilNoMoreIn g h3 y0 y1 y2 y3 hr er) dX0_restingPairs_42 rfl rfl (Nat.le_of_ble_eq_true rfl) (Nat.le_of_ble_eq_true rfl) (Nat.le_of_ble_eq_true rfl) (Nat.le_of_ble_eq_true rfl) hf (fun h4 hf => ?_)
          refine aw_aload_n 0 dX0_restingPairs_45 rfl ?_
          refine aw_gR fl_RX0_18 dX0_restingPairs_46 hf (fun x5 hf => ?_)
          refine aw_iload 4 dX0_restingPairs_49 rfl ?_
          refine aw_iconst (v := 1) dX0_restingPairs_51 rfl ?_
          refine aw_aload_n 0 dX0_restingPairs_52 rfl ?_
          refine aw_iload_n 2 dX0_restingPairs_53 rfl ?_
          refine aw_cV_i (st := [.int 1, .int y4, .ref x5]) [.int y2] wV_RX0_47 (ci := 0) rfl (fun xr er => c_X0_foundNight g h4 y0 y2 xr er) dX0_restingPairs_54 rfl rfl (Nat.le_of_ble_eq_true rfl) (Nat.le_of_ble_eq_true rfl) (Nat.le_of_ble_eq_true rfl) (Nat.le_of_ble_eq_true rfl) hf (fun x6 hf => ?_)
          refine aw_aload_n 0 dX0_restingPairs_57 rfl ?_
          refine aw_iload_n 3 dX0_restingPairs_58 rfl ?_
          refine aw_cV_i (st := [.int x6, .int 1, .int y4, .ref x5]) [.int y3] wV_RX0_47 (ci := 0) rfl (fun xr er => c_X0_foundNight g h4 y0 y3 xr er) dX0_restingPairs_59 rfl rfl (Nat.le_of_ble_eq_true rfl) (Nat.le_of_ble_eq_true rfl) (Nat.le_of_ble_eq_true rfl) (Nat.le_of_ble_eq_true rfl) hf (fun x7 hf => ?_)
          refine aw_cS_i (st := [.int 1, .int y4, .ref x5]) [.int x6, .int x7] wi_RX0_60 (fun x e => c_icmp g h4 x6 x7 x e) dX0_restingPairs_62 rfl rfl (Nat.le_of_ble_eq_true rfl) (Nat.le_of_ble_eq_true rfl) (Nat.le_of_ble_eq_true rfl) (Nat.le_of_ble_eq_true rfl) hf (fun x8 hf => ?_)
          refine aw_isub dX0_restingPairs_65 ?_
          refine aw_stI dX0_restingPairs_66 hf (fun h9 hf => ?_)
          refine aw_iinc (y4 + 1) [(4, .int (y4 + 1)), (0, .ref y0), (1, .ref y1), (2, .int y2), (3, .int y3)] 4 dX0_restingPairs_67 rfl rfl (Nat.le_of_ble_eq_true rfl) rfl ?_
          refine aw_goto (tgt := 3) dX0_restingPairs_70 rfl ?_
          refine aw_pick [1, 2, 3, 4, 0] rfl ?_
          exact ih h9 y0 y1 y2 y3 (y4 + 1) ho hf kk
        · refine aw_if_eq (tgt := 34) dX0_restingPairs_27 rfl (fun hc => ?_) (fun hc => ?_)
          · have hf := itp0 hc hf
            refine aw_iconst (v := (-1)) dX0_restingPairs_34 rfl ?_
            obtain rfl := so1 hf
            exact aw_pick [0, 1, 2, 3, 4] rfl hJ35
          · have hf := itn0 hc hf
            refine aw_iload_n 3 dX0_restingPairs_30 rfl ?_
            refine aw_goto (tgt := 35) dX0_restingPairs_31 rfl ?_
            obtain rfl := so1 hf
            exact aw_pick [0, 1, 2, 3, 4] rfl hJ35
      · refine aw_if_eq (tgt := 22) dX0_restingPairs_15 rfl (fun hc => ?_) (fun hc => ?_)
        · have hf := itp0 hc hf
          refine aw_iconst (v := (-1)) dX0_restingPairs_22 rfl ?_
          obtain rfl := so1 hf
          exact aw_pick [0, 1, 2, 3, 4] rfl hJ23
        · have hf := itn0 hc hf
          refine aw_iload_n 2 dX0_restingPairs_18 rfl ?_
          refine aw_goto (tgt := 23) dX0_restingPairs_19 rfl ?_
          obtain rfl := so1 hf
          exact aw_pick [0, 1, 2, 3, 4] rfl hJ23
set_option maxRecDepth 100000 in
set_option maxHeartbeats 4000000 in
theorem l_X0_restingPairs_79 (g : Gx) {res : Option Value × Hea} : ∀ (n : Nat) (h : Hea) (y0 : Nat) (y4 : Int32) (y5 : Int32) (o4 : Int32) (hf : f_X0_restingPairs_79 n h y0 y4 y5 = some o4) (kk : AW g RX0 cX0_restingPairs (6, some .int, "restingPairs", 5, 0, 0) res 138 [(4, .int o4)] [] h 0 0), AW g RX0 cX0_restingPairs (6, some .int, "restingPairs", 5, 0, 0) res 79 [(0, .ref y0), (4, .int y4), (5, .int y5)] [] h 0 0 := by
  intro n
  induction n with
  | zero =>
    intro h y0 y4 y5 o4 hf kk
    rw [f_X0_restingPairs_79] at hf
    cases hf
  | succ n ih =>
    intro h y0 y4 y5 o4 hf kk
    rw [f_X0_restingPairs_79] at hf
    refine aw_iload 2 dX0_restingPairs_79 rfl ?_
    refine aw_iconst (v := 4) dX0_restingPairs_81 rfl ?_
    refine aw_icmp_ge (tgt := 138) dX0_restingPairs_82 rfl (fun hc => ?_) (fun hc => ?_)
    · have hf := itp0 hc hf
      obtain rfl := so1 hf
      exact aw_pick [1] rfl kk
    · have hf := itn0 hc hf
      refine aw_aload_n 0 dX0_restingPairs_85 rfl ?_
      refine aw_gR fl_RX0_18 dX0_restingPairs_86 hf (fun x1 hf => ?_)
      refine aw_iload 2 dX0_restingPairs_89 rfl ?_
      refine aw_ldI dX0_restingPairs_91 hf (fun x2 hf => ?_)
      refine aw_aload_n 0 dX0_restingPairs_92 rfl ?_
      refine aw_gR fl_RX0_18 dX0_restingPairs_93 hf (fun x3 hf => ?_)
      refine aw_iload 2 dX0_restingPairs_96 rfl ?_
      refine aw_iconst (v := 1) dX0_restingPairs_98 rfl ?_
      refine aw_ixor dX0_restingPairs_99 ?_
      refine aw_ldI dX0_restingPairs_100 hf (fun x4 hf => ?_)
      refine reg1 (fun (v5 : Int32) => AW g RX0 cX0_restingPairs (6, some .int, "restingPairs", 5, 0, 0) res 132 [(0, .ref y0), (4, .int v5), (5, .int y5)] [] h 0 0) hf (fun v5 hf => ?_) (fun v5 hf hJ132 => ?_)
      · refine aw_iinc (y5 + 1) [(5, .int (y5 + 1)), (0, .ref y0), (4, .int v5)] 2 dX0_restingPairs_132 rfl rfl (Nat.le_of_ble_eq_true rfl) rfl ?_
        refine aw_goto (tgt := 79) dX0_restingPairs_135 rfl ?_
        refine aw_pick [1, 2, 0] rfl ?_
        exact ih h y0 v5 (y5 + 1) o4 hf kk
      · refine aw_icmp_lt (tgt := 132) dX0_restingPairs_101 rfl (fun hc => ?_) (fun hc => ?_)
        · have hf := itp0 hc hf
          obtain rfl := so1 hf
          exact aw_pick [0, 1, 2] rfl hJ132
        · have hf := itn0 hc hf
          refine aw_aload_n 0 dX0_restingPairs_104 rfl ?_
          refine aw_gR fl_RX0_18 dX0_restingPairs_105 hf (fun x6 hf => ?_)
          refine aw_iload 2 dX0_restingPairs_108 rfl ?_
          refine aw_ldI dX0_restingPairs_110 hf (fun x7 hf => ?_)
          refine aw_aload_n 0 dX0_restingPairs_111 rfl ?_
          refine aw_gR fl_RX0_18 dX0_restingPairs_112 hf (fun x8 hf => ?_)
          refine aw_iload 2 dX0_restingPairs_115 rfl ?_
          refine aw_iconst (v := 2) dX0_restingPairs_117 rfl ?_
          refine aw_ixor dX0_restingPairs_118 ?_
          refine aw_ldI dX0_restingPairs_119 hf (fun x9 hf => ?_)
          refine aw_icmp_gt (tgt := 132) dX0_restingPairs_120 rfl (fun hc => ?_) (fun hc => ?_)
          · have hf := itp0 hc hf
            obtain rfl := so1 hf
            exact aw_pick [0, 1, 2] rfl hJ132
          · have hf := itn0 hc hf
            refine aw_iload 1 dX0_restingPairs_123 rfl ?_
            refine aw_iconst (v := 1) dX0_restingPairs_125 rfl ?_
            refine aw_iload 2 dX0_restingPairs_126 rfl ?_
            refine aw_ishl dX0_restingPairs_128 ?_
            refine aw_ior dX0_restingPairs_129 ?_
            refine aw_istore [(4, .int (y4 ||| ((1 : Int32) <<< (y5 &&& 31)))), (0, .ref y0), (5, .int y5)] dX0_restingPairs_130 (Nat.le_of_ble_eq_true rfl) rfl ?_
            obtain rfl := so1 hf
            exact aw_pick [1, 0, 2] rfl hJ132
set_option maxRecDepth 100000 in
set_option maxHeartbeats 4000000 in
theorem c_X0_restingPairs (g : Gx) (h : Hea) (a0 : Nat) (a1 : Nat) (a2 : Int32) (a3 : Int32) (o : Int32) (hz : Hea) (hf : f_X0_restingPairs h a0 a1 a2 a3 = some (o, hz)) : MC g yX0_restingPairs cX0_restingPairs 6 (some .int) 5 0 0 [.ref a0, .ref a1, .int a2, .int a3] h (some (.int o), hz) := by
  refine MC_of (own := RX0) (nm := "restingPairs") [(0, .ref a0), (1, .ref a1), (2, .int a2), (3, .int a3)] rfl rfl pn_RX0 (Nat.le_of_ble_eq_true rfl) rfl ?_
  rw [f_X0_restingPairs] at hf
  refine aw_iconst (v := 0) dX0_restingPairs_0 rfl ?_
  refine aw_istore [(4, .int 0), (0, .ref a0), (1, .ref a1), (2, .int a2), (3, .int a3)] dX0_restingPairs_1 (Nat.le_of_ble_eq_true rfl) rfl ?_
  refine aw_pick [1, 2, 3, 4, 0] rfl ?_
  refine reg1 (fun (h1 : Hea) => AW g RX0 cX0_restingPairs (6, some .int, "restingPairs", 5, 0, 0) (some (.int o), hz) 73 [(0, .ref a0)] [] h1 0 0) hf (fun h1 hf => ?_) (fun h1 hf hJ => l_X0_restingPairs_3 g  lots h a0 a1 a2 a3 0 h1 hf hJ)
  refine aw_iconst (v := 0) dX0_restingPairs_73 rfl ?_
  refine aw_istore [(4, .int 0), (0, .ref a0)] dX0_restingPairs_74 (Nat.le_of_ble_eq_true rfl) rfl ?_
  refine aw_iconst (v := 0) dX0_restingPairs_76 rfl ?_
  refine aw_istore [(5, .int 0), (4, .int 0), (0, .ref a0)] dX0_restingPairs_77 (Nat.le_of_ble_eq_true rfl) rfl ?_
  refine aw_pick [2, 1, 0] rfl ?_
  refine reg1 (fun (v2 : Int32) => AW g RX0 cX0_restingPairs (6, some .int, "restingPairs", 5, 0, 0) (some (.int o), hz) 138 [(4, .int v2)] [] h1 0 0) hf (fun v2 hf => ?_) (fun v2 hf hJ => l_X0_restingPairs_79 g  lots h1 a0 0 0 v2 hf hJ)
  refine aw_iload 0 dX0_restingPairs_138 rfl ?_
  obtain ⟨rfl, rfl⟩ := so2 hf
  exact aw_iret dX0_restingPairs_140 rfl rfl
set_option maxRecDepth 100000 in
set_option maxHeartbeats 4000000 in
theorem c_X7_choose (g : Gx) (h : Hea) (a0 : Nat) (a1 : Int32) (a2 : Int32) (o : Int32) (hz : Hea) (hf : f_X7_choose h a0 a1 a2 = some (o, hz)) : MC g yX7_choose cX7_choose 3 (some .int) 6 0 0 [.ref a0, .int a1, .int a2] h (some (.int o), hz) := by
  refine MC_of (own := RX7) (nm := "choose") [(0, .ref a0), (1, .int a1), (2, .int a2)] rfl rfl pn_RX7 (Nat.le_of_ble_eq_true rfl) rfl ?_
  rw [f_X7_choose] at hf
  refine aw_aload_n 0 dX7_choose_0 rfl ?_
  refine aw_iload_n 1 dX7_choose_1 rfl ?_
  refine aw_cV_i (st := []) [.int a1] wV_RX7_148 (ci := 7) rfl (fun xr er => c_X7_isHeir g h a0 a1 xr er) dX7_choose_2 rfl rfl (Nat.le_of_ble_eq_true rfl) (Nat.le_of_ble_eq_true rfl) (Nat.le_of_ble_eq_true rfl) (Nat.le_of_ble_eq_true rfl) hf (fun x1 hf => ?_)
  refine aw_if_eq (tgt := 21) dX7_choose_5 rfl (fun hc => ?_) (fun hc => ?_)
  · have hf := itp0 hc hf
    refine aw_aload_n 0 dX7_choose_21 rfl ?_
    refine aw_cV_wi (st := []) [] wV_RX7_94 (ci := 7) rfl (fun xr hr er => c_X7_refuseBad g h a0 xr hr er) dX7_choose_22 rfl rfl (Nat.le_of_ble_eq_true rfl) (Nat.le_of_ble_eq_true rfl) (Nat.le_of_ble_eq_true rfl) (Nat.le_of_ble_eq_true rfl) hf (fun x2 h3 hf => ?_)
    obtain ⟨rfl, rfl⟩ := so2 hf
    exact aw_iret dX7_choose_25 rfl rfl
  · have hf := itn0 hc hf
    refine aw_aload_n 0 dX7_choose_8 rfl ?_
    refine aw_iload_n 2 dX7_choose_9 rfl ?_
    refine aw_cV_i (st := []) [.int a2] wV_RX7_148 (ci := 7) rfl (fun xr er => c_X7_isHeir g h a0 a2 xr er) dX7_choose_10 rfl rfl (Nat.le_of_ble_eq_true rfl) (Nat.le_of_ble_eq_true rfl) (Nat.le_of_ble_eq_true rfl) (Nat.le_of_ble_eq_true rfl) hf (fun x4 hf => ?_)
    refine aw_if_eq (tgt := 21) dX7_choose_13 rfl (fun hc => ?_) (fun hc => ?_)
    · have hf := itp0 hc hf
      refine aw_aload_n 0 dX7_choose_21 rfl ?_
      refine aw_cV_wi (st := []) [] wV_RX7_94 (ci := 7) rfl (fun xr hr er => c_X7_refuseBad g h a0 xr hr er) dX7_choose_22 rfl rfl (Nat.le_of_ble_eq_true rfl) (Nat.le_of_ble_eq_true rfl) (Nat.le_of_ble_eq_true rfl) (Nat.le_of_ble_eq_true rfl) hf (fun x5 h6 hf => ?_)
      obtain ⟨rfl, rfl⟩ := so2 hf
      exact aw_iret dX7_choose_25 rfl rfl
    · have hf := itn0 hc hf
      refine aw_iload_n 1 dX7_choose_16 rfl ?_
      refine aw_iload_n 2 dX7_choose_17 rfl ?_
      refine aw_icmp_ne (tgt := 26) dX7_choose_18 rfl (fun hc => ?_) (fun hc => ?_)
      · have hf := itn0 hc hf
        refine aw_aload_n 0 dX7_choose_26 rfl ?_
        refine aw_iload_n 1 dX7_choose_27 rfl ?_
        refine aw_cV_i (st := []) [.int a1] wV_RX7_227 (ci := 7) rfl (fun xr er => c_X7_isIn g h a0 a1 xr er) dX7_choose_28 rfl rfl (Nat.le_of_ble_eq_true rfl) (Nat.le_of_ble_eq_true rfl) (Nat.le_of_ble_eq_true rfl) (Nat.le_of_ble_eq_true rfl) hf (fun x7 hf => ?_)
        refine aw_if_eq (tgt := 42) dX7_choose_31 rfl (fun hc => ?_) (fun hc => ?_)
        · have hf := itp0 hc hf
          refine aw_aload_n 0 dX7_choose_42 rfl ?_
          refine aw_cV_wi (st := []) [] wV_RX7_166 (ci := 7) rfl (fun xr hr er => c_X7_refuseNo g h a0 xr hr er) dX7_choose_43 rfl rfl (Nat.le_of_ble_eq_true rfl) (Nat.le_of_ble_eq_true rfl) (Nat.le_of_ble_eq_true rfl) (Nat.le_of_ble_eq_true rfl) hf (fun x8 h9 hf => ?_)
          obtain ⟨rfl, rfl⟩ := so2 hf
          exact aw_iret dX7_choose_46 rfl rfl
        · have hf := itn0 hc hf
          refine aw_aload_n 0 dX7_choose_34 rfl ?_
          refine aw_iload_n 2 dX7_choose_35 rfl ?_
          refine aw_cV_i (st := []) [.int a2] wV_RX7_227 (ci := 7) rfl (fun xr er => c_X7_isIn g h a0 a2 xr er) dX7_choose_36 rfl rfl (Nat.le_of_ble_eq_true rfl) (Nat.le_of_ble_eq_true rfl) (Nat.le_of_ble_eq_true rfl) (Nat.le_of_ble_eq_true rfl) hf (fun x10 hf => ?_)
          refine aw_if_ne (tgt := 47) dX7_choose_39 rfl (fun hc => ?_) (fun hc => ?_)
          · have hf := itn0 hc hf
            refine aw_aload_n 0 dX7_choose_47 rfl ?_
            refine aw_gR fl_RX7_41 dX7_choose_48 hf (fun x11 hf => ?_)
            refine aw_aload_n 0 dX7_choose_51 rfl ?_
            refine aw_gR fl_RX7_10 dX7_choose_52 hf (fun x12 hf => ?_)
            refine aw_iload_n 1 dX7_choose_55 rfl ?_
            refine aw_iload_n 2 dX7_choose_56 rfl ?_
            refine aw_cV_wi (st := []) [.ref x12, .int a1, .int a2] wV_RX7_244 (ci := 0) rfl (fun xr hr er => c_X0_restingPairs g h x11 x12 a1 a2 xr hr er) dX7_choose_57 rfl rfl (Nat.le_of_ble_eq_true rfl) (Nat.le_of_ble_eq_true rfl) (Nat.le_of_ble_eq_true rfl) (Nat.le_of_ble_eq_true rfl) hf (fun x13 h14 hf => ?_)
            obtain ⟨rfl, rfl⟩ := so2 hf
            exact aw_iret dX7_choose_60 rfl rfl
          · have hf := itp0 hc hf
            refine aw_aload_n 0 dX7_choose_42 rfl ?_
            refine aw_cV_wi (st := []) [] wV_RX7_166 (ci := 7) rfl (fun xr hr er => c_X7_refuseNo g h a0 xr hr er) dX7_choose_43 rfl rfl (Nat.le_of_ble_eq_true rfl) (Nat.le_of_ble_eq_true rfl) (Nat.le_of_ble_eq_true rfl) (Nat.le_of_ble_eq_true rfl) hf (fun x15 h16 hf => ?_)
            obtain ⟨rfl, rfl⟩ := so2 hf
            exact aw_iret dX7_choose_46 rfl rfl
      · have hf := itp0 hc hf
        refine aw_aload_n 0 dX7_choose_21 rfl ?_
        refine aw_cV_wi (st := []) [] wV_RX7_94 (ci := 7) rfl (fun xr hr er => c_X7_refuseBad g h a0 xr hr er) dX7_choose_22 rfl rfl (Nat.le_of_ble_eq_true rfl) (Nat.le_of_ble_eq_true rfl) (Nat.le_of_ble_eq_true rfl) (Nat.le_of_ble_eq_true rfl) hf (fun x17 h18 hf => ?_)
        obtain ⟨rfl, rfl⟩ := so2 hf
        exact aw_iret dX7_choose_25 rfl rfl
set_option maxRecDepth 100000 in
set_option maxHeartbeats 4000000 in
theorem l_X0_leastHidden_6 (g : Gx) {res : Option Value × Hea} : ∀ (n : Nat) (h : Hea) (y0 : Nat) (y1 : Nat) (y2 : Int32) (y3 : Int32) (y4 : Int32) (o3 : Int32) (hf : f_X0_leastHidden_6 n h y0 y1 y2 y3 y4 = some o3) (kk : AW g RX0 cX0_leastHidden (5, some .int, "leastHidden", 2, 0, 0) res 46 [(3, .int o3)] [] h 0 0), AW g RX0 cX0_leastHidden (5, some .int, "leastHidden", 2, 0, 0) res 6 [(0, .ref y0), (1, .ref y1), (2, .int y2), (3, .int y3), (4, .int y4)] [] h 0 0 := by
  intro n
  induction n with
  | zero =>
    intro h y0 y1 y2 y3 y4 o3 hf kk
    rw [f_X0_leastHidden_6] at hf
    cases hf
  | succ n ih =>
    intro h y0 y1 y2 y3 y4 o3 hf kk
    rw [f_X0_leastHidden_6] at hf
    refine aw_iload 4 dX0_leastHidden_6 rfl ?_
    refine aw_aload_n 1 dX0_leastHidden_8 rfl ?_
    refine aw_gI fl_RX0_99 dX0_leastHidden_9 hf (fun x1 hf => ?_)
    refine aw_icmp_ge (tgt := 46) dX0_leastHidden_12 rfl (fun hc => ?_) (fun hc => ?_)
    · have hf := itp0 hc hf
      obtain rfl := so1 hf
      exact aw_pick [3] rfl kk
    · have hf := itn0 hc hf
      refine aw_iload_n 2 dX0_leastHidden_15 rfl ?_
      refine aw_iload 4 dX0_leastHidden_16 rfl ?_
      refine aw_ishr dX0_leastHidden_18 ?_
      refine aw_iconst (v := 1) dX0_leastHidden_19 rfl ?_
      refine aw_iand dX0_leastHidden_20 ?_
      refine aw_iconst (v := 1) dX0_leastHidden_21 rfl ?_
      refine reg1 (fun (v2 : Int32) => AW g RX0 cX0_leastHidden (5, some .int, "leastHidden", 2, 0, 0) res 40 [(0, .ref y0), (1, .ref y1), (2, .int y2), (3, .int v2), (4, .int y4)] [] h 0 0) hf (fun v2 hf => ?_) (fun v2 hf hJ40 => ?_)
      · refine aw_iinc (y4 + 1) [(4, .int (y4 + 1)), (0, .ref y0), (1, .ref y1), (2, .int y2), (3, .int v2)] 4 dX0_leastHidden_40 rfl rfl (Nat.le_of_ble_eq_true rfl) rfl ?_
        refine aw_goto (tgt := 6) dX0_leastHidden_43 rfl ?_
        refine aw_pick [1, 2, 3, 4, 0] rfl ?_
        exact ih h y0 y1 y2 v2 (y4 + 1) o3 hf kk
      · refine aw_icmp_ne (tgt := 40) dX0_leastHidden_22 rfl (fun hc => ?_) (fun hc => ?_)
        · have hf := itn0 hc hf
          obtain rfl := so1 hf
          exact aw_pick [0, 1, 2, 3, 4] rfl hJ40
        · have hf := itp0 hc hf
          refine aw_iload_n 3 dX0_leastHidden_25 rfl ?_
          refine aw_aload_n 1 dX0_leastHidden_26 rfl ?_
          refine aw_aload_n 0 dX0_leastHidden_27 rfl ?_
          refine aw_gR fl_RX0_12 dX0_leastHidden_28 hf (fun x3 hf => ?_)
          refine aw_iload 4 dX0_leastHidden_31 rfl ?_
          refine aw_cV_i (st := [.int y3]) [.ref x3, .int y4] wV_RX0_84 (ci := 1) rfl (fun xr er => c_X1_hidden g h y1 x3 y4 xr er) dX0_leastHidden_33 rfl rfl (Nat.le_of_ble_eq_true rfl) (Nat.le_of_ble_eq_true rfl) (Nat.le_of_ble_eq_true rfl) (Nat.le_of_ble_eq_true rfl) hf (fun x4 hf => ?_)
          refine aw_mmin km_RX0_96 dX0_leastHidden_36 (Nat.le_of_ble_eq_true rfl) (Nat.le_of_ble_eq_true rfl) (Nat.le_of_ble_eq_true rfl) (Nat.le_of_ble_eq_true rfl) ?_
          refine aw_istore_n [(3, .int (if x4 < y3 then x4 else y3)), (0, .ref y0), (1, .ref y1), (2, .int y2), (4, .int y4)] dX0_leastHidden_39 (Nat.le_of_ble_eq_true rfl) rfl ?_
          obtain rfl := so1 hf
          exact aw_pick [1, 2, 3, 0, 4] rfl hJ40
set_option maxRecDepth 100000 in
set_option maxHeartbeats 4000000 in
theorem c_X0_leastHidden (g : Gx) (h : Hea) (a0 : Nat) (a1 : Nat) (a2 : Int32) (o : Int32) (hf : f_X0_leastHidden h a0 a1 a2 = some o) : MC g yX0_leastHidden cX0_leastHidden 5 (some .int) 2 0 0 [.ref a0, .ref a1, .int a2] h (some (.int o), h) := by
  refine MC_of (own := RX0) (nm := "leastHidden") [(0, .ref a0), (1, .ref a1), (2, .int a2)] rfl rfl pn_RX0 (Nat.le_of_ble_eq_true rfl) rfl ?_
  rw [f_X0_leastHidden] at hf
  refine aw_ldc (v := 2147483647) kc_RX0_39 dX0_leastHidden_0 ?_
  refine aw_istore_n [(3, .int 2147483647), (0, .ref a0), (1, .ref a1), (2, .int a2)] dX0_leastHidden_2 (Nat.le_of_ble_eq_true rfl) rfl ?_
  refine aw_iconst (v := 0) dX0_leastHidden_3 rfl ?_
  refine aw_istore [(4, .int 0), (3, .int 2147483647), (0, .ref a0), (1, .ref a1), (2, .int a2)] dX0_leastHidden_4 (Nat.le_of_ble_eq_true rfl) rfl ?_
  refine aw_pick [2, 3, 4, 1, 0] rfl ?_
  refine reg1 (fun (v1 : Int32) => AW g RX0 cX0_leastHidden (5, some .int, "leastHidden", 2, 0, 0) (some (.int o), h) 46 [(3, .int v1)] [] h 0 0) hf (fun v1 hf => ?_) (fun v1 hf hJ => l_X0_leastHidden_6 g  lots h a0 a1 a2 2147483647 0 v1 hf hJ)
  refine aw_iload_n 0 dX0_leastHidden_46 rfl ?_
  obtain rfl := so1 hf
  exact aw_iret dX0_leastHidden_47 rfl rfl
set_option maxRecDepth 100000 in
set_option maxHeartbeats 4000000 in
theorem l_X0_luckyEyes_20 (g : Gx) {res : Option Value × Hea} : ∀ (n : Nat) (h : Hea) (y0 : Nat) (y1 : Nat) (y2 : Int32) (y3 : Int32) (y4 : Int32) (y5 : Int32) (o4 : Int32) (ho : Hea) (hf : f_X0_luckyEyes_20 n h y0 y1 y2 y3 y4 y5 = some (o4, ho)) (kk : AW g RX0 cX0_luckyEyes (7, some .int, "luckyEyes", 4, 0, 0) res 107 [(4, .int o4)] [] ho 0 0), AW g RX0 cX0_luckyEyes (7, some .int, "luckyEyes", 4, 0, 0) res 20 [(0, .ref y0), (1, .ref y1), (2, .int y2), (3, .int y3), (4, .int y4), (5, .int y5)] [] h 0 0 := by
  intro n
  induction n with
  | zero =>
    intro h y0 y1 y2 y3 y4 y5 o4 ho hf kk
    rw [f_X0_luckyEyes_20] at hf
    cases hf
  | succ n ih =>
    intro h y0 y1 y2 y3 y4 y5 o4 ho hf kk
    rw [f_X0_luckyEyes_20] at hf
    refine aw_iload 5 dX0_luckyEyes_20 rfl ?_
    refine aw_bipush (v := 60) dX0_luckyEyes_22 rfl ?_
    refine aw_icmp_ge (tgt := 107) dX0_luckyEyes_24 rfl (fun hc => ?_) (fun hc => ?_)
    · have hf := itp0 hc hf
      obtain ⟨rfl, rfl⟩ := so2 hf
      exact aw_pick [4] rfl kk
    · have hf := itn0 hc hf
      refine aw_iload_n 3 dX0_luckyEyes_27 rfl ?_
      refine aw_if_le (tgt := 107) dX0_luckyEyes_28 rfl (fun hc => ?_) (fun hc => ?_)
      · have hf := itp0 hc hf
        obtain ⟨rfl, rfl⟩ := so2 hf
        exact aw_pick [4] rfl kk
      · have hf := itn0 hc hf
        refine aw_aload_n 1 dX0_luckyEyes_31 rfl ?_
        refine aw_aload_n 0 dX0_luckyEyes_32 rfl ?_
        refine aw_gR fl_RX0_12 dX0_luckyEyes_33 hf (fun x1 hf => ?_)
        refine aw_aload_n 1 dX0_luckyEyes_36 rfl ?_
        refine aw_aload_n 0 dX0_luckyEyes_37 rfl ?_
        refine aw_gR fl_RX0_12 dX0_luckyEyes_38 hf (fun x2 hf => ?_)
        refine aw_cV_i (st := [.ref x1, .ref y1]) [.ref x2] wV_RX0_77 (ci := 1) rfl (fun xr er => c_X1_goingOut g h y1 x2 xr er) dX0_luckyEyes_41 rfl rfl (Nat.le_of_ble_eq_true rfl) (Nat.le_of_ble_eq_true rfl) (Nat.le_of_ble_eq_true rfl) (Nat.le_of_ble_eq_true rfl) hf (fun x3 hf => ?_)
        refine aw_cV_i (st := []) [.ref x1, .int x3] wV_RX0_81 (ci := 1) rfl (fun xr er => c_X1_inSight g h y1 x1 x3 xr er) dX0_luckyEyes_44 rfl rfl (Nat.le_of_ble_eq_true rfl) (Nat.le_of_ble_eq_true rfl) (Nat.le_of_ble_eq_true rfl) (Nat.le_of_ble_eq_true rfl) hf (fun x4 hf => ?_)
        refine aw_istore [(6, .int x4), (0, .ref y0), (1, .ref y1), (2, .int y2), (3, .int y3), (4, .int y4), (5, .int y5)] dX0_luckyEyes_47 (Nat.le_of_ble_eq_true rfl) rfl ?_
        refine aw_iload 0 dX0_luckyEyes_49 rfl ?_
        refine aw_iload_n 3 dX0_luckyEyes_51 rfl ?_
        refine aw_ishr dX0_luckyEyes_52 ?_
        refine aw_iconst (v := 1) dX0_luckyEyes_53 rfl ?_
        refine aw_iand dX0_luckyEyes_54 ?_
        refine aw_iconst (v := 1) dX0_luckyEyes_55 rfl ?_
        refine reg1 (fun (v5 : Int32) => AW g RX0 cX0_luckyEyes (7, some .int, "luckyEyes", 4, 0, 0) res 79 [(0, .ref y0), (1, .ref y1), (2, .int y2), (3, .int y3), (4, .int v5), (5, .int y5), (6, .int x4)] [] h 0 0) hf (fun v5 hf => ?_) (fun v5 hf hJ79 => ?_)
        · refine aw_iload_n 3 dX0_luckyEyes_79 rfl ?_
          refine aw_aload_n 0 dX0_luckyEyes_80 rfl ?_
          refine aw_aload_n 1 dX0_luckyEyes_81 rfl ?_
          refine aw_iload 6 dX0_luckyEyes_82 rfl ?_
          refine aw_cV_i (st := [.int y3]) [.ref y1, .int x4] wV_RX0_92 (ci := 0) rfl (fun xr er => c_X0_leastHidden g h y0 y1 x4 xr er) dX0_luckyEyes_84 rfl rfl (Nat.le_of_ble_eq_true rfl) (Nat.le_of_ble_eq_true rfl) (Nat.le_of_ble_eq_true rfl) (Nat.le_of_ble_eq_true rfl) hf (fun x8 hf => ?_)
          refine aw_mmin km_RX0_96 dX0_luckyEyes_87 (Nat.le_of_ble_eq_true rfl) (Nat.le_of_ble_eq_true rfl) (Nat.le_of_ble_eq_true rfl) (Nat.le_of_ble_eq_true rfl) ?_
          refine aw_istore_n [(3, .int (if x8 < y3 then x8 else y3)), (0, .ref y0), (1, .ref y1), (2, .int y2), (4, .int v5), (5, .int y5), (6, .int x4)] dX0_luckyEyes_90 (Nat.le_of_ble_eq_true rfl) rfl ?_
          refine aw_aload_n 2 dX0_luckyEyes_91 rfl ?_
          refine aw_aload_n 1 dX0_luckyEyes_92 rfl ?_
          refine aw_gR fl_RX0_12 dX0_luckyEyes_93 hf (fun x9 hf => ?_)
          refine aw_iconst (v := 0) dX0_luckyEyes_96 rfl ?_
          refine aw_cV_wi (st := []) [.ref x9, .int 0] wV_RX0_35 (ci := 1) rfl (fun xr hr er => c_X1_runNight g h y1 x9 0 xr hr er) dX0_luckyEyes_97 rfl rfl (Nat.le_of_ble_eq_true rfl) (Nat.le_of_ble_eq_true rfl) (Nat.le_of_ble_eq_true rfl) (Nat.le_of_ble_eq_true rfl) hf (fun x10 h11 hf => ?_)
          refine aw_pop dX0_luckyEyes_100 rfl ?_
          refine aw_iinc (y5 + 1) [(5, .int (y5 + 1)), (3, .int (if x8 < y3 then x8 else y3)), (0, .ref y0), (1, .ref y1), (2, .int y2), (4, .int v5), (6, .int x4)] 5 dX0_luckyEyes_101 rfl rfl (Nat.le_of_ble_eq_true rfl) rfl ?_
          refine aw_goto (tgt := 20) dX0_luckyEyes_104 rfl ?_
          refine aw_pick [2, 3, 4, 1, 5, 0] rfl ?_
          exact ih h11 y0 y1 y2 (if x8 < y3 then x8 else y3) v5 (y5 + 1) o4 ho hf kk
        · refine aw_icmp_ne (tgt := 79) dX0_luckyEyes_56 rfl (fun hc => ?_) (fun hc => ?_)
          · have hf := itn0 hc hf
            obtain rfl := so1 hf
            exact aw_pick [1, 2, 3, 4, 5, 6, 0] rfl hJ79
          · have hf := itp0 hc hf
            refine aw_iload 5 dX0_luckyEyes_59 rfl ?_
            refine aw_iconst (v := 0) dX0_luckyEyes_61 rfl ?_
            refine aw_iload_n 4 dX0_luckyEyes_62 rfl ?_
            refine aw_aload_n 2 dX0_luckyEyes_63 rfl ?_
            refine aw_aload_n 1 dX0_luckyEyes_64 rfl ?_
            refine aw_gR fl_RX0_12 dX0_luckyEyes_65 hf (fun x6 hf => ?_)
            refine aw_iload_n 3 dX0_luckyEyes_68 rfl ?_
            refine aw_cV_i (st := [.int y3, .int 0, .int y4]) [.ref x6, .int y2] wV_RX0_84 (ci := 1) rfl (fun xr er => c_X1_hidden g h y1 x6 y2 xr er) dX0_luckyEyes_69 rfl rfl (Nat.le_of_ble_eq_true rfl) (Nat.le_of_ble_eq_true rfl) (Nat.le_of_ble_eq_true rfl) (Nat.le_of_ble_eq_true rfl) hf (fun x7 hf => ?_)
            refine aw_isub dX0_luckyEyes_72 ?_
            refine aw_mmax km_RX0_87 dX0_luckyEyes_73 (Nat.le_of_ble_eq_true rfl) (Nat.le_of_ble_eq_true rfl) (Nat.le_of_ble_eq_true rfl) (Nat.le_of_ble_eq_true rfl) ?_
            refine aw_iadd dX0_luckyEyes_76 ?_
            refine aw_istore [(4, .int (y4 + (if 0 < y3 - x7 then y3 - x7 else 0))), (6, .int x4), (0, .ref y0), (1, .ref y1), (2, .int y2), (3, .int y3), (5, .int y5)] dX0_luckyEyes_77 (Nat.le_of_ble_eq_true rfl) rfl ?_
            obtain rfl := so1 hf
            exact aw_pick [2, 3, 4, 5, 0, 6, 1] rfl hJ79
set_option maxRecDepth 100000 in
set_option maxHeartbeats 4000000 in
theorem c_X0_luckyEyes (g : Gx) (h : Hea) (a0 : Nat) (a1 : Nat) (a2 : Int32) (o : Int32) (hz : Hea) (hf : f_X0_luckyEyes h a0 a1 a2 = some (o, hz)) : MC g yX0_luckyEyes cX0_luckyEyes 7 (some .int) 4 0 0 [.ref a0, .ref a1, .int a2] h (some (.int o), hz) := by
  refine MC_of (own := RX0) (nm := "luckyEyes") [(0, .ref a0), (1, .ref a1), (2, .int a2)] rfl rfl pn_RX0 (Nat.le_of_ble_eq_true rfl) rfl ?_
  rw [f_X0_luckyEyes] at hf
  refine aw_aload_n 0 dX0_luckyEyes_0 rfl ?_
  refine aw_gR fl_RX0_12 dX0_luckyEyes_1 hf (fun x1 hf => ?_)
  refine aw_aload_n 1 dX0_luckyEyes_4 rfl ?_
  refine aw_gR fl_RX0_22 dX0_luckyEyes_5 hf (fun x2 hf => ?_)
  refine aw_cV_v (st := []) [.ref x2] wV_RX0_27 (ci := 3) rfl (fun hr er => c_X3_take g h x1 x2 hr er) dX0_luckyEyes_8 rfl rfl (Nat.le_of_ble_eq_true rfl) (Nat.le_of_ble_eq_true rfl) (Nat.le_of_ble_eq_true rfl) (Nat.le_of_ble_eq_true rfl) hf (fun h3 hf => ?_)
  refine aw_bipush (v := 25) dX0_luckyEyes_11 rfl ?_
  refine aw_istore_n [(3, .int 25), (0, .ref a0), (1, .ref a1), (2, .int a2)] dX0_luckyEyes_13 (Nat.le_of_ble_eq_true rfl) rfl ?_
  refine aw_iconst (v := 0) dX0_luckyEyes_14 rfl ?_
  refine aw_istore [(4, .int 0), (3, .int 25), (0, .ref a0), (1, .ref a1), (2, .int a2)] dX0_luckyEyes_15 (Nat.le_of_ble_eq_true rfl) rfl ?_
  refine aw_iconst (v := 0) dX0_luckyEyes_17 rfl ?_
  refine aw_istore [(5, .int 0), (4, .int 0), (3, .int 25), (0, .ref a0), (1, .ref a1), (2, .int a2)] dX0_luckyEyes_18 (Nat.le_of_ble_eq_true rfl) rfl ?_
  refine aw_pick [3, 4, 5, 2, 1, 0] rfl ?_
  refine reg2 (fun (v4 : Int32) (h5 : Hea) => AW g RX0 cX0_luckyEyes (7, some .int, "luckyEyes", 4, 0, 0) (some (.int o), hz) 107 [(4, .int v4)] [] h5 0 0) hf (fun v4 h5 hf => ?_) (fun v4 h5 hf hJ => l_X0_luckyEyes_20 g  lots h3 a0 a1 a2 25 0 0 v4 h5 hf hJ)
  refine aw_iload 0 dX0_luckyEyes_107 rfl ?_
  obtain ⟨rfl, rfl⟩ := so2 hf
  exact aw_iret dX0_luckyEyes_109 rfl rfl
set_option maxRecDepth 100000 in
set_option maxHeartbeats 4000000 in
theorem l_X7_greatestShared_11 (g : Gx) {res : Option Value × Hea} : ∀ (n : Nat) (h : Hea) (y2 : Int32) (y3 : Int32) (y4 : Int32) (o2 : Int32) (hf : f_X7_greatestShared_11 n y2 y3 y4 = some o2) (kk : AW g RX7 cX7_greatestShared (6, some .int, "greatestShared", 1, 0, 0) res 38 [(2, .int o2)] [] h 0 0), AW g RX7 cX7_greatestShared (6, some .int, "greatestShared", 1, 0, 0) res 11 [(2, .int y2), (3, .int y3), (4, .int y4)] [] h 0 0 := by
  intro n
  induction n with
  | zero =>
    intro h y2 y3 y4 o2 hf kk
    rw [f_X7_greatestShared_11] at hf
    cases hf
  | succ n ih =>
    intro h y2 y3 y4 o2 hf kk
    rw [f_X7_greatestShared_11] at hf
    refine aw_iload 2 dX7_greatestShared_11 rfl ?_
    refine aw_bipush (v := 32) dX7_greatestShared_13 rfl ?_
    refine aw_icmp_ge (tgt := 38) dX7_greatestShared_15 rfl (fun hc => ?_) (fun hc => ?_)
    · have hf := itp0 hc hf
      obtain rfl := so1 hf
      exact aw_pick [0] rfl kk
    · have hf := itn0 hc hf
      refine aw_iload_n 1 dX7_greatestShared_18 rfl ?_
      refine aw_if_le (tgt := 38) dX7_greatestShared_19 rfl (fun hc => ?_) (fun hc => ?_)
      · have hf := itp0 hc hf
        obtain rfl := so1 hf
        exact aw_pick [0] rfl kk
      · have hf := itn0 hc hf
        refine aw_iload_n 0 dX7_greatestShared_22 rfl ?_
        refine aw_iload_n 1 dX7_greatestShared_23 rfl ?_
        refine aw_irem dX7_greatestShared_24 hf (fun hf => ?_)
        refine aw_istore [(5, .int (y2 - y2 / y3 * y3)), (2, .int y2), (3, .int y3), (4, .int y4)] dX7_greatestShared_25 (Nat.le_of_ble_eq_true rfl) rfl ?_
        refine aw_iload_n 2 dX7_greatestShared_27 rfl ?_
        refine aw_istore_n [(2, .int y3), (5, .int (y2 - y2 / y3 * y3)), (3, .int y3), (4, .int y4)] dX7_greatestShared_28 (Nat.le_of_ble_eq_true rfl) rfl ?_
        refine aw_iload 1 dX7_greatestShared_29 rfl ?_
        refine aw_istore_n [(3, .int (y2 - y2 / y3 * y3)), (2, .int y3), (5, .int (y2 - y2 / y3 * y3)), (4, .int y4)] dX7_greatestShared_31 (Nat.le_of_ble_eq_true rfl) rfl ?_
        refine aw_iinc (y4 + 1) [(4, .int (y4 + 1)), (3, .int (y2 - y2 / y3 * y3)), (2, .int y3), (5, .int (y2 - y2 / y3 * y3))] 3 dX7_greatestShared_32 rfl rfl (Nat.le_of_ble_eq_true rfl) rfl ?_
        refine aw_goto (tgt := 11) dX7_greatestShared_35 rfl ?_
        refine aw_pick [2, 1, 0] rfl ?_
        exact ih h y3 (y2 - y2 / y3 * y3) (y4 + 1) o2 hf kk
set_option maxRecDepth 100000 in
set_option maxHeartbeats 4000000 in
theorem c_X7_greatestShared (g : Gx) (h : Hea) (a0 : Int32) (a1 : Int32) (o : Int32) (hf : f_X7_greatestShared a0 a1 = some o) : MC g yX7_greatestShared cX7_greatestShared 6 (some .int) 1 0 0 [.int a0, .int a1] h (some (.int o), h) := by
  refine MC_of (own := RX7) (nm := "greatestShared") [(0, .int a0), (1, .int a1)] rfl rfl pn_RX7 (Nat.le_of_ble_eq_true rfl) rfl ?_
  rw [f_X7_greatestShared] at hf
  refine aw_iload_n 1 dX7_greatestShared_0 rfl ?_
  refine aw_iconst (v := 1) dX7_greatestShared_1 rfl ?_
  refine aw_mmax km_RX7_303 dX7_greatestShared_2 (Nat.le_of_ble_eq_true rfl) (Nat.le_of_ble_eq_true rfl) (Nat.le_of_ble_eq_true rfl) (Nat.le_of_ble_eq_true rfl) ?_
  refine aw_istore_n [(2, .int (if a1 < 1 then 1 else a1)), (0, .int a0), (1, .int a1)] dX7_greatestShared_5 (Nat.le_of_ble_eq_true rfl) rfl ?_
  refine aw_iload_n 1 dX7_greatestShared_6 rfl ?_
  refine aw_istore_n [(3, .int a0), (2, .int (if a1 < 1 then 1 else a1)), (0, .int a0), (1, .int a1)] dX7_greatestShared_7 (Nat.le_of_ble_eq_true rfl) rfl ?_
  refine aw_iconst (v := 0) dX7_greatestShared_8 rfl ?_
  refine aw_istore [(4, .int 0), (3, .int a0), (2, .int (if a1 < 1 then 1 else a1)), (0, .int a0), (1, .int a1)] dX7_greatestShared_9 (Nat.le_of_ble_eq_true rfl) rfl ?_
  refine aw_pick [2, 1, 0] rfl ?_
  refine reg1 (fun (v1 : Int32) => AW g RX7 cX7_greatestShared (6, some .int, "greatestShared", 1, 0, 0) (some (.int o), h) 38 [(2, .int v1)] [] h 0 0) hf (fun v1 hf => ?_) (fun v1 hf hJ => l_X7_greatestShared_11 g  lots h (if a1 < 1 then 1 else a1) a0 0 v1 hf hJ)
  refine aw_iconst (v := 1) dX7_greatestShared_38 rfl ?_
  refine aw_iload_n 0 dX7_greatestShared_39 rfl ?_
  refine aw_mmax km_RX7_303 dX7_greatestShared_40 (Nat.le_of_ble_eq_true rfl) (Nat.le_of_ble_eq_true rfl) (Nat.le_of_ble_eq_true rfl) (Nat.le_of_ble_eq_true rfl) ?_
  obtain rfl := so1 hf
  exact aw_iret dX7_greatestShared_43 rfl rfl
set_option maxRecDepth 100000 in
set_option maxHeartbeats 4000000 in
theorem c_X7_odds (g : Gx) (h : Hea) (a0 : Nat) (a1 : Int32) (o : Int32) (hz : Hea) (hf : f_X7_odds h a0 a1 = some (o, hz)) : MC g yX7_odds cX7_odds 4 (some .int) 5 0 0 [.ref a0, .int a1] h (some (.int o), hz) := by
  refine MC_of (own := RX7) (nm := "odds") [(0, .ref a0), (1, .int a1)] rfl rfl pn_RX7 (Nat.le_of_ble_eq_true rfl) rfl ?_
  rw [f_X7_odds] at hf
  refine aw_aload_n 0 dX7_odds_0 rfl ?_
  refine aw_iload_n 1 dX7_odds_1 rfl ?_
  refine aw_cV_i (st := []) [.int a1] wV_RX7_148 (ci := 7) rfl (fun xr er => c_X7_isHeir g h a0 a1 xr er) dX7_odds_2 rfl rfl (Nat.le_of_ble_eq_true rfl) (Nat.le_of_ble_eq_true rfl) (Nat.le_of_ble_eq_true rfl) (Nat.le_of_ble_eq_true rfl) hf (fun x1 hf => ?_)
  refine aw_if_ne (tgt := 13) dX7_odds_5 rfl (fun hc => ?_) (fun hc => ?_)
  · have hf := itn0 hc hf
    refine aw_aload_n 0 dX7_odds_13 rfl ?_
    refine aw_gR fl_RX7_41 dX7_odds_14 hf (fun x2 hf => ?_)
    refine aw_aload_n 0 dX7_odds_17 rfl ?_
    refine aw_gR fl_RX7_10 dX7_odds_18 hf (fun x3 hf => ?_)
    refine aw_iload_n 1 dX7_odds_21 rfl ?_
    refine aw_cV_wi (st := []) [.ref x3, .int a1] wV_RX7_248 (ci := 0) rfl (fun xr hr er => c_X0_luckyEyes g h x2 x3 a1 xr hr er) dX7_odds_22 rfl rfl (Nat.le_of_ble_eq_true rfl) (Nat.le_of_ble_eq_true rfl) (Nat.le_of_ble_eq_true rfl) (Nat.le_of_ble_eq_true rfl) hf (fun x4 h5 hf => ?_)
    refine aw_istore_n [(2, .int x4), (0, .ref a0), (1, .int a1)] dX7_odds_25 (Nat.le_of_ble_eq_true rfl) rfl ?_
    refine aw_iload_n 0 dX7_odds_26 rfl ?_
    refine aw_bipush (v := 25) dX7_odds_27 rfl ?_
    refine aw_cS_i (st := []) [.int x4, .int 25] wS_RX7_251 (fun xr er => c_X7_greatestShared g h5 x4 25 xr er) dX7_odds_29 rfl rfl (Nat.le_of_ble_eq_true rfl) (Nat.le_of_ble_eq_true rfl) (Nat.le_of_ble_eq_true rfl) (Nat.le_of_ble_eq_true rfl) hf (fun x6 hf => ?_)
    refine aw_istore_n [(3, .int x6), (2, .int x4), (0, .ref a0), (1, .int a1)] dX7_odds_32 (Nat.le_of_ble_eq_true rfl) rfl ?_
    refine aw_aload_n 2 dX7_odds_33 rfl ?_
    refine aw_iload_n 1 dX7_odds_34 rfl ?_
    refine aw_iload_n 0 dX7_odds_35 rfl ?_
    refine aw_idiv dX7_odds_36 hf (fun hf => ?_)
    refine aw_i2l dX7_odds_37 ?_
    refine aw_pJ fp_RX7_74 dX7_odds_38 hf (fun h7 hf => ?_)
    refine aw_aload_n 2 dX7_odds_41 rfl ?_
    refine aw_bipush (v := 25) dX7_odds_42 rfl ?_
    refine aw_iload_n 0 dX7_odds_44 rfl ?_
    refine aw_idiv dX7_odds_45 hf (fun hf => ?_)
    refine aw_i2l dX7_odds_46 ?_
    refine aw_pJ fp_RX7_78 dX7_odds_47 hf (fun h8 hf => ?_)
    refine aw_iconst (v := 1) dX7_odds_50 rfl ?_
    obtain ⟨rfl, rfl⟩ := so2 hf
    exact aw_iret dX7_odds_51 rfl rfl
  · have hf := itp0 hc hf
    refine aw_aload_n 0 dX7_odds_8 rfl ?_
    refine aw_cV_wi (st := []) [] wV_RX7_94 (ci := 7) rfl (fun xr hr er => c_X7_refuseBad g h a0 xr hr er) dX7_odds_9 rfl rfl (Nat.le_of_ble_eq_true rfl) (Nat.le_of_ble_eq_true rfl) (Nat.le_of_ble_eq_true rfl) (Nat.le_of_ble_eq_true rfl) hf (fun x9 h10 hf => ?_)
    obtain ⟨rfl, rfl⟩ := so2 hf
    exact aw_iret dX7_odds_12 rfl rfl
