/-! ===== words of the tables, by their places (laid by program) ===== -/
theorem ck_0 : CKd 0 RX0 TX0 2 tyX0 := ⟨rfl, tbl_in _ [177, 179] (by decide +kernel) (by decide +kernel), tyX0_ok, nmX0⟩
theorem dv_0 : ∀ j, j < 2 → defaultValue (tyX0 j) = vp_V [.null, .null] j := by decide +kernel
theorem pn_RX0 : plainName RX0 = true := by decide +kernel
theorem ck_1 : CKd 1 RX1 TX1 14 tyX1 := ⟨rfl, tbl_in _ [118, 120, 122, 124, 126, 128, 130, 132, 134, 136, 138, 140, 142, 144] (by decide +kernel) (by decide +kernel), tyX1_ok, nmX1⟩
theorem dv_1 : ∀ j, j < 14 → defaultValue (tyX1 j) = vp_V [.int 0, .int 0, .null, .null, .null, .int 0, .int 0, .null, .null, .null, .int 0, .null, .null, .null] j := by decide +kernel
theorem pn_RX1 : plainName RX1 = true := by decide +kernel
theorem ck_2 : CKd 2 RX2 TX2 2 tyX2 := ⟨rfl, tbl_in _ [159, 161] (by decide +kernel) (by decide +kernel), tyX2_ok, nmX2⟩
theorem dv_2 : ∀ j, j < 2 → defaultValue (tyX2 j) = vp_V [.null, .int 0] j := by decide +kernel
theorem pn_RX2 : plainName RX2 = true := by decide +kernel
theorem ck_3 : CKd 3 RX3 TX3 6 tyX3 := ⟨rfl, tbl_in _ [62, 64, 66, 68, 70, 72] (by decide +kernel) (by decide +kernel), tyX3_ok, nmX3⟩
theorem dv_3 : ∀ j, j < 6 → defaultValue (tyX3 j) = vp_V [.int 0, .null, .null, .null, .null, .null] j := by decide +kernel
theorem pn_RX3 : plainName RX3 = true := by decide +kernel
theorem ck_4 : CKd 4 RX4 TX4 8 tyX4 := ⟨rfl, tbl_in _ [243, 245, 247, 249, 251, 253, 255, 257] (by decide +kernel) (by decide +kernel), tyX4_ok, nmX4⟩
theorem dv_4 : ∀ j, j < 8 → defaultValue (tyX4 j) = vp_V [.null, .int 0, .int 0, .int 0, .int 0, .int 0, .int 0, .int 0] j := by decide +kernel
theorem pn_RX4 : plainName RX4 = true := by decide +kernel
theorem ck_5 : CKd 5 RX5 TX5 4 tyX5 := ⟨rfl, tbl_in _ [219, 221, 223, 225] (by decide +kernel) (by decide +kernel), tyX5_ok, nmX5⟩
theorem dv_5 : ∀ j, j < 4 → defaultValue (tyX5 j) = vp_V [.null, .null, .null, .null] j := by decide +kernel
theorem pn_RX5 : plainName RX5 = true := by decide +kernel
theorem ck_6 : CKd 6 RX6 TX6 5 tyX6 := ⟨rfl, tbl_in _ [198, 200, 202, 204, 206] (by decide +kernel) (by decide +kernel), tyX6_ok, nmX6⟩
theorem dv_6 : ∀ j, j < 5 → defaultValue (tyX6 j) = vp_V [.int 0, .int 0, .null, .null, .null] j := by decide +kernel
theorem pn_RX6 : plainName RX6 = true := by decide +kernel
theorem ck_7 : CKd 7 RX7 TX7 17 tyX7 := ⟨rfl, tbl_in _ [278, 280, 282, 284, 286, 288, 290, 292, 294, 296, 298, 300, 302, 304, 306, 308, 310] (by decide +kernel) (by decide +kernel), tyX7_ok, nmX7⟩
theorem dv_7 : ∀ j, j < 17 → defaultValue (tyX7 j) = vp_V [.null, .null, .null, .null, .null, .null, .null, .null, .null, .null, .null, .int 0, .long 0, .long 0, .int 0, .int 0, .int 0] j := by decide +kernel
theorem pn_RX7 : plainName RX7 = true := by decide +kernel
theorem ck_8 : CKd 8 RX8 TX8 27 tyX8 := ⟨rfl, tbl_in _ [885, 887, 889, 891, 893, 895, 897, 899, 901, 903, 905, 907, 909, 911, 913, 915, 917, 919, 921, 923, 925, 927, 929, 931, 933, 935, 937] (by decide +kernel) (by decide +kernel), tyX8_ok, nmX8⟩
theorem dv_8 : ∀ j, j < 27 → defaultValue (tyX8 j) = vp_V [.null, .null, .null, .null, .long 0, .long 0, .int 0, .int 0, .null, .null, .null, .null, .null, .null, .null, .null, .null, .null, .null, .null, .int 0, .int 0, .int 0, .int 0, .int 0, .null, .null] j := by decide +kernel
theorem pn_RX8 : plainName RX8 = true := by decide +kernel
theorem pn_RL : plainName RL = true := by decide +kernel
theorem fl_RX7_10 : FL RX7 10 7 0 := ⟨RX7, TX7, 17, tyX7, ck_7, (Nat.le_of_ble_eq_true rfl), tb_of 261 (by decide +kernel) rfl⟩
theorem fl_RX7_19 : FL RX7 19 7 1 := ⟨RX7, TX7, 17, tyX7, ck_7, (Nat.le_of_ble_eq_true rfl), tb_of 262 (by decide +kernel) rfl⟩
theorem fl_RX7_23 : FL RX7 23 7 2 := ⟨RX7, TX7, 17, tyX7, ck_7, (Nat.le_of_ble_eq_true rfl), tb_of 263 (by decide +kernel) rfl⟩
theorem fl_RX7_26 : FL RX7 26 7 3 := ⟨RX7, TX7, 17, tyX7, ck_7, (Nat.le_of_ble_eq_true rfl), tb_of 264 (by decide +kernel) rfl⟩
theorem fl_RX7_30 : FL RX7 30 7 4 := ⟨RX7, TX7, 17, tyX7, ck_7, (Nat.le_of_ble_eq_true rfl), tb_of 265 (by decide +kernel) rfl⟩
theorem fl_RX7_34 : FL RX7 34 7 5 := ⟨RX7, TX7, 17, tyX7, ck_7, (Nat.le_of_ble_eq_true rfl), tb_of 266 (by decide +kernel) rfl⟩
theorem fl_RX7_41 : FL RX7 41 7 6 := ⟨RX7, TX7, 17, tyX7, ck_7, (Nat.le_of_ble_eq_true rfl), tb_of 267 (by decide +kernel) rfl⟩
theorem fl_RX7_48 : FL RX7 48 7 7 := ⟨RX7, TX7, 17, tyX7, ck_7, (Nat.le_of_ble_eq_true rfl), tb_of 268 (by decide +kernel) rfl⟩
theorem fl_RX7_55 : FL RX7 55 7 8 := ⟨RX7, TX7, 17, tyX7, ck_7, (Nat.le_of_ble_eq_true rfl), tb_of 269 (by decide +kernel) rfl⟩
theorem fl_RX7_62 : FL RX7 62 7 9 := ⟨RX7, TX7, 17, tyX7, ck_7, (Nat.le_of_ble_eq_true rfl), tb_of 270 (by decide +kernel) rfl⟩
theorem fl_RX7_66 : FL RX7 66 7 10 := ⟨RX7, TX7, 17, tyX7, ck_7, (Nat.le_of_ble_eq_true rfl), tb_of 271 (by decide +kernel) rfl⟩
theorem fl_RX7_70 : FL RX7 70 7 11 := ⟨RX7, TX7, 17, tyX7, ck_7, (Nat.le_of_ble_eq_true rfl), tb_of 272 (by decide +kernel) rfl⟩
theorem fl_RX7_74 : FL RX7 74 7 12 := ⟨RX7, TX7, 17, tyX7, ck_7, (Nat.le_of_ble_eq_true rfl), tb_of 273 (by decide +kernel) rfl⟩
theorem fl_RX7_78 : FL RX7 78 7 13 := ⟨RX7, TX7, 17, tyX7, ck_7, (Nat.le_of_ble_eq_true rfl), tb_of 274 (by decide +kernel) rfl⟩
theorem fl_RX7_81 : FL RX7 81 7 14 := ⟨RX7, TX7, 17, tyX7, ck_7, (Nat.le_of_ble_eq_true rfl), tb_of 275 (by decide +kernel) rfl⟩
theorem fl_RX7_84 : FL RX7 84 7 15 := ⟨RX7, TX7, 17, tyX7, ck_7, (Nat.le_of_ble_eq_true rfl), tb_of 276 (by decide +kernel) rfl⟩
theorem fl_RX7_87 : FL RX7 87 7 16 := ⟨RX7, TX7, 17, tyX7, ck_7, (Nat.le_of_ble_eq_true rfl), tb_of 277 (by decide +kernel) rfl⟩
theorem fl_RX7_98 : FL RX7 98 1 6 := ⟨RX1, TX1, 14, tyX1, ck_1, (Nat.le_of_ble_eq_true rfl), tb_of 97 (by decide +kernel) rfl⟩
theorem fl_RX7_105 : FL RX7 105 2 1 := ⟨RX2, TX2, 2, tyX2, ck_2, (Nat.le_of_ble_eq_true rfl), tb_of 158 (by decide +kernel) rfl⟩
theorem fl_RX7_112 : FL RX7 112 1 2 := ⟨RX1, TX1, 14, tyX1, ck_1, (Nat.le_of_ble_eq_true rfl), tb_of 88 (by decide +kernel) rfl⟩
theorem fl_RX7_124 : FL RX7 124 1 5 := ⟨RX1, TX1, 14, tyX1, ck_1, (Nat.le_of_ble_eq_true rfl), tb_of 95 (by decide +kernel) rfl⟩
theorem fl_RX7_130 : FL RX7 130 1 4 := ⟨RX1, TX1, 14, tyX1, ck_1, (Nat.le_of_ble_eq_true rfl), tb_of 92 (by decide +kernel) rfl⟩
theorem fl_RX7_133 : FL RX7 133 1 0 := ⟨RX1, TX1, 14, tyX1, ck_1, (Nat.le_of_ble_eq_true rfl), tb_of 82 (by decide +kernel) rfl⟩
theorem fl_RX7_151 : FL RX7 151 1 9 := ⟨RX1, TX1, 14, tyX1, ck_1, (Nat.le_of_ble_eq_true rfl), tb_of 108 (by decide +kernel) rfl⟩
theorem fl_RX7_155 : FL RX7 155 3 1 := ⟨RX3, TX3, 6, tyX3, ck_3, (Nat.le_of_ble_eq_true rfl), tb_of 45 (by decide +kernel) rfl⟩
theorem fl_RX7_160 : FL RX7 160 3 3 := ⟨RX3, TX3, 6, tyX3, ck_3, (Nat.le_of_ble_eq_true rfl), tb_of 53 (by decide +kernel) rfl⟩
theorem fl_RX7_163 : FL RX7 163 3 5 := ⟨RX3, TX3, 6, tyX3, ck_3, (Nat.le_of_ble_eq_true rfl), tb_of 60 (by decide +kernel) rfl⟩
theorem fl_RX7_183 : FL RX7 183 3 0 := ⟨RX3, TX3, 6, tyX3, ck_3, (Nat.le_of_ble_eq_true rfl), tb_of 40 (by decide +kernel) rfl⟩
theorem fl_RX7_186 : FL RX7 186 1 7 := ⟨RX1, TX1, 14, tyX1, ck_1, (Nat.le_of_ble_eq_true rfl), tb_of 102 (by decide +kernel) rfl⟩
theorem fl_RX7_189 : FL RX7 189 1 8 := ⟨RX1, TX1, 14, tyX1, ck_1, (Nat.le_of_ble_eq_true rfl), tb_of 104 (by decide +kernel) rfl⟩
theorem fl_RX7_192 : FL RX7 192 3 2 := ⟨RX3, TX3, 6, tyX3, ck_3, (Nat.le_of_ble_eq_true rfl), tb_of 49 (by decide +kernel) rfl⟩
theorem fl_RX7_198 : FL RX7 198 3 4 := ⟨RX3, TX3, 6, tyX3, ck_3, (Nat.le_of_ble_eq_true rfl), tb_of 56 (by decide +kernel) rfl⟩
theorem fl_RX7_213 : FL RX7 213 0 0 := ⟨RX0, TX0, 2, tyX0, ck_0, (Nat.le_of_ble_eq_true rfl), tb_of 175 (by decide +kernel) rfl⟩
theorem fl_RX7_238 : FL RX7 238 6 0 := ⟨RX6, TX6, 5, tyX6, ck_6, (Nat.le_of_ble_eq_true rfl), tb_of 192 (by decide +kernel) rfl⟩
theorem fl_RX7_241 : FL RX7 241 6 1 := ⟨RX6, TX6, 5, tyX6, ck_6, (Nat.le_of_ble_eq_true rfl), tb_of 194 (by decide +kernel) rfl⟩
theorem fl_RX7_254 : FL RX7 254 1 10 := ⟨RX1, TX1, 14, tyX1, ck_1, (Nat.le_of_ble_eq_true rfl), tb_of 111 (by decide +kernel) rfl⟩
theorem fl_RX7_297 : FL RX7 297 1 1 := ⟨RX1, TX1, 14, tyX1, ck_1, (Nat.le_of_ble_eq_true rfl), tb_of 86 (by decide +kernel) rfl⟩
theorem fl_RX0_12 : FL RX0 12 0 0 := ⟨RX0, TX0, 2, tyX0, ck_0, (Nat.le_of_ble_eq_true rfl), tb_of 174 (by decide +kernel) rfl⟩
theorem fl_RX0_18 : FL RX0 18 0 1 := ⟨RX0, TX0, 2, tyX0, ck_0, (Nat.le_of_ble_eq_true rfl), tb_of 176 (by decide +kernel) rfl⟩
theorem fl_RX0_22 : FL RX0 22 1 9 := ⟨RX1, TX1, 14, tyX1, ck_1, (Nat.le_of_ble_eq_true rfl), tb_of 106 (by decide +kernel) rfl⟩
theorem fl_RX0_31 : FL RX0 31 1 0 := ⟨RX1, TX1, 14, tyX1, ck_1, (Nat.le_of_ble_eq_true rfl), tb_of 81 (by decide +kernel) rfl⟩
theorem fl_RX0_40 : FL RX0 40 3 1 := ⟨RX3, TX3, 6, tyX3, ck_3, (Nat.le_of_ble_eq_true rfl), tb_of 43 (by decide +kernel) rfl⟩
theorem fl_RX0_51 : FL RX0 51 3 3 := ⟨RX3, TX3, 6, tyX3, ck_3, (Nat.le_of_ble_eq_true rfl), tb_of 51 (by decide +kernel) rfl⟩
theorem fl_RX0_54 : FL RX0 54 3 4 := ⟨RX3, TX3, 6, tyX3, ck_3, (Nat.le_of_ble_eq_true rfl), tb_of 55 (by decide +kernel) rfl⟩
theorem fl_RX0_99 : FL RX0 99 1 6 := ⟨RX1, TX1, 14, tyX1, ck_1, (Nat.le_of_ble_eq_true rfl), tb_of 100 (by decide +kernel) rfl⟩
theorem fl_RX1_9 : FL RX1 9 1 2 := ⟨RX1, TX1, 14, tyX1, ck_1, (Nat.le_of_ble_eq_true rfl), tb_of 87 (by decide +kernel) rfl⟩
theorem fl_RX1_15 : FL RX1 15 1 3 := ⟨RX1, TX1, 14, tyX1, ck_1, (Nat.le_of_ble_eq_true rfl), tb_of 90 (by decide +kernel) rfl⟩
theorem fl_RX1_18 : FL RX1 18 1 4 := ⟨RX1, TX1, 14, tyX1, ck_1, (Nat.le_of_ble_eq_true rfl), tb_of 91 (by decide +kernel) rfl⟩
theorem fl_RX1_21 : FL RX1 21 1 7 := ⟨RX1, TX1, 14, tyX1, ck_1, (Nat.le_of_ble_eq_true rfl), tb_of 101 (by decide +kernel) rfl⟩
theorem fl_RX1_24 : FL RX1 24 1 8 := ⟨RX1, TX1, 14, tyX1, ck_1, (Nat.le_of_ble_eq_true rfl), tb_of 103 (by decide +kernel) rfl⟩
theorem fl_RX1_30 : FL RX1 30 1 9 := ⟨RX1, TX1, 14, tyX1, ck_1, (Nat.le_of_ble_eq_true rfl), tb_of 105 (by decide +kernel) rfl⟩
theorem fl_RX1_34 : FL RX1 34 1 11 := ⟨RX1, TX1, 14, tyX1, ck_1, (Nat.le_of_ble_eq_true rfl), tb_of 112 (by decide +kernel) rfl⟩
theorem fl_RX1_37 : FL RX1 37 1 12 := ⟨RX1, TX1, 14, tyX1, ck_1, (Nat.le_of_ble_eq_true rfl), tb_of 114 (by decide +kernel) rfl⟩
theorem fl_RX1_40 : FL RX1 40 1 13 := ⟨RX1, TX1, 14, tyX1, ck_1, (Nat.le_of_ble_eq_true rfl), tb_of 116 (by decide +kernel) rfl⟩
theorem fl_RX1_47 : FL RX1 47 1 0 := ⟨RX1, TX1, 14, tyX1, ck_1, (Nat.le_of_ble_eq_true rfl), tb_of 80 (by decide +kernel) rfl⟩
theorem fl_RX1_51 : FL RX1 51 1 1 := ⟨RX1, TX1, 14, tyX1, ck_1, (Nat.le_of_ble_eq_true rfl), tb_of 84 (by decide +kernel) rfl⟩
theorem fl_RX1_54 : FL RX1 54 1 5 := ⟨RX1, TX1, 14, tyX1, ck_1, (Nat.le_of_ble_eq_true rfl), tb_of 94 (by decide +kernel) rfl⟩
theorem fl_RX1_57 : FL RX1 57 1 6 := ⟨RX1, TX1, 14, tyX1, ck_1, (Nat.le_of_ble_eq_true rfl), tb_of 98 (by decide +kernel) rfl⟩
theorem fl_RX1_60 : FL RX1 60 3 0 := ⟨RX3, TX3, 6, tyX3, ck_3, (Nat.le_of_ble_eq_true rfl), tb_of 38 (by decide +kernel) rfl⟩
theorem fl_RX1_63 : FL RX1 63 1 10 := ⟨RX1, TX1, 14, tyX1, ck_1, (Nat.le_of_ble_eq_true rfl), tb_of 109 (by decide +kernel) rfl⟩
theorem fl_RX1_79 : FL RX1 79 3 2 := ⟨RX3, TX3, 6, tyX3, ck_3, (Nat.le_of_ble_eq_true rfl), tb_of 48 (by decide +kernel) rfl⟩
theorem fl_RX1_82 : FL RX1 82 3 1 := ⟨RX3, TX3, 6, tyX3, ck_3, (Nat.le_of_ble_eq_true rfl), tb_of 44 (by decide +kernel) rfl⟩
theorem fl_RX1_98 : FL RX1 98 3 3 := ⟨RX3, TX3, 6, tyX3, ck_3, (Nat.le_of_ble_eq_true rfl), tb_of 52 (by decide +kernel) rfl⟩
theorem fl_RX1_129 : FL RX1 129 3 4 := ⟨RX3, TX3, 6, tyX3, ck_3, (Nat.le_of_ble_eq_true rfl), tb_of 57 (by decide +kernel) rfl⟩
theorem fl_RX1_132 : FL RX1 132 3 5 := ⟨RX3, TX3, 6, tyX3, ck_3, (Nat.le_of_ble_eq_true rfl), tb_of 61 (by decide +kernel) rfl⟩
theorem fl_RX2_11 : FL RX2 11 2 0 := ⟨RX2, TX2, 2, tyX2, ck_2, (Nat.le_of_ble_eq_true rfl), tb_of 156 (by decide +kernel) rfl⟩
theorem fl_RX2_17 : FL RX2 17 2 1 := ⟨RX2, TX2, 2, tyX2, ck_2, (Nat.le_of_ble_eq_true rfl), tb_of 157 (by decide +kernel) rfl⟩
theorem fl_RX3_9 : FL RX3 9 3 0 := ⟨RX3, TX3, 6, tyX3, ck_3, (Nat.le_of_ble_eq_true rfl), tb_of 37 (by decide +kernel) rfl⟩
theorem fl_RX3_15 : FL RX3 15 3 1 := ⟨RX3, TX3, 6, tyX3, ck_3, (Nat.le_of_ble_eq_true rfl), tb_of 41 (by decide +kernel) rfl⟩
theorem fl_RX3_19 : FL RX3 19 3 2 := ⟨RX3, TX3, 6, tyX3, ck_3, (Nat.le_of_ble_eq_true rfl), tb_of 46 (by decide +kernel) rfl⟩
theorem fl_RX3_22 : FL RX3 22 3 3 := ⟨RX3, TX3, 6, tyX3, ck_3, (Nat.le_of_ble_eq_true rfl), tb_of 50 (by decide +kernel) rfl⟩
theorem fl_RX3_25 : FL RX3 25 3 4 := ⟨RX3, TX3, 6, tyX3, ck_3, (Nat.le_of_ble_eq_true rfl), tb_of 54 (by decide +kernel) rfl⟩
theorem fl_RX3_28 : FL RX3 28 3 5 := ⟨RX3, TX3, 6, tyX3, ck_3, (Nat.le_of_ble_eq_true rfl), tb_of 58 (by decide +kernel) rfl⟩
theorem fl_RX4_9 : FL RX4 9 4 0 := ⟨RX4, TX4, 8, tyX4, ck_4, (Nat.le_of_ble_eq_true rfl), tb_of 235 (by decide +kernel) rfl⟩
theorem fl_RX4_15 : FL RX4 15 4 1 := ⟨RX4, TX4, 8, tyX4, ck_4, (Nat.le_of_ble_eq_true rfl), tb_of 236 (by decide +kernel) rfl⟩
theorem fl_RX4_19 : FL RX4 19 4 2 := ⟨RX4, TX4, 8, tyX4, ck_4, (Nat.le_of_ble_eq_true rfl), tb_of 237 (by decide +kernel) rfl⟩
theorem fl_RX4_22 : FL RX4 22 4 3 := ⟨RX4, TX4, 8, tyX4, ck_4, (Nat.le_of_ble_eq_true rfl), tb_of 238 (by decide +kernel) rfl⟩
theorem fl_RX4_25 : FL RX4 25 4 4 := ⟨RX4, TX4, 8, tyX4, ck_4, (Nat.le_of_ble_eq_true rfl), tb_of 239 (by decide +kernel) rfl⟩
theorem fl_RX4_28 : FL RX4 28 4 5 := ⟨RX4, TX4, 8, tyX4, ck_4, (Nat.le_of_ble_eq_true rfl), tb_of 240 (by decide +kernel) rfl⟩
theorem fl_RX4_31 : FL RX4 31 4 6 := ⟨RX4, TX4, 8, tyX4, ck_4, (Nat.le_of_ble_eq_true rfl), tb_of 241 (by decide +kernel) rfl⟩
theorem fl_RX4_34 : FL RX4 34 4 7 := ⟨RX4, TX4, 8, tyX4, ck_4, (Nat.le_of_ble_eq_true rfl), tb_of 242 (by decide +kernel) rfl⟩
theorem fl_RX4_78 : FL RX4 78 1 6 := ⟨RX1, TX1, 14, tyX1, ck_1, (Nat.le_of_ble_eq_true rfl), tb_of 99 (by decide +kernel) rfl⟩
theorem fl_RX4_98 : FL RX4 98 1 2 := ⟨RX1, TX1, 14, tyX1, ck_1, (Nat.le_of_ble_eq_true rfl), tb_of 89 (by decide +kernel) rfl⟩
theorem fl_RX4_106 : FL RX4 106 1 4 := ⟨RX1, TX1, 14, tyX1, ck_1, (Nat.le_of_ble_eq_true rfl), tb_of 93 (by decide +kernel) rfl⟩
theorem fl_RX4_109 : FL RX4 109 1 5 := ⟨RX1, TX1, 14, tyX1, ck_1, (Nat.le_of_ble_eq_true rfl), tb_of 96 (by decide +kernel) rfl⟩
theorem fl_RX5_9 : FL RX5 9 5 0 := ⟨RX5, TX5, 4, tyX5, ck_5, (Nat.le_of_ble_eq_true rfl), tb_of 215 (by decide +kernel) rfl⟩
theorem fl_RX5_15 : FL RX5 15 5 1 := ⟨RX5, TX5, 4, tyX5, ck_5, (Nat.le_of_ble_eq_true rfl), tb_of 216 (by decide +kernel) rfl⟩
theorem fl_RX5_18 : FL RX5 18 5 2 := ⟨RX5, TX5, 4, tyX5, ck_5, (Nat.le_of_ble_eq_true rfl), tb_of 217 (by decide +kernel) rfl⟩
theorem fl_RX5_21 : FL RX5 21 5 3 := ⟨RX5, TX5, 4, tyX5, ck_5, (Nat.le_of_ble_eq_true rfl), tb_of 218 (by decide +kernel) rfl⟩
theorem fl_RX5_51 : FL RX5 51 1 10 := ⟨RX1, TX1, 14, tyX1, ck_1, (Nat.le_of_ble_eq_true rfl), tb_of 110 (by decide +kernel) rfl⟩
theorem fl_RX5_55 : FL RX5 55 1 13 := ⟨RX1, TX1, 14, tyX1, ck_1, (Nat.le_of_ble_eq_true rfl), tb_of 117 (by decide +kernel) rfl⟩
theorem fl_RX5_59 : FL RX5 59 1 12 := ⟨RX1, TX1, 14, tyX1, ck_1, (Nat.le_of_ble_eq_true rfl), tb_of 115 (by decide +kernel) rfl⟩
theorem fl_RX5_62 : FL RX5 62 1 11 := ⟨RX1, TX1, 14, tyX1, ck_1, (Nat.le_of_ble_eq_true rfl), tb_of 113 (by decide +kernel) rfl⟩
theorem fl_RX6_14 : FL RX6 14 6 2 := ⟨RX6, TX6, 5, tyX6, ck_6, (Nat.le_of_ble_eq_true rfl), tb_of 195 (by decide +kernel) rfl⟩
theorem fl_RX6_18 : FL RX6 18 6 3 := ⟨RX6, TX6, 5, tyX6, ck_6, (Nat.le_of_ble_eq_true rfl), tb_of 196 (by decide +kernel) rfl⟩
theorem fl_RX6_22 : FL RX6 22 6 4 := ⟨RX6, TX6, 5, tyX6, ck_6, (Nat.le_of_ble_eq_true rfl), tb_of 197 (by decide +kernel) rfl⟩
theorem fl_RX6_25 : FL RX6 25 1 9 := ⟨RX1, TX1, 14, tyX1, ck_1, (Nat.le_of_ble_eq_true rfl), tb_of 107 (by decide +kernel) rfl⟩
theorem fl_RX6_34 : FL RX6 34 6 0 := ⟨RX6, TX6, 5, tyX6, ck_6, (Nat.le_of_ble_eq_true rfl), tb_of 191 (by decide +kernel) rfl⟩
theorem fl_RX6_38 : FL RX6 38 6 1 := ⟨RX6, TX6, 5, tyX6, ck_6, (Nat.le_of_ble_eq_true rfl), tb_of 193 (by decide +kernel) rfl⟩
theorem fl_RX6_45 : FL RX6 45 3 1 := ⟨RX3, TX3, 6, tyX3, ck_3, (Nat.le_of_ble_eq_true rfl), tb_of 42 (by decide +kernel) rfl⟩
theorem fl_RX6_48 : FL RX6 48 3 2 := ⟨RX3, TX3, 6, tyX3, ck_3, (Nat.le_of_ble_eq_true rfl), tb_of 47 (by decide +kernel) rfl⟩
theorem fl_RX6_55 : FL RX6 55 3 5 := ⟨RX3, TX3, 6, tyX3, ck_3, (Nat.le_of_ble_eq_true rfl), tb_of 59 (by decide +kernel) rfl⟩
theorem fl_RX6_84 : FL RX6 84 3 0 := ⟨RX3, TX3, 6, tyX3, ck_3, (Nat.le_of_ble_eq_true rfl), tb_of 39 (by decide +kernel) rfl⟩
theorem fl_RX6_95 : FL RX6 95 1 1 := ⟨RX1, TX1, 14, tyX1, ck_1, (Nat.le_of_ble_eq_true rfl), tb_of 85 (by decide +kernel) rfl⟩
theorem fl_RX6_98 : FL RX6 98 1 0 := ⟨RX1, TX1, 14, tyX1, ck_1, (Nat.le_of_ble_eq_true rfl), tb_of 83 (by decide +kernel) rfl⟩
theorem fl_RX8_7 : FL RX8 7 8 0 := ⟨RX8, TX8, 27, tyX8, ck_8, (Nat.le_of_ble_eq_true rfl), tb_of 858 (by decide +kernel) rfl⟩
theorem fl_RX8_13 : FL RX8 13 8 1 := ⟨RX8, TX8, 27, tyX8, ck_8, (Nat.le_of_ble_eq_true rfl), tb_of 859 (by decide +kernel) rfl⟩
theorem fl_RX8_16 : FL RX8 16 8 2 := ⟨RX8, TX8, 27, tyX8, ck_8, (Nat.le_of_ble_eq_true rfl), tb_of 860 (by decide +kernel) rfl⟩
theorem fl_RX8_20 : FL RX8 20 8 3 := ⟨RX8, TX8, 27, tyX8, ck_8, (Nat.le_of_ble_eq_true rfl), tb_of 861 (by decide +kernel) rfl⟩
theorem fl_RX8_23 : FL RX8 23 8 5 := ⟨RX8, TX8, 27, tyX8, ck_8, (Nat.le_of_ble_eq_true rfl), tb_of 863 (by decide +kernel) rfl⟩
theorem fl_RX8_27 : FL RX8 27 8 8 := ⟨RX8, TX8, 27, tyX8, ck_8, (Nat.le_of_ble_eq_true rfl), tb_of 866 (by decide +kernel) rfl⟩
theorem fl_RX8_30 : FL RX8 30 8 9 := ⟨RX8, TX8, 27, tyX8, ck_8, (Nat.le_of_ble_eq_true rfl), tb_of 867 (by decide +kernel) rfl⟩
theorem fl_RX8_33 : FL RX8 33 8 10 := ⟨RX8, TX8, 27, tyX8, ck_8, (Nat.le_of_ble_eq_true rfl), tb_of 868 (by decide +kernel) rfl⟩
theorem fl_RX8_36 : FL RX8 36 8 11 := ⟨RX8, TX8, 27, tyX8, ck_8, (Nat.le_of_ble_eq_true rfl), tb_of 869 (by decide +kernel) rfl⟩
theorem fl_RX8_39 : FL RX8 39 8 12 := ⟨RX8, TX8, 27, tyX8, ck_8, (Nat.le_of_ble_eq_true rfl), tb_of 870 (by decide +kernel) rfl⟩
theorem fl_RX8_42 : FL RX8 42 8 13 := ⟨RX8, TX8, 27, tyX8, ck_8, (Nat.le_of_ble_eq_true rfl), tb_of 871 (by decide +kernel) rfl⟩
theorem fl_RX8_45 : FL RX8 45 8 14 := ⟨RX8, TX8, 27, tyX8, ck_8, (Nat.le_of_ble_eq_true rfl), tb_of 872 (by decide +kernel) rfl⟩
theorem fl_RX8_48 : FL RX8 48 8 15 := ⟨RX8, TX8, 27, tyX8, ck_8, (Nat.le_of_ble_eq_true rfl), tb_of 873 (by decide +kernel) rfl⟩
theorem fl_RX8_51 : FL RX8 51 8 16 := ⟨RX8, TX8, 27, tyX8, ck_8, (Nat.le_of_ble_eq_true rfl), tb_of 874 (by decide +kernel) rfl⟩
theorem fl_RX8_54 : FL RX8 54 8 17 := ⟨RX8, TX8, 27, tyX8, ck_8, (Nat.le_of_ble_eq_true rfl), tb_of 875 (by decide +kernel) rfl⟩
theorem fl_RX8_58 : FL RX8 58 8 18 := ⟨RX8, TX8, 27, tyX8, ck_8, (Nat.le_of_ble_eq_true rfl), tb_of 876 (by decide +kernel) rfl⟩
theorem fl_RX8_61 : FL RX8 61 8 19 := ⟨RX8, TX8, 27, tyX8, ck_8, (Nat.le_of_ble_eq_true rfl), tb_of 877 (by decide +kernel) rfl⟩
theorem fl_RX8_64 : FL RX8 64 8 25 := ⟨RX8, TX8, 27, tyX8, ck_8, (Nat.le_of_ble_eq_true rfl), tb_of 883 (by decide +kernel) rfl⟩
theorem fl_RX8_67 : FL RX8 67 8 26 := ⟨RX8, TX8, 27, tyX8, ck_8, (Nat.le_of_ble_eq_true rfl), tb_of 884 (by decide +kernel) rfl⟩
theorem fl_RX8_112 : FL RX8 112 8 6 := ⟨RX8, TX8, 27, tyX8, ck_8, (Nat.le_of_ble_eq_true rfl), tb_of 864 (by decide +kernel) rfl⟩
theorem fl_RX8_116 : FL RX8 116 8 7 := ⟨RX8, TX8, 27, tyX8, ck_8, (Nat.le_of_ble_eq_true rfl), tb_of 865 (by decide +kernel) rfl⟩
theorem fl_RX8_183 : FL RX8 183 8 4 := ⟨RX8, TX8, 27, tyX8, ck_8, (Nat.le_of_ble_eq_true rfl), tb_of 862 (by decide +kernel) rfl⟩
theorem fl_RX8_225 : FL RX8 225 8 20 := ⟨RX8, TX8, 27, tyX8, ck_8, (Nat.le_of_ble_eq_true rfl), tb_of 878 (by decide +kernel) rfl⟩
theorem fl_RX8_236 : FL RX8 236 8 21 := ⟨RX8, TX8, 27, tyX8, ck_8, (Nat.le_of_ble_eq_true rfl), tb_of 879 (by decide +kernel) rfl⟩
theorem fl_RX8_239 : FL RX8 239 8 22 := ⟨RX8, TX8, 27, tyX8, ck_8, (Nat.le_of_ble_eq_true rfl), tb_of 880 (by decide +kernel) rfl⟩
theorem fl_RX8_242 : FL RX8 242 8 23 := ⟨RX8, TX8, 27, tyX8, ck_8, (Nat.le_of_ble_eq_true rfl), tb_of 881 (by decide +kernel) rfl⟩
theorem fl_RX8_245 : FL RX8 245 8 24 := ⟨RX8, TX8, 27, tyX8, ck_8, (Nat.le_of_ble_eq_true rfl), tb_of 882 (by decide +kernel) rfl⟩
theorem fp_RX7_10 : FP RX7 10 7 0 true (.object "FoundLast$House") := ⟨RX7, TX7, 17, tyX7, ck_7, (Nat.le_of_ble_eq_true rfl), tb_of 261 (by decide +kernel) rfl, rfl, (fun _ => rfl), tyX7_ok 0 (Nat.le_of_ble_eq_true rfl)⟩
theorem fp_RX7_19 : FP RX7 19 7 1 true (.object "FoundLast$Past") := ⟨RX7, TX7, 17, tyX7, ck_7, (Nat.le_of_ble_eq_true rfl), tb_of 262 (by decide +kernel) rfl, rfl, (fun _ => rfl), tyX7_ok 1 (Nat.le_of_ble_eq_true rfl)⟩
theorem fp_RX7_23 : FP RX7 23 7 2 true (.object "FoundLast$House") := ⟨RX7, TX7, 17, tyX7, ck_7, (Nat.le_of_ble_eq_true rfl), tb_of 263 (by decide +kernel) rfl, rfl, (fun _ => rfl), tyX7_ok 2 (Nat.le_of_ble_eq_true rfl)⟩
theorem fp_RX7_26 : FP RX7 26 7 3 true (.array (.object "FoundLast$House")) := ⟨RX7, TX7, 17, tyX7, ck_7, (Nat.le_of_ble_eq_true rfl), tb_of 264 (by decide +kernel) rfl, rfl, (fun _ => rfl), tyX7_ok 3 (Nat.le_of_ble_eq_true rfl)⟩
theorem fp_RX7_30 : FP RX7 30 7 4 true (.array (.object "FoundLast$Past")) := ⟨RX7, TX7, 17, tyX7, ck_7, (Nat.le_of_ble_eq_true rfl), tb_of 265 (by decide +kernel) rfl, rfl, (fun _ => rfl), tyX7_ok 4 (Nat.le_of_ble_eq_true rfl)⟩
theorem fp_RX7_34 : FP RX7 34 7 5 true (.array .boolean) := ⟨RX7, TX7, 17, tyX7, ck_7, (Nat.le_of_ble_eq_true rfl), tb_of 266 (by decide +kernel) rfl, rfl, (fun _ => rfl), tyX7_ok 5 (Nat.le_of_ble_eq_true rfl)⟩
theorem fp_RX7_41 : FP RX7 41 7 6 true (.object "FoundLast$Forecast") := ⟨RX7, TX7, 17, tyX7, ck_7, (Nat.le_of_ble_eq_true rfl), tb_of 267 (by decide +kernel) rfl, rfl, (fun _ => rfl), tyX7_ok 6 (Nat.le_of_ble_eq_true rfl)⟩
theorem fp_RX7_48 : FP RX7 48 7 7 true (.object "FoundLast$WayFinder") := ⟨RX7, TX7, 17, tyX7, ck_7, (Nat.le_of_ble_eq_true rfl), tb_of 268 (by decide +kernel) rfl, rfl, (fun _ => rfl), tyX7_ok 7 (Nat.le_of_ble_eq_true rfl)⟩
theorem fp_RX7_55 : FP RX7 55 7 8 true (.object "FoundLast$Walks") := ⟨RX7, TX7, 17, tyX7, ck_7, (Nat.le_of_ble_eq_true rfl), tb_of 269 (by decide +kernel) rfl, rfl, (fun _ => rfl), tyX7_ok 8 (Nat.le_of_ble_eq_true rfl)⟩
theorem fp_RX7_62 : FP RX7 62 7 9 true (.object "FoundLast$TextReader") := ⟨RX7, TX7, 17, tyX7, ck_7, (Nat.le_of_ble_eq_true rfl), tb_of 270 (by decide +kernel) rfl, rfl, (fun _ => rfl), tyX7_ok 9 (Nat.le_of_ble_eq_true rfl)⟩
theorem fp_RX7_66 : FP RX7 66 7 10 true (.array .byte) := ⟨RX7, TX7, 17, tyX7, ck_7, (Nat.le_of_ble_eq_true rfl), tb_of 271 (by decide +kernel) rfl, rfl, (fun _ => rfl), tyX7_ok 10 (Nat.le_of_ble_eq_true rfl)⟩
theorem fp_RX7_70 : FP RX7 70 7 11 false (.int) := ⟨RX7, TX7, 17, tyX7, ck_7, (Nat.le_of_ble_eq_true rfl), tb_of 272 (by decide +kernel) rfl, rfl, (fun q => by cases q), tyX7_ok 11 (Nat.le_of_ble_eq_true rfl)⟩
theorem fp_RX7_74 : FP RX7 74 7 12 false (.long) := ⟨RX7, TX7, 17, tyX7, ck_7, (Nat.le_of_ble_eq_true rfl), tb_of 273 (by decide +kernel) rfl, rfl, (fun q => by cases q), tyX7_ok 12 (Nat.le_of_ble_eq_true rfl)⟩
theorem fp_RX7_78 : FP RX7 78 7 13 false (.long) := ⟨RX7, TX7, 17, tyX7, ck_7, (Nat.le_of_ble_eq_true rfl), tb_of 274 (by decide +kernel) rfl, rfl, (fun q => by cases q), tyX7_ok 13 (Nat.le_of_ble_eq_true rfl)⟩
theorem fp_RX7_81 : FP RX7 81 7 14 false (.int) := ⟨RX7, TX7, 17, tyX7, ck_7, (Nat.le_of_ble_eq_true rfl), tb_of 275 (by decide +kernel) rfl, rfl, (fun q => by cases q), tyX7_ok 14 (Nat.le_of_ble_eq_true rfl)⟩
theorem fp_RX7_84 : FP RX7 84 7 15 false (.int) := ⟨RX7, TX7, 17, tyX7, ck_7, (Nat.le_of_ble_eq_true rfl), tb_of 276 (by decide +kernel) rfl, rfl, (fun q => by cases q), tyX7_ok 15 (Nat.le_of_ble_eq_true rfl)⟩
theorem fp_RX7_87 : FP RX7 87 7 16 false (.int) := ⟨RX7, TX7, 17, tyX7, ck_7, (Nat.le_of_ble_eq_true rfl), tb_of 277 (by decide +kernel) rfl, rfl, (fun q => by cases q), tyX7_ok 16 (Nat.le_of_ble_eq_true rfl)⟩
theorem fp_RX7_105 : FP RX7 105 2 1 false (.int) := ⟨RX2, TX2, 2, tyX2, ck_2, (Nat.le_of_ble_eq_true rfl), tb_of 158 (by decide +kernel) rfl, rfl, (fun q => by cases q), tyX2_ok 1 (Nat.le_of_ble_eq_true rfl)⟩
theorem fp_RX7_124 : FP RX7 124 1 5 false (.int) := ⟨RX1, TX1, 14, tyX1, ck_1, (Nat.le_of_ble_eq_true rfl), tb_of 95 (by decide +kernel) rfl, rfl, (fun q => by cases q), tyX1_ok 5 (Nat.le_of_ble_eq_true rfl)⟩
theorem fp_RX7_133 : FP RX7 133 1 0 false (.int) := ⟨RX1, TX1, 14, tyX1, ck_1, (Nat.le_of_ble_eq_true rfl), tb_of 82 (by decide +kernel) rfl, rfl, (fun q => by cases q), tyX1_ok 0 (Nat.le_of_ble_eq_true rfl)⟩
theorem fp_RX7_254 : FP RX7 254 1 10 false (.int) := ⟨RX1, TX1, 14, tyX1, ck_1, (Nat.le_of_ble_eq_true rfl), tb_of 111 (by decide +kernel) rfl, rfl, (fun q => by cases q), tyX1_ok 10 (Nat.le_of_ble_eq_true rfl)⟩
theorem fp_RX0_12 : FP RX0 12 0 0 true (.object "FoundLast$Scene") := ⟨RX0, TX0, 2, tyX0, ck_0, (Nat.le_of_ble_eq_true rfl), tb_of 174 (by decide +kernel) rfl, rfl, (fun _ => rfl), tyX0_ok 0 (Nat.le_of_ble_eq_true rfl)⟩
theorem fp_RX0_18 : FP RX0 18 0 1 true (.array .int) := ⟨RX0, TX0, 2, tyX0, ck_0, (Nat.le_of_ble_eq_true rfl), tb_of 176 (by decide +kernel) rfl, rfl, (fun _ => rfl), tyX0_ok 1 (Nat.le_of_ble_eq_true rfl)⟩
theorem fp_RX1_9 : FP RX1 9 1 2 true (.array .int) := ⟨RX1, TX1, 14, tyX1, ck_1, (Nat.le_of_ble_eq_true rfl), tb_of 87 (by decide +kernel) rfl, rfl, (fun _ => rfl), tyX1_ok 2 (Nat.le_of_ble_eq_true rfl)⟩
theorem fp_RX1_15 : FP RX1 15 1 3 true (.array .int) := ⟨RX1, TX1, 14, tyX1, ck_1, (Nat.le_of_ble_eq_true rfl), tb_of 90 (by decide +kernel) rfl, rfl, (fun _ => rfl), tyX1_ok 3 (Nat.le_of_ble_eq_true rfl)⟩
theorem fp_RX1_18 : FP RX1 18 1 4 true (.array .int) := ⟨RX1, TX1, 14, tyX1, ck_1, (Nat.le_of_ble_eq_true rfl), tb_of 91 (by decide +kernel) rfl, rfl, (fun _ => rfl), tyX1_ok 4 (Nat.le_of_ble_eq_true rfl)⟩
theorem fp_RX1_21 : FP RX1 21 1 7 true (.array .int) := ⟨RX1, TX1, 14, tyX1, ck_1, (Nat.le_of_ble_eq_true rfl), tb_of 101 (by decide +kernel) rfl, rfl, (fun _ => rfl), tyX1_ok 7 (Nat.le_of_ble_eq_true rfl)⟩
theorem fp_RX1_24 : FP RX1 24 1 8 true (.array .int) := ⟨RX1, TX1, 14, tyX1, ck_1, (Nat.le_of_ble_eq_true rfl), tb_of 103 (by decide +kernel) rfl, rfl, (fun _ => rfl), tyX1_ok 8 (Nat.le_of_ble_eq_true rfl)⟩
theorem fp_RX1_30 : FP RX1 30 1 9 true (.object "FoundLast$Scene") := ⟨RX1, TX1, 14, tyX1, ck_1, (Nat.le_of_ble_eq_true rfl), tb_of 105 (by decide +kernel) rfl, rfl, (fun _ => rfl), tyX1_ok 9 (Nat.le_of_ble_eq_true rfl)⟩
theorem fp_RX1_34 : FP RX1 34 1 11 true (.array .int) := ⟨RX1, TX1, 14, tyX1, ck_1, (Nat.le_of_ble_eq_true rfl), tb_of 112 (by decide +kernel) rfl, rfl, (fun _ => rfl), tyX1_ok 11 (Nat.le_of_ble_eq_true rfl)⟩
theorem fp_RX1_37 : FP RX1 37 1 12 true (.array .int) := ⟨RX1, TX1, 14, tyX1, ck_1, (Nat.le_of_ble_eq_true rfl), tb_of 114 (by decide +kernel) rfl, rfl, (fun _ => rfl), tyX1_ok 12 (Nat.le_of_ble_eq_true rfl)⟩
theorem fp_RX1_40 : FP RX1 40 1 13 true (.array .int) := ⟨RX1, TX1, 14, tyX1, ck_1, (Nat.le_of_ble_eq_true rfl), tb_of 116 (by decide +kernel) rfl, rfl, (fun _ => rfl), tyX1_ok 13 (Nat.le_of_ble_eq_true rfl)⟩
theorem fp_RX1_47 : FP RX1 47 1 0 false (.int) := ⟨RX1, TX1, 14, tyX1, ck_1, (Nat.le_of_ble_eq_true rfl), tb_of 80 (by decide +kernel) rfl, rfl, (fun q => by cases q), tyX1_ok 0 (Nat.le_of_ble_eq_true rfl)⟩
theorem fp_RX1_51 : FP RX1 51 1 1 false (.int) := ⟨RX1, TX1, 14, tyX1, ck_1, (Nat.le_of_ble_eq_true rfl), tb_of 84 (by decide +kernel) rfl, rfl, (fun q => by cases q), tyX1_ok 1 (Nat.le_of_ble_eq_true rfl)⟩
theorem fp_RX1_54 : FP RX1 54 1 5 false (.int) := ⟨RX1, TX1, 14, tyX1, ck_1, (Nat.le_of_ble_eq_true rfl), tb_of 94 (by decide +kernel) rfl, rfl, (fun q => by cases q), tyX1_ok 5 (Nat.le_of_ble_eq_true rfl)⟩
theorem fp_RX1_57 : FP RX1 57 1 6 false (.int) := ⟨RX1, TX1, 14, tyX1, ck_1, (Nat.le_of_ble_eq_true rfl), tb_of 98 (by decide +kernel) rfl, rfl, (fun q => by cases q), tyX1_ok 6 (Nat.le_of_ble_eq_true rfl)⟩
theorem fp_RX1_60 : FP RX1 60 3 0 false (.int) := ⟨RX3, TX3, 6, tyX3, ck_3, (Nat.le_of_ble_eq_true rfl), tb_of 38 (by decide +kernel) rfl, rfl, (fun q => by cases q), tyX3_ok 0 (Nat.le_of_ble_eq_true rfl)⟩
theorem fp_RX1_63 : FP RX1 63 1 10 false (.int) := ⟨RX1, TX1, 14, tyX1, ck_1, (Nat.le_of_ble_eq_true rfl), tb_of 109 (by decide +kernel) rfl, rfl, (fun q => by cases q), tyX1_ok 10 (Nat.le_of_ble_eq_true rfl)⟩
theorem fp_RX2_11 : FP RX2 11 2 0 true (.array (.object "FoundLast$Scene")) := ⟨RX2, TX2, 2, tyX2, ck_2, (Nat.le_of_ble_eq_true rfl), tb_of 156 (by decide +kernel) rfl, rfl, (fun _ => rfl), tyX2_ok 0 (Nat.le_of_ble_eq_true rfl)⟩
theorem fp_RX2_17 : FP RX2 17 2 1 false (.int) := ⟨RX2, TX2, 2, tyX2, ck_2, (Nat.le_of_ble_eq_true rfl), tb_of 157 (by decide +kernel) rfl, rfl, (fun q => by cases q), tyX2_ok 1 (Nat.le_of_ble_eq_true rfl)⟩
theorem fp_RX3_9 : FP RX3 9 3 0 false (.int) := ⟨RX3, TX3, 6, tyX3, ck_3, (Nat.le_of_ble_eq_true rfl), tb_of 37 (by decide +kernel) rfl, rfl, (fun q => by cases q), tyX3_ok 0 (Nat.le_of_ble_eq_true rfl)⟩
theorem fp_RX3_15 : FP RX3 15 3 1 true (.array .int) := ⟨RX3, TX3, 6, tyX3, ck_3, (Nat.le_of_ble_eq_true rfl), tb_of 41 (by decide +kernel) rfl, rfl, (fun _ => rfl), tyX3_ok 1 (Nat.le_of_ble_eq_true rfl)⟩
theorem fp_RX3_19 : FP RX3 19 3 2 true (.array .int) := ⟨RX3, TX3, 6, tyX3, ck_3, (Nat.le_of_ble_eq_true rfl), tb_of 46 (by decide +kernel) rfl, rfl, (fun _ => rfl), tyX3_ok 2 (Nat.le_of_ble_eq_true rfl)⟩
theorem fp_RX3_22 : FP RX3 22 3 3 true (.array .int) := ⟨RX3, TX3, 6, tyX3, ck_3, (Nat.le_of_ble_eq_true rfl), tb_of 50 (by decide +kernel) rfl, rfl, (fun _ => rfl), tyX3_ok 3 (Nat.le_of_ble_eq_true rfl)⟩
theorem fp_RX3_25 : FP RX3 25 3 4 true (.array .int) := ⟨RX3, TX3, 6, tyX3, ck_3, (Nat.le_of_ble_eq_true rfl), tb_of 54 (by decide +kernel) rfl, rfl, (fun _ => rfl), tyX3_ok 4 (Nat.le_of_ble_eq_true rfl)⟩
theorem fp_RX3_28 : FP RX3 28 3 5 true (.array .int) := ⟨RX3, TX3, 6, tyX3, ck_3, (Nat.le_of_ble_eq_true rfl), tb_of 58 (by decide +kernel) rfl, rfl, (fun _ => rfl), tyX3_ok 5 (Nat.le_of_ble_eq_true rfl)⟩
theorem fp_RX4_9 : FP RX4 9 4 0 false (.array .byte) := ⟨RX4, TX4, 8, tyX4, ck_4, (Nat.le_of_ble_eq_true rfl), tb_of 235 (by decide +kernel) rfl, rfl, (fun q => by cases q), tyX4_ok 0 (Nat.le_of_ble_eq_true rfl)⟩
theorem fp_RX4_15 : FP RX4 15 4 1 false (.int) := ⟨RX4, TX4, 8, tyX4, ck_4, (Nat.le_of_ble_eq_true rfl), tb_of 236 (by decide +kernel) rfl, rfl, (fun q => by cases q), tyX4_ok 1 (Nat.le_of_ble_eq_true rfl)⟩
theorem fp_RX4_19 : FP RX4 19 4 2 false (.int) := ⟨RX4, TX4, 8, tyX4, ck_4, (Nat.le_of_ble_eq_true rfl), tb_of 237 (by decide +kernel) rfl, rfl, (fun q => by cases q), tyX4_ok 2 (Nat.le_of_ble_eq_true rfl)⟩
theorem fp_RX4_22 : FP RX4 22 4 3 false (.int) := ⟨RX4, TX4, 8, tyX4, ck_4, (Nat.le_of_ble_eq_true rfl), tb_of 238 (by decide +kernel) rfl, rfl, (fun q => by cases q), tyX4_ok 3 (Nat.le_of_ble_eq_true rfl)⟩
theorem fp_RX4_25 : FP RX4 25 4 4 false (.int) := ⟨RX4, TX4, 8, tyX4, ck_4, (Nat.le_of_ble_eq_true rfl), tb_of 239 (by decide +kernel) rfl, rfl, (fun q => by cases q), tyX4_ok 4 (Nat.le_of_ble_eq_true rfl)⟩
theorem fp_RX4_28 : FP RX4 28 4 5 false (.int) := ⟨RX4, TX4, 8, tyX4, ck_4, (Nat.le_of_ble_eq_true rfl), tb_of 240 (by decide +kernel) rfl, rfl, (fun q => by cases q), tyX4_ok 5 (Nat.le_of_ble_eq_true rfl)⟩
theorem fp_RX4_31 : FP RX4 31 4 6 false (.int) := ⟨RX4, TX4, 8, tyX4, ck_4, (Nat.le_of_ble_eq_true rfl), tb_of 241 (by decide +kernel) rfl, rfl, (fun q => by cases q), tyX4_ok 6 (Nat.le_of_ble_eq_true rfl)⟩
theorem fp_RX4_34 : FP RX4 34 4 7 false (.int) := ⟨RX4, TX4, 8, tyX4, ck_4, (Nat.le_of_ble_eq_true rfl), tb_of 242 (by decide +kernel) rfl, rfl, (fun q => by cases q), tyX4_ok 7 (Nat.le_of_ble_eq_true rfl)⟩
theorem fp_RX4_109 : FP RX4 109 1 5 false (.int) := ⟨RX1, TX1, 14, tyX1, ck_1, (Nat.le_of_ble_eq_true rfl), tb_of 96 (by decide +kernel) rfl, rfl, (fun q => by cases q), tyX1_ok 5 (Nat.le_of_ble_eq_true rfl)⟩
theorem fp_RX5_9 : FP RX5 9 5 0 true (.array .long) := ⟨RX5, TX5, 4, tyX5, ck_5, (Nat.le_of_ble_eq_true rfl), tb_of 215 (by decide +kernel) rfl, rfl, (fun _ => rfl), tyX5_ok 0 (Nat.le_of_ble_eq_true rfl)⟩
theorem fp_RX5_15 : FP RX5 15 5 1 true (.array .long) := ⟨RX5, TX5, 4, tyX5, ck_5, (Nat.le_of_ble_eq_true rfl), tb_of 216 (by decide +kernel) rfl, rfl, (fun _ => rfl), tyX5_ok 1 (Nat.le_of_ble_eq_true rfl)⟩
theorem fp_RX5_18 : FP RX5 18 5 2 true (.array .long) := ⟨RX5, TX5, 4, tyX5, ck_5, (Nat.le_of_ble_eq_true rfl), tb_of 217 (by decide +kernel) rfl, rfl, (fun _ => rfl), tyX5_ok 2 (Nat.le_of_ble_eq_true rfl)⟩
theorem fp_RX5_21 : FP RX5 21 5 3 true (.array .long) := ⟨RX5, TX5, 4, tyX5, ck_5, (Nat.le_of_ble_eq_true rfl), tb_of 218 (by decide +kernel) rfl, rfl, (fun _ => rfl), tyX5_ok 3 (Nat.le_of_ble_eq_true rfl)⟩
theorem fp_RX6_14 : FP RX6 14 6 2 true (.object "FoundLast$Scene") := ⟨RX6, TX6, 5, tyX6, ck_6, (Nat.le_of_ble_eq_true rfl), tb_of 195 (by decide +kernel) rfl, rfl, (fun _ => rfl), tyX6_ok 2 (Nat.le_of_ble_eq_true rfl)⟩
theorem fp_RX6_18 : FP RX6 18 6 3 true (.array .int) := ⟨RX6, TX6, 5, tyX6, ck_6, (Nat.le_of_ble_eq_true rfl), tb_of 196 (by decide +kernel) rfl, rfl, (fun _ => rfl), tyX6_ok 3 (Nat.le_of_ble_eq_true rfl)⟩
theorem fp_RX6_22 : FP RX6 22 6 4 true (.array .int) := ⟨RX6, TX6, 5, tyX6, ck_6, (Nat.le_of_ble_eq_true rfl), tb_of 197 (by decide +kernel) rfl, rfl, (fun _ => rfl), tyX6_ok 4 (Nat.le_of_ble_eq_true rfl)⟩
theorem fp_RX6_34 : FP RX6 34 6 0 false (.int) := ⟨RX6, TX6, 5, tyX6, ck_6, (Nat.le_of_ble_eq_true rfl), tb_of 191 (by decide +kernel) rfl, rfl, (fun q => by cases q), tyX6_ok 0 (Nat.le_of_ble_eq_true rfl)⟩
theorem fp_RX6_38 : FP RX6 38 6 1 false (.int) := ⟨RX6, TX6, 5, tyX6, ck_6, (Nat.le_of_ble_eq_true rfl), tb_of 193 (by decide +kernel) rfl, rfl, (fun q => by cases q), tyX6_ok 1 (Nat.le_of_ble_eq_true rfl)⟩
theorem fp_RX6_84 : FP RX6 84 3 0 false (.int) := ⟨RX3, TX3, 6, tyX3, ck_3, (Nat.le_of_ble_eq_true rfl), tb_of 39 (by decide +kernel) rfl, rfl, (fun q => by cases q), tyX3_ok 0 (Nat.le_of_ble_eq_true rfl)⟩
theorem fp_RX8_7 : FP RX8 7 8 0 true (.array .int) := ⟨RX8, TX8, 27, tyX8, ck_8, (Nat.le_of_ble_eq_true rfl), tb_of 858 (by decide +kernel) rfl, rfl, (fun _ => rfl), tyX8_ok 0 (Nat.le_of_ble_eq_true rfl)⟩
theorem fp_RX8_13 : FP RX8 13 8 1 true (.array .int) := ⟨RX8, TX8, 27, tyX8, ck_8, (Nat.le_of_ble_eq_true rfl), tb_of 859 (by decide +kernel) rfl, rfl, (fun _ => rfl), tyX8_ok 1 (Nat.le_of_ble_eq_true rfl)⟩
theorem fp_RX8_16 : FP RX8 16 8 2 true (.array .boolean) := ⟨RX8, TX8, 27, tyX8, ck_8, (Nat.le_of_ble_eq_true rfl), tb_of 860 (by decide +kernel) rfl, rfl, (fun _ => rfl), tyX8_ok 2 (Nat.le_of_ble_eq_true rfl)⟩
theorem fp_RX8_20 : FP RX8 20 8 3 true (.array .int) := ⟨RX8, TX8, 27, tyX8, ck_8, (Nat.le_of_ble_eq_true rfl), tb_of 861 (by decide +kernel) rfl, rfl, (fun _ => rfl), tyX8_ok 3 (Nat.le_of_ble_eq_true rfl)⟩
theorem fp_RX8_23 : FP RX8 23 8 5 false (.long) := ⟨RX8, TX8, 27, tyX8, ck_8, (Nat.le_of_ble_eq_true rfl), tb_of 863 (by decide +kernel) rfl, rfl, (fun q => by cases q), tyX8_ok 5 (Nat.le_of_ble_eq_true rfl)⟩
theorem fp_RX8_27 : FP RX8 27 8 8 true (.array .int) := ⟨RX8, TX8, 27, tyX8, ck_8, (Nat.le_of_ble_eq_true rfl), tb_of 866 (by decide +kernel) rfl, rfl, (fun _ => rfl), tyX8_ok 8 (Nat.le_of_ble_eq_true rfl)⟩
theorem fp_RX8_30 : FP RX8 30 8 9 true (.array .int) := ⟨RX8, TX8, 27, tyX8, ck_8, (Nat.le_of_ble_eq_true rfl), tb_of 867 (by decide +kernel) rfl, rfl, (fun _ => rfl), tyX8_ok 9 (Nat.le_of_ble_eq_true rfl)⟩
theorem fp_RX8_33 : FP RX8 33 8 10 true (.array .int) := ⟨RX8, TX8, 27, tyX8, ck_8, (Nat.le_of_ble_eq_true rfl), tb_of 868 (by decide +kernel) rfl, rfl, (fun _ => rfl), tyX8_ok 10 (Nat.le_of_ble_eq_true rfl)⟩
theorem fp_RX8_36 : FP RX8 36 8 11 true (.array .int) := ⟨RX8, TX8, 27, tyX8, ck_8, (Nat.le_of_ble_eq_true rfl), tb_of 869 (by decide +kernel) rfl, rfl, (fun _ => rfl), tyX8_ok 11 (Nat.le_of_ble_eq_true rfl)⟩
theorem fp_RX8_39 : FP RX8 39 8 12 true (.array .int) := ⟨RX8, TX8, 27, tyX8, ck_8, (Nat.le_of_ble_eq_true rfl), tb_of 870 (by decide +kernel) rfl, rfl, (fun _ => rfl), tyX8_ok 12 (Nat.le_of_ble_eq_true rfl)⟩
theorem fp_RX8_42 : FP RX8 42 8 13 true (.array .int) := ⟨RX8, TX8, 27, tyX8, ck_8, (Nat.le_of_ble_eq_true rfl), tb_of 871 (by decide +kernel) rfl, rfl, (fun _ => rfl), tyX8_ok 13 (Nat.le_of_ble_eq_true rfl)⟩
theorem fp_RX8_45 : FP RX8 45 8 14 true (.array .int) := ⟨RX8, TX8, 27, tyX8, ck_8, (Nat.le_of_ble_eq_true rfl), tb_of 872 (by decide +kernel) rfl, rfl, (fun _ => rfl), tyX8_ok 14 (Nat.le_of_ble_eq_true rfl)⟩
theorem fp_RX8_48 : FP RX8 48 8 15 true (.array .int) := ⟨RX8, TX8, 27, tyX8, ck_8, (Nat.le_of_ble_eq_true rfl), tb_of 873 (by decide +kernel) rfl, rfl, (fun _ => rfl), tyX8_ok 15 (Nat.le_of_ble_eq_true rfl)⟩
theorem fp_RX8_51 : FP RX8 51 8 16 true (.array .int) := ⟨RX8, TX8, 27, tyX8, ck_8, (Nat.le_of_ble_eq_true rfl), tb_of 874 (by decide +kernel) rfl, rfl, (fun _ => rfl), tyX8_ok 16 (Nat.le_of_ble_eq_true rfl)⟩
theorem fp_RX8_54 : FP RX8 54 8 17 true (.array .long) := ⟨RX8, TX8, 27, tyX8, ck_8, (Nat.le_of_ble_eq_true rfl), tb_of 875 (by decide +kernel) rfl, rfl, (fun _ => rfl), tyX8_ok 17 (Nat.le_of_ble_eq_true rfl)⟩
theorem fp_RX8_58 : FP RX8 58 8 18 true (.array .long) := ⟨RX8, TX8, 27, tyX8, ck_8, (Nat.le_of_ble_eq_true rfl), tb_of 876 (by decide +kernel) rfl, rfl, (fun _ => rfl), tyX8_ok 18 (Nat.le_of_ble_eq_true rfl)⟩
theorem fp_RX8_61 : FP RX8 61 8 19 true (.array .int) := ⟨RX8, TX8, 27, tyX8, ck_8, (Nat.le_of_ble_eq_true rfl), tb_of 877 (by decide +kernel) rfl, rfl, (fun _ => rfl), tyX8_ok 19 (Nat.le_of_ble_eq_true rfl)⟩
theorem fp_RX8_64 : FP RX8 64 8 25 true (.array .int) := ⟨RX8, TX8, 27, tyX8, ck_8, (Nat.le_of_ble_eq_true rfl), tb_of 883 (by decide +kernel) rfl, rfl, (fun _ => rfl), tyX8_ok 25 (Nat.le_of_ble_eq_true rfl)⟩
theorem fp_RX8_67 : FP RX8 67 8 26 true (.array .int) := ⟨RX8, TX8, 27, tyX8, ck_8, (Nat.le_of_ble_eq_true rfl), tb_of 884 (by decide +kernel) rfl, rfl, (fun _ => rfl), tyX8_ok 26 (Nat.le_of_ble_eq_true rfl)⟩
theorem fp_RX8_112 : FP RX8 112 8 6 false (.int) := ⟨RX8, TX8, 27, tyX8, ck_8, (Nat.le_of_ble_eq_true rfl), tb_of 864 (by decide +kernel) rfl, rfl, (fun q => by cases q), tyX8_ok 6 (Nat.le_of_ble_eq_true rfl)⟩
theorem fp_RX8_116 : FP RX8 116 8 7 false (.int) := ⟨RX8, TX8, 27, tyX8, ck_8, (Nat.le_of_ble_eq_true rfl), tb_of 865 (by decide +kernel) rfl, rfl, (fun q => by cases q), tyX8_ok 7 (Nat.le_of_ble_eq_true rfl)⟩
theorem fp_RX8_183 : FP RX8 183 8 4 false (.long) := ⟨RX8, TX8, 27, tyX8, ck_8, (Nat.le_of_ble_eq_true rfl), tb_of 862 (by decide +kernel) rfl, rfl, (fun q => by cases q), tyX8_ok 4 (Nat.le_of_ble_eq_true rfl)⟩
theorem fp_RX8_225 : FP RX8 225 8 20 false (.int) := ⟨RX8, TX8, 27, tyX8, ck_8, (Nat.le_of_ble_eq_true rfl), tb_of 878 (by decide +kernel) rfl, rfl, (fun q => by cases q), tyX8_ok 20 (Nat.le_of_ble_eq_true rfl)⟩
theorem fp_RX8_236 : FP RX8 236 8 21 false (.int) := ⟨RX8, TX8, 27, tyX8, ck_8, (Nat.le_of_ble_eq_true rfl), tb_of 879 (by decide +kernel) rfl, rfl, (fun q => by cases q), tyX8_ok 21 (Nat.le_of_ble_eq_true rfl)⟩
theorem fp_RX8_239 : FP RX8 239 8 22 false (.int) := ⟨RX8, TX8, 27, tyX8, ck_8, (Nat.le_of_ble_eq_true rfl), tb_of 880 (by decide +kernel) rfl, rfl, (fun q => by cases q), tyX8_ok 22 (Nat.le_of_ble_eq_true rfl)⟩
theorem fp_RX8_242 : FP RX8 242 8 23 false (.int) := ⟨RX8, TX8, 27, tyX8, ck_8, (Nat.le_of_ble_eq_true rfl), tb_of 881 (by decide +kernel) rfl, rfl, (fun q => by cases q), tyX8_ok 23 (Nat.le_of_ble_eq_true rfl)⟩
theorem fp_RX8_245 : FP RX8 245 8 24 false (.int) := ⟨RX8, TX8, 27, tyX8, ck_8, (Nat.le_of_ble_eq_true rfl), tb_of 882 (by decide +kernel) rfl, rfl, (fun q => by cases q), tyX8_ok 24 (Nat.le_of_ble_eq_true rfl)⟩
theorem zi_RL : Cond.initialized RL ∈ tb := tb_of 0 (by decide +kernel) rfl
theorem zi_RX7 : Cond.initialized RX7 ∈ tb := tb_of 1 (by decide +kernel) rfl
theorem zi_RX1 : Cond.initialized RX1 ∈ tb := tb_of 2 (by decide +kernel) rfl
theorem zi_RX3 : Cond.initialized RX3 ∈ tb := tb_of 3 (by decide +kernel) rfl
theorem zi_RX2 : Cond.initialized RX2 ∈ tb := tb_of 4 (by decide +kernel) rfl
theorem zi_RX0 : Cond.initialized RX0 ∈ tb := tb_of 5 (by decide +kernel) rfl
theorem zi_RX6 : Cond.initialized RX6 ∈ tb := tb_of 6 (by decide +kernel) rfl
theorem zi_RX5 : Cond.initialized RX5 ∈ tb := tb_of 7 (by decide +kernel) rfl
theorem zi_RX4 : Cond.initialized RX4 ∈ tb := tb_of 8 (by decide +kernel) rfl
theorem zi_RX8 : Cond.initialized RX8 ∈ tb := tb_of 9 (by decide +kernel) rfl
theorem zi_RJ9 : Cond.initialized RJ9 ∈ tb := tb_of 10 (by decide +kernel) rfl
theorem zi_RJ0 : Cond.initialized RJ0 ∈ tb := tb_of 11 (by decide +kernel) rfl
theorem zi_RJ1 : Cond.initialized RJ1 ∈ tb := tb_of 12 (by decide +kernel) rfl
theorem zi_RJ3 : Cond.initialized RJ3 ∈ tb := tb_of 13 (by decide +kernel) rfl
theorem zi_RJ2 : Cond.initialized RJ2 ∈ tb := tb_of 14 (by decide +kernel) rfl
theorem zi_RJ10 : Cond.initialized RJ10 ∈ tb := tb_of 15 (by decide +kernel) rfl
theorem zi_RJ6 : Cond.initialized RJ6 ∈ tb := tb_of 16 (by decide +kernel) rfl
theorem zc_X3_init : Cond.code yX3_init cX3_init 1 none ∈ tb := tb_of 35 (by decide +kernel) rfl
theorem wn_X3_init : Cond.instanceMethod yX3_init ∈ tb := tb_of 34 (by decide +kernel) rfl
theorem zc_X1_restart : Cond.code yX1_restart cX1_restart 4 none ∈ tb := tb_of 79 (by decide +kernel) rfl
theorem wn_X1_restart : Cond.instanceMethod yX1_restart ∈ tb := tb_of 77 (by decide +kernel) rfl
theorem zc_X1_init : Cond.code yX1_init cX1_init 1 none ∈ tb := tb_of 29 (by decide +kernel) rfl
theorem wn_X1_init : Cond.instanceMethod yX1_init ∈ tb := tb_of 28 (by decide +kernel) rfl
theorem zc_X2_init : Cond.code yX2_init cX2_init 2 none ∈ tb := tb_of 151 (by decide +kernel) rfl
theorem wn_X2_init : Cond.instanceMethod yX2_init ∈ tb := tb_of 150 (by decide +kernel) rfl
theorem zc_X0_init : Cond.code yX0_init cX0_init 1 none ∈ tb := tb_of 170 (by decide +kernel) rfl
theorem wn_X0_init : Cond.instanceMethod yX0_init ∈ tb := tb_of 169 (by decide +kernel) rfl
theorem zc_X6_init : Cond.code yX6_init cX6_init 1 none ∈ tb := tb_of 187 (by decide +kernel) rfl
theorem wn_X6_init : Cond.instanceMethod yX6_init ∈ tb := tb_of 186 (by decide +kernel) rfl
theorem zc_X5_init : Cond.code yX5_init cX5_init 1 none ∈ tb := tb_of 213 (by decide +kernel) rfl
theorem wn_X5_init : Cond.instanceMethod yX5_init ∈ tb := tb_of 212 (by decide +kernel) rfl
theorem zc_X4_init : Cond.code yX4_init cX4_init 1 none ∈ tb := tb_of 233 (by decide +kernel) rfl
theorem wn_X4_init : Cond.instanceMethod yX4_init ∈ tb := tb_of 232 (by decide +kernel) rfl
theorem zc_X7_init : Cond.code yX7_init cX7_init 2 none ∈ tb := tb_of 21 (by decide +kernel) rfl
theorem wn_X7_init : Cond.instanceMethod yX7_init ∈ tb := tb_of 20 (by decide +kernel) rfl
theorem zc_X7_within : Cond.code yX7_within cX7_within 3 (some .boolean) ∈ tb := tb_of 319 (by decide +kernel) rfl
theorem ws_X7_within : Cond.static yX7_within ∈ tb := tb_of 318 (by decide +kernel) rfl
theorem zc_X7_refuseBad : Cond.code yX7_refuseBad cX7_refuseBad 1 (some .int) ∈ tb := tb_of 323 (by decide +kernel) rfl
theorem wn_X7_refuseBad : Cond.instanceMethod yX7_refuseBad ∈ tb := tb_of 322 (by decide +kernel) rfl
theorem zc_X7_house : Cond.code yX7_house cX7_house 4 (some .int) ∈ tb := tb_of 316 (by decide +kernel) rfl
theorem wn_X7_house : Cond.instanceMethod yX7_house ∈ tb := tb_of 314 (by decide +kernel) rfl
theorem zc_X7_isRoom : Cond.code yX7_isRoom cX7_isRoom 1 (some .boolean) ∈ tb := tb_of 331 (by decide +kernel) rfl
theorem ws_X7_isRoom : Cond.static yX7_isRoom ∈ tb := tb_of 330 (by decide +kernel) rfl
theorem zc_X7_room : Cond.code yX7_room cX7_room 4 (some .int) ∈ tb := tb_of 328 (by decide +kernel) rfl
theorem wn_X7_room : Cond.instanceMethod yX7_room ∈ tb := tb_of 326 (by decide +kernel) rfl
theorem zc_X1_creaksBetween : Cond.code yX1_creaksBetween cX1_creaksBetween 3 (some .int) ∈ tb := tb_of 339 (by decide +kernel) rfl
theorem wn_X1_creaksBetween : Cond.instanceMethod yX1_creaksBetween ∈ tb := tb_of 337 (by decide +kernel) rfl
theorem zc_X1_hang : Cond.code yX1_hang cX1_hang 4 none ∈ tb := tb_of 343 (by decide +kernel) rfl
theorem wn_X1_hang : Cond.instanceMethod yX1_hang ∈ tb := tb_of 341 (by decide +kernel) rfl
theorem zc_X7_door : Cond.code yX7_door cX7_door 5 (some .int) ∈ tb := tb_of 335 (by decide +kernel) rfl
theorem wn_X7_door : Cond.instanceMethod yX7_door ∈ tb := tb_of 333 (by decide +kernel) rfl
theorem zc_X7_refuseFull : Cond.code yX7_refuseFull cX7_refuseFull 1 (some .int) ∈ tb := tb_of 351 (by decide +kernel) rfl
theorem wn_X7_refuseFull : Cond.instanceMethod yX7_refuseFull ∈ tb := tb_of 350 (by decide +kernel) rfl
theorem zc_X7_list : Cond.code yX7_list cX7_list 2 (some .int) ∈ tb := tb_of 347 (by decide +kernel) rfl
theorem wn_X7_list : Cond.instanceMethod yX7_list ∈ tb := tb_of 345 (by decide +kernel) rfl
theorem zc_X7_only : Cond.code yX7_only cX7_only 3 (some .int) ∈ tb := tb_of 355 (by decide +kernel) rfl
theorem wn_X7_only : Cond.instanceMethod yX7_only ∈ tb := tb_of 353 (by decide +kernel) rfl
theorem zc_X7_eyes : Cond.code yX7_eyes cX7_eyes 3 (some .int) ∈ tb := tb_of 359 (by decide +kernel) rfl
theorem wn_X7_eyes : Cond.instanceMethod yX7_eyes ∈ tb := tb_of 357 (by decide +kernel) rfl
theorem zc_X3_place : Cond.code yX3_place cX3_place 3 none ∈ tb := tb_of 371 (by decide +kernel) rfl
theorem wn_X3_place : Cond.instanceMethod yX3_place ∈ tb := tb_of 369 (by decide +kernel) rfl
theorem zc_X1_bring : Cond.code yX1_bring cX1_bring 5 (some .int) ∈ tb := tb_of 367 (by decide +kernel) rfl
theorem wn_X1_bring : Cond.instanceMethod yX1_bring ∈ tb := tb_of 365 (by decide +kernel) rfl
theorem zc_X7_heir : Cond.code yX7_heir cX7_heir 4 (some .int) ∈ tb := tb_of 363 (by decide +kernel) rfl
theorem wn_X7_heir : Cond.instanceMethod yX7_heir ∈ tb := tb_of 361 (by decide +kernel) rfl
theorem zc_X7_type : Cond.code yX7_type cX7_type 2 (some .int) ∈ tb := tb_of 375 (by decide +kernel) rfl
theorem wn_X7_type : Cond.instanceMethod yX7_type ∈ tb := tb_of 373 (by decide +kernel) rfl
theorem zc_X7_clear : Cond.code yX7_clear cX7_clear 2 (some .int) ∈ tb := tb_of 379 (by decide +kernel) rfl
theorem wn_X7_clear : Cond.instanceMethod yX7_clear ∈ tb := tb_of 377 (by decide +kernel) rfl
theorem zc_X4_isLetter : Cond.code yX4_isLetter cX4_isLetter 1 (some .boolean) ∈ tb := tb_of 397 (by decide +kernel) rfl
theorem ws_X4_isLetter : Cond.static yX4_isLetter ∈ tb := tb_of 396 (by decide +kernel) rfl
theorem zc_X4_isFigure : Cond.code yX4_isFigure cX4_isFigure 1 (some .boolean) ∈ tb := tb_of 400 (by decide +kernel) rfl
theorem ws_X4_isFigure : Cond.static yX4_isFigure ∈ tb := tb_of 399 (by decide +kernel) rfl
theorem zc_X4_advance : Cond.code yX4_advance cX4_advance 1 none ∈ tb := tb_of 394 (by decide +kernel) rfl
theorem wn_X4_advance : Cond.instanceMethod yX4_advance ∈ tb := tb_of 393 (by decide +kernel) rfl
theorem zc_X4_goesOn : Cond.code yX4_goesOn cX4_goesOn 1 (some .boolean) ∈ tb := tb_of 404 (by decide +kernel) rfl
theorem wn_X4_goesOn : Cond.instanceMethod yX4_goesOn ∈ tb := tb_of 403 (by decide +kernel) rfl
theorem zc_X4_isWord : Cond.code yX4_isWord cX4_isWord 3 (some .boolean) ∈ tb := tb_of 417 (by decide +kernel) rfl
theorem wn_X4_isWord : Cond.instanceMethod yX4_isWord ∈ tb := tb_of 416 (by decide +kernel) rfl
theorem zc_X4_number : Cond.code yX4_number cX4_number 4 (some .int) ∈ tb := tb_of 469 (by decide +kernel) rfl
theorem wn_X4_number : Cond.instanceMethod yX4_number ∈ tb := tb_of 468 (by decide +kernel) rfl
theorem zc_X4_takeHouse : Cond.code yX4_takeHouse cX4_takeHouse 4 none ∈ tb := tb_of 412 (by decide +kernel) rfl
theorem wn_X4_takeHouse : Cond.instanceMethod yX4_takeHouse ∈ tb := tb_of 411 (by decide +kernel) rfl
theorem zc_X4_takeRoom : Cond.code yX4_takeRoom cX4_takeRoom 4 none ∈ tb := tb_of 476 (by decide +kernel) rfl
theorem wn_X4_takeRoom : Cond.instanceMethod yX4_takeRoom ∈ tb := tb_of 475 (by decide +kernel) rfl
theorem zc_X4_takeDoor : Cond.code yX4_takeDoor cX4_takeDoor 6 none ∈ tb := tb_of 481 (by decide +kernel) rfl
theorem wn_X4_takeDoor : Cond.instanceMethod yX4_takeDoor ∈ tb := tb_of 480 (by decide +kernel) rfl
theorem zc_X4_takeList : Cond.code yX4_takeList cX4_takeList 4 none ∈ tb := tb_of 487 (by decide +kernel) rfl
theorem wn_X4_takeList : Cond.instanceMethod yX4_takeList ∈ tb := tb_of 486 (by decide +kernel) rfl
theorem zc_X4_takeHeir : Cond.code yX4_takeHeir cX4_takeHeir 5 none ∈ tb := tb_of 492 (by decide +kernel) rfl
theorem wn_X4_takeHeir : Cond.instanceMethod yX4_takeHeir ∈ tb := tb_of 491 (by decide +kernel) rfl
theorem zc_X4_takeStop : Cond.code yX4_takeStop cX4_takeStop 1 none ∈ tb := tb_of 497 (by decide +kernel) rfl
theorem wn_X4_takeStop : Cond.instanceMethod yX4_takeStop ∈ tb := tb_of 496 (by decide +kernel) rfl
theorem zc_X4_takeItem : Cond.code yX4_takeItem cX4_takeItem 2 none ∈ tb := tb_of 408 (by decide +kernel) rfl
theorem wn_X4_takeItem : Cond.instanceMethod yX4_takeItem ∈ tb := tb_of 407 (by decide +kernel) rfl
theorem zc_X4_readInto : Cond.code yX4_readInto cX4_readInto 5 (some .int) ∈ tb := tb_of 387 (by decide +kernel) rfl
theorem wn_X4_readInto : Cond.instanceMethod yX4_readInto ∈ tb := tb_of 385 (by decide +kernel) rfl
theorem zc_X3_take : Cond.code yX3_take cX3_take 2 none ∈ tb := tb_of 508 (by decide +kernel) rfl
theorem wn_X3_take : Cond.instanceMethod yX3_take ∈ tb := tb_of 506 (by decide +kernel) rfl
theorem zc_X1_take : Cond.code yX1_take cX1_take 2 none ∈ tb := tb_of 501 (by decide +kernel) rfl
theorem wn_X1_take : Cond.instanceMethod yX1_take ∈ tb := tb_of 499 (by decide +kernel) rfl
theorem zc_X7_read : Cond.code yX7_read cX7_read 2 (some .int) ∈ tb := tb_of 383 (by decide +kernel) rfl
theorem wn_X7_read : Cond.instanceMethod yX7_read ∈ tb := tb_of 381 (by decide +kernel) rfl
theorem zc_X7_isHeir : Cond.code yX7_isHeir cX7_isHeir 2 (some .boolean) ∈ tb := tb_of 517 (by decide +kernel) rfl
theorem wn_X7_isHeir : Cond.instanceMethod yX7_isHeir ∈ tb := tb_of 516 (by decide +kernel) rfl
theorem zc_X7_refuseNo : Cond.code yX7_refuseNo cX7_refuseNo 1 (some .int) ∈ tb := tb_of 521 (by decide +kernel) rfl
theorem wn_X7_refuseNo : Cond.instanceMethod yX7_refuseNo ∈ tb := tb_of 520 (by decide +kernel) rfl
theorem zc_X2_dropOldest : Cond.code yX2_dropOldest cX2_dropOldest 3 none ∈ tb := tb_of 529 (by decide +kernel) rfl
theorem wn_X2_dropOldest : Cond.instanceMethod yX2_dropOldest ∈ tb := tb_of 528 (by decide +kernel) rfl
theorem zc_X2_keep : Cond.code yX2_keep cX2_keep 2 none ∈ tb := tb_of 525 (by decide +kernel) rfl
theorem wn_X2_keep : Cond.instanceMethod yX2_keep ∈ tb := tb_of 523 (by decide +kernel) rfl
theorem zc_X3_go : Cond.code yX3_go cX3_go 3 none ∈ tb := tb_of 534 (by decide +kernel) rfl
theorem wn_X3_go : Cond.instanceMethod yX3_go ∈ tb := tb_of 532 (by decide +kernel) rfl
theorem zc_X7_move : Cond.code yX7_move cX7_move 5 (some .int) ∈ tb := tb_of 513 (by decide +kernel) rfl
theorem wn_X7_move : Cond.instanceMethod yX7_move ∈ tb := tb_of 511 (by decide +kernel) rfl
theorem zc_X1_hasCompany : Cond.code yX1_hasCompany cX1_hasCompany 4 (some .boolean) ∈ tb := tb_of 558 (by decide +kernel) rfl
theorem wn_X1_hasCompany : Cond.instanceMethod yX1_hasCompany ∈ tb := tb_of 557 (by decide +kernel) rfl
theorem zc_X1_hidden : Cond.code yX1_hidden cX1_hidden 7 (some .int) ∈ tb := tb_of 550 (by decide +kernel) rfl
theorem wn_X1_hidden : Cond.instanceMethod yX1_hidden ∈ tb := tb_of 548 (by decide +kernel) rfl
theorem zc_X1_goingOut : Cond.code yX1_goingOut cX1_goingOut 4 (some .int) ∈ tb := tb_of 546 (by decide +kernel) rfl
theorem wn_X1_goingOut : Cond.instanceMethod yX1_goingOut ∈ tb := tb_of 544 (by decide +kernel) rfl
theorem zc_X1_lookedInto : Cond.code yX1_lookedInto cX1_lookedInto 3 (some .int) ∈ tb := tb_of 570 (by decide +kernel) rfl
theorem wn_X1_lookedInto : Cond.instanceMethod yX1_lookedInto ∈ tb := tb_of 568 (by decide +kernel) rfl
theorem zc_X1_inSight : Cond.code yX1_inSight cX1_inSight 6 (some .int) ∈ tb := tb_of 566 (by decide +kernel) rfl
theorem wn_X1_inSight : Cond.instanceMethod yX1_inSight ∈ tb := tb_of 564 (by decide +kernel) rfl
theorem zc_X1_beingFound : Cond.code yX1_beingFound cX1_beingFound 7 (some .int) ∈ tb := tb_of 562 (by decide +kernel) rfl
theorem wn_X1_beingFound : Cond.instanceMethod yX1_beingFound ∈ tb := tb_of 560 (by decide +kernel) rfl
theorem zc_X3_leave : Cond.code yX3_leave cX3_leave 3 none ∈ tb := tb_of 578 (by decide +kernel) rfl
theorem wn_X3_leave : Cond.instanceMethod yX3_leave ∈ tb := tb_of 577 (by decide +kernel) rfl
theorem zc_X3_close : Cond.code yX3_close cX3_close 5 none ∈ tb := tb_of 574 (by decide +kernel) rfl
theorem wn_X3_close : Cond.instanceMethod yX3_close ∈ tb := tb_of 572 (by decide +kernel) rfl
theorem zc_X1_runNight : Cond.code yX1_runNight cX1_runNight 5 (some .int) ∈ tb := tb_of 542 (by decide +kernel) rfl
theorem wn_X1_runNight : Cond.instanceMethod yX1_runNight ∈ tb := tb_of 540 (by decide +kernel) rfl
theorem zc_X7_night : Cond.code yX7_night cX7_night 1 (some .int) ∈ tb := tb_of 538 (by decide +kernel) rfl
theorem wn_X7_night : Cond.instanceMethod yX7_night ∈ tb := tb_of 536 (by decide +kernel) rfl
theorem zc_X2_bringBack : Cond.code yX2_bringBack cX2_bringBack 2 none ∈ tb := tb_of 586 (by decide +kernel) rfl
theorem wn_X2_bringBack : Cond.instanceMethod yX2_bringBack ∈ tb := tb_of 584 (by decide +kernel) rfl
theorem zc_X7_undo : Cond.code yX7_undo cX7_undo 1 (some .int) ∈ tb := tb_of 582 (by decide +kernel) rfl
theorem wn_X7_undo : Cond.instanceMethod yX7_undo ∈ tb := tb_of 580 (by decide +kernel) rfl
theorem zc_X7_of : Cond.code yX7_of cX7_of 4 (some .int) ∈ tb := tb_of 590 (by decide +kernel) rfl
theorem wn_X7_of : Cond.instanceMethod yX7_of ∈ tb := tb_of 588 (by decide +kernel) rfl
theorem zc_X7_looks : Cond.code yX7_looks cX7_looks 2 (some .int) ∈ tb := tb_of 595 (by decide +kernel) rfl
theorem wn_X7_looks : Cond.instanceMethod yX7_looks ∈ tb := tb_of 593 (by decide +kernel) rfl
theorem zc_X0_after : Cond.code yX0_after cX0_after 4 (some (.object "FoundLast$Scene")) ∈ tb := tb_of 604 (by decide +kernel) rfl
theorem wn_X0_after : Cond.instanceMethod yX0_after ∈ tb := tb_of 602 (by decide +kernel) rfl
theorem zc_X7_byThen : Cond.code yX7_byThen cX7_byThen 5 (some .int) ∈ tb := tb_of 600 (by decide +kernel) rfl
theorem wn_X7_byThen : Cond.instanceMethod yX7_byThen ∈ tb := tb_of 598 (by decide +kernel) rfl
theorem zc_X0_firstFound : Cond.code yX0_firstFound cX0_firstFound 4 (some .int) ∈ tb := tb_of 614 (by decide +kernel) rfl
theorem wn_X0_firstFound : Cond.instanceMethod yX0_firstFound ∈ tb := tb_of 612 (by decide +kernel) rfl
theorem zc_X7_first : Cond.code yX7_first cX7_first 3 (some .int) ∈ tb := tb_of 610 (by decide +kernel) rfl
theorem wn_X7_first : Cond.instanceMethod yX7_first ∈ tb := tb_of 608 (by decide +kernel) rfl
theorem zc_X7_passed : Cond.code yX7_passed cX7_passed 3 (some .int) ∈ tb := tb_of 618 (by decide +kernel) rfl
theorem wn_X7_passed : Cond.instanceMethod yX7_passed ∈ tb := tb_of 616 (by decide +kernel) rfl
theorem zc_X7_isIn : Cond.code yX7_isIn cX7_isIn 2 (some .boolean) ∈ tb := tb_of 629 (by decide +kernel) rfl
theorem wn_X7_isIn : Cond.instanceMethod yX7_isIn ∈ tb := tb_of 628 (by decide +kernel) rfl
theorem zc_X0_runUntilNoMoreIn : Cond.code yX0_runUntilNoMoreIn cX0_runUntilNoMoreIn 5 none ∈ tb := tb_of 638 (by decide +kernel) rfl
theorem wn_X0_runUntilNoMoreIn : Cond.instanceMethod yX0_runUntilNoMoreIn ∈ tb := tb_of 637 (by decide +kernel) rfl
theorem zc_X0_foundNight : Cond.code yX0_foundNight cX0_foundNight 2 (some .int) ∈ tb := tb_of 642 (by decide +kernel) rfl
theorem wn_X0_foundNight : Cond.instanceMethod yX0_foundNight ∈ tb := tb_of 641 (by decide +kernel) rfl
theorem zc_X0_bestRoom : Cond.code yX0_bestRoom cX0_bestRoom 7 (some .int) ∈ tb := tb_of 633 (by decide +kernel) rfl
theorem wn_X0_bestRoom : Cond.instanceMethod yX0_bestRoom ∈ tb := tb_of 631 (by decide +kernel) rfl
theorem zc_X7_hide : Cond.code yX7_hide cX7_hide 2 (some .int) ∈ tb := tb_of 625 (by decide +kernel) rfl
theorem wn_X7_hide : Cond.instanceMethod yX7_hide ∈ tb := tb_of 623 (by decide +kernel) rfl
theorem zc_X6_empty : Cond.code yX6_empty cX6_empty 2 none ∈ tb := tb_of 654 (by decide +kernel) rfl
theorem ws_X6_empty : Cond.static yX6_empty ∈ tb := tb_of 653 (by decide +kernel) rfl
theorem zc_X6_lower : Cond.code yX6_lower cX6_lower 5 none ∈ tb := tb_of 658 (by decide +kernel) rfl
theorem ws_X6_lower : Cond.static yX6_lower ∈ tb := tb_of 657 (by decide +kernel) rfl
theorem zc_X6_spreadFrom : Cond.code yX6_spreadFrom cX6_spreadFrom 6 none ∈ tb := tb_of 668 (by decide +kernel) rfl
theorem wn_X6_spreadFrom : Cond.instanceMethod yX6_spreadFrom ∈ tb := tb_of 667 (by decide +kernel) rfl
theorem zc_X6_spread : Cond.code yX6_spread cX6_spread 4 none ∈ tb := tb_of 663 (by decide +kernel) rfl
theorem wn_X6_spread : Cond.instanceMethod yX6_spread ∈ tb := tb_of 662 (by decide +kernel) rfl
theorem zc_X6_passNight : Cond.code yX6_passNight cX6_passNight 7 none ∈ tb := tb_of 673 (by decide +kernel) rfl
theorem wn_X6_passNight : Cond.instanceMethod yX6_passNight ∈ tb := tb_of 672 (by decide +kernel) rfl
theorem zc_X6_search : Cond.code yX6_search cX6_search 4 none ∈ tb := tb_of 650 (by decide +kernel) rfl
theorem wn_X6_search : Cond.instanceMethod yX6_search ∈ tb := tb_of 648 (by decide +kernel) rfl
theorem zc_X7_way : Cond.code yX7_way cX7_way 3 (some .int) ∈ tb := tb_of 646 (by decide +kernel) rfl
theorem wn_X7_way : Cond.instanceMethod yX7_way ∈ tb := tb_of 644 (by decide +kernel) rfl
theorem zc_X0_goThroughLeastDoor : Cond.code yX0_goThroughLeastDoor cX0_goThroughLeastDoor 5 none ∈ tb := tb_of 691 (by decide +kernel) rfl
theorem wn_X0_goThroughLeastDoor : Cond.instanceMethod yX0_goThroughLeastDoor ∈ tb := tb_of 690 (by decide +kernel) rfl
theorem zc_X0_begin : Cond.code yX0_begin cX0_begin 4 none ∈ tb := tb_of 687 (by decide +kernel) rfl
theorem wn_X0_begin : Cond.instanceMethod yX0_begin ∈ tb := tb_of 686 (by decide +kernel) rfl
theorem zc_X0_restingPairs : Cond.code yX0_restingPairs cX0_restingPairs 6 (some .int) ∈ tb := tb_of 683 (by decide +kernel) rfl
theorem wn_X0_restingPairs : Cond.instanceMethod yX0_restingPairs ∈ tb := tb_of 681 (by decide +kernel) rfl
theorem zc_X7_choose : Cond.code yX7_choose cX7_choose 3 (some .int) ∈ tb := tb_of 679 (by decide +kernel) rfl
theorem wn_X7_choose : Cond.instanceMethod yX7_choose ∈ tb := tb_of 677 (by decide +kernel) rfl
theorem zc_X0_leastHidden : Cond.code yX0_leastHidden cX0_leastHidden 5 (some .int) ∈ tb := tb_of 712 (by decide +kernel) rfl
theorem wn_X0_leastHidden : Cond.instanceMethod yX0_leastHidden ∈ tb := tb_of 711 (by decide +kernel) rfl
theorem zc_X0_luckyEyes : Cond.code yX0_luckyEyes cX0_luckyEyes 7 (some .int) ∈ tb := tb_of 704 (by decide +kernel) rfl
theorem wn_X0_luckyEyes : Cond.instanceMethod yX0_luckyEyes ∈ tb := tb_of 702 (by decide +kernel) rfl
theorem zc_X7_greatestShared : Cond.code yX7_greatestShared cX7_greatestShared 6 (some .int) ∈ tb := tb_of 716 (by decide +kernel) rfl
theorem ws_X7_greatestShared : Cond.static yX7_greatestShared ∈ tb := tb_of 715 (by decide +kernel) rfl
theorem zc_X7_odds : Cond.code yX7_odds cX7_odds 4 (some .int) ∈ tb := tb_of 700 (by decide +kernel) rfl
theorem wn_X7_odds : Cond.instanceMethod yX7_odds ∈ tb := tb_of 698 (by decide +kernel) rfl
theorem zc_X1_witness : Cond.code yX1_witness cX1_witness 4 (some .int) ∈ tb := tb_of 725 (by decide +kernel) rfl
theorem wn_X1_witness : Cond.instanceMethod yX1_witness ∈ tb := tb_of 723 (by decide +kernel) rfl
theorem zc_X7_seen : Cond.code yX7_seen cX7_seen 4 (some .int) ∈ tb := tb_of 721 (by decide +kernel) rfl
theorem wn_X7_seen : Cond.instanceMethod yX7_seen ∈ tb := tb_of 719 (by decide +kernel) rfl
theorem zc_X7_forget : Cond.code yX7_forget cX7_forget 2 (some .int) ∈ tb := tb_of 729 (by decide +kernel) rfl
theorem wn_X7_forget : Cond.instanceMethod yX7_forget ∈ tb := tb_of 727 (by decide +kernel) rfl
theorem zc_X5_fits : Cond.code yX5_fits cX5_fits 5 (some .boolean) ∈ tb := tb_of 743 (by decide +kernel) rfl
theorem ws_X5_fits : Cond.static yX5_fits ∈ tb := tb_of 742 (by decide +kernel) rfl
theorem zc_X5_begin : Cond.code yX5_begin cX5_begin 4 none ∈ tb := tb_of 740 (by decide +kernel) rfl
theorem ws_X5_begin : Cond.static yX5_begin ∈ tb := tb_of 739 (by decide +kernel) rfl
theorem zc_X5_arriving : Cond.code yX5_arriving cX5_arriving 6 (some .long) ∈ tb := tb_of 752 (by decide +kernel) rfl
theorem wn_X5_arriving : Cond.instanceMethod yX5_arriving ∈ tb := tb_of 751 (by decide +kernel) rfl
theorem zc_X5_extend : Cond.code yX5_extend cX5_extend 5 none ∈ tb := tb_of 747 (by decide +kernel) rfl
theorem wn_X5_extend : Cond.instanceMethod yX5_extend ∈ tb := tb_of 746 (by decide +kernel) rfl
theorem zc_X5_countThrough : Cond.code yX5_countThrough cX5_countThrough 4 none ∈ tb := tb_of 737 (by decide +kernel) rfl
theorem wn_X5_countThrough : Cond.instanceMethod yX5_countThrough ∈ tb := tb_of 735 (by decide +kernel) rfl
theorem zc_X5_roomsPossible : Cond.code yX5_roomsPossible cX5_roomsPossible 3 (some .int) ∈ tb := tb_of 757 (by decide +kernel) rfl
theorem wn_X5_roomsPossible : Cond.instanceMethod yX5_roomsPossible ∈ tb := tb_of 755 (by decide +kernel) rfl
theorem zc_X7_may : Cond.code yX7_may cX7_may 2 (some .int) ∈ tb := tb_of 733 (by decide +kernel) rfl
theorem wn_X7_may : Cond.instanceMethod yX7_may ∈ tb := tb_of 731 (by decide +kernel) rfl
theorem zc_X5_total : Cond.code yX5_total cX5_total 4 (some .long) ∈ tb := tb_of 765 (by decide +kernel) rfl
theorem wn_X5_total : Cond.instanceMethod yX5_total ∈ tb := tb_of 763 (by decide +kernel) rfl
theorem zc_X7_ways : Cond.code yX7_ways cX7_ways 1 (some .long) ∈ tb := tb_of 761 (by decide +kernel) rfl
theorem wn_X7_ways : Cond.instanceMethod yX7_ways ∈ tb := tb_of 759 (by decide +kernel) rfl
theorem zc_X5_roomThatTells : Cond.code yX5_roomThatTells cX5_roomThatTells 9 (some .int) ∈ tb := tb_of 773 (by decide +kernel) rfl
theorem wn_X5_roomThatTells : Cond.instanceMethod yX5_roomThatTells ∈ tb := tb_of 771 (by decide +kernel) rfl
theorem zc_X7_peek : Cond.code yX7_peek cX7_peek 2 (some .int) ∈ tb := tb_of 769 (by decide +kernel) rfl
theorem wn_X7_peek : Cond.instanceMethod yX7_peek ∈ tb := tb_of 767 (by decide +kernel) rfl
theorem zc_X0_moveBySeed : Cond.code yX0_moveBySeed cX0_moveBySeed 8 (some .long) ∈ tb := tb_of 790 (by decide +kernel) rfl
theorem wn_X0_moveBySeed : Cond.instanceMethod yX0_moveBySeed ∈ tb := tb_of 789 (by decide +kernel) rfl
theorem zc_X1_heirsThat : Cond.code yX1_heirsThat cX1_heirsThat 5 (some .int) ∈ tb := tb_of 799 (by decide +kernel) rfl
theorem wn_X1_heirsThat : Cond.instanceMethod yX1_heirsThat ∈ tb := tb_of 797 (by decide +kernel) rfl
theorem zc_X0_foundBySeed : Cond.code yX0_foundBySeed cX0_foundBySeed 7 (some .int) ∈ tb := tb_of 786 (by decide +kernel) rfl
theorem wn_X0_foundBySeed : Cond.instanceMethod yX0_foundBySeed ∈ tb := tb_of 784 (by decide +kernel) rfl
theorem zc_X7_nights : Cond.code yX7_nights cX7_nights 3 (some .int) ∈ tb := tb_of 781 (by decide +kernel) rfl
theorem wn_X7_nights : Cond.instanceMethod yX7_nights ∈ tb := tb_of 779 (by decide +kernel) rfl
theorem zc_X7_part : Cond.code yX7_part cX7_part 2 (some .long) ∈ tb := tb_of 803 (by decide +kernel) rfl
theorem wn_X7_part : Cond.instanceMethod yX7_part ∈ tb := tb_of 801 (by decide +kernel) rfl
theorem zc_X2_take : Cond.code yX2_take cX2_take 3 none ∈ tb := tb_of 811 (by decide +kernel) rfl
theorem wn_X2_take : Cond.instanceMethod yX2_take ∈ tb := tb_of 809 (by decide +kernel) rfl
theorem zc_X7_image : Cond.code yX7_image cX7_image 2 (some .int) ∈ tb := tb_of 807 (by decide +kernel) rfl
theorem wn_X7_image : Cond.instanceMethod yX7_image ∈ tb := tb_of 805 (by decide +kernel) rfl
theorem zc_X7_from : Cond.code yX7_from cX7_from 2 (some .int) ∈ tb := tb_of 815 (by decide +kernel) rfl
theorem wn_X7_from : Cond.instanceMethod yX7_from ∈ tb := tb_of 813 (by decide +kernel) rfl
theorem zc_X7_status : Cond.code yX7_status cX7_status 2 (some .int) ∈ tb := tb_of 819 (by decide +kernel) rfl
theorem wn_X7_status : Cond.instanceMethod yX7_status ∈ tb := tb_of 817 (by decide +kernel) rfl
theorem zc_X7_counted : Cond.code yX7_counted cX7_counted 2 (some .int) ∈ tb := tb_of 827 (by decide +kernel) rfl
theorem wn_X7_counted : Cond.instanceMethod yX7_counted ∈ tb := tb_of 826 (by decide +kernel) rfl
theorem zc_X7_count : Cond.code yX7_count cX7_count 2 (some .int) ∈ tb := tb_of 823 (by decide +kernel) rfl
theorem wn_X7_count : Cond.instanceMethod yX7_count ∈ tb := tb_of 821 (by decide +kernel) rfl
theorem zc_X1_digestRooms : Cond.code yX1_digestRooms cX1_digestRooms 7 (some .long) ∈ tb := tb_of 838 (by decide +kernel) rfl
theorem wn_X1_digestRooms : Cond.instanceMethod yX1_digestRooms ∈ tb := tb_of 836 (by decide +kernel) rfl
theorem zc_X1_digestHeirs : Cond.code yX1_digestHeirs cX1_digestHeirs 6 (some .long) ∈ tb := tb_of 844 (by decide +kernel) rfl
theorem wn_X1_digestHeirs : Cond.instanceMethod yX1_digestHeirs ∈ tb := tb_of 842 (by decide +kernel) rfl
theorem zc_X1_digestSeen : Cond.code yX1_digestSeen cX1_digestSeen 6 (some .long) ∈ tb := tb_of 848 (by decide +kernel) rfl
theorem wn_X1_digestSeen : Cond.instanceMethod yX1_digestSeen ∈ tb := tb_of 846 (by decide +kernel) rfl
theorem zc_X7_digest : Cond.code yX7_digest cX7_digest 4 (some .long) ∈ tb := tb_of 832 (by decide +kernel) rfl
theorem wn_X7_digest : Cond.instanceMethod yX7_digest ∈ tb := tb_of 830 (by decide +kernel) rfl
theorem zc_X8_begin : Cond.code yX8_begin cX8_begin 4 none ∈ tb := tb_of 857 (by decide +kernel) rfl
theorem ws_X8_begin : Cond.static yX8_begin ∈ tb := tb_of 856 (by decide +kernel) rfl
theorem zc_X8_init : Cond.code yX8_init cX8_init 1 none ∈ tb := tb_of 853 (by decide +kernel) rfl
theorem wn_X8_init : Cond.instanceMethod yX8_init ∈ tb := tb_of 852 (by decide +kernel) rfl
theorem zc_X8_in : Cond.code yX8_in cX8_in 6 (some .boolean) ∈ tb := tb_of 947 (by decide +kernel) rfl
theorem ws_X8_in : Cond.static yX8_in ∈ tb := tb_of 946 (by decide +kernel) rfl
theorem zc_X8_bad : Cond.code yX8_bad cX8_bad 2 (some .int) ∈ tb := tb_of 951 (by decide +kernel) rfl
theorem wn_X8_bad : Cond.instanceMethod yX8_bad ∈ tb := tb_of 950 (by decide +kernel) rfl
theorem zc_X8_no : Cond.code yX8_no cX8_no 1 (some .int) ∈ tb := tb_of 1015 (by decide +kernel) rfl
theorem wn_X8_no : Cond.instanceMethod yX8_no ∈ tb := tb_of 1014 (by decide +kernel) rfl
theorem zc_X8_full : Cond.code yX8_full cX8_full 1 (some .int) ∈ tb := tb_of 983 (by decide +kernel) rfl
theorem wn_X8_full : Cond.instanceMethod yX8_full ∈ tb := tb_of 982 (by decide +kernel) rfl
theorem zc_X8_heirs : Cond.code yX8_heirs cX8_heirs 1 (some .int) ∈ tb := tb_of 955 (by decide +kernel) rfl
theorem wn_X8_heirs : Cond.instanceMethod yX8_heirs ∈ tb := tb_of 954 (by decide +kernel) rfl
theorem zc_X8_isHeir : Cond.code yX8_isHeir cX8_isHeir 2 (some .boolean) ∈ tb := tb_of 1007 (by decide +kernel) rfl
theorem wn_X8_isHeir : Cond.instanceMethod yX8_isHeir ∈ tb := tb_of 1006 (by decide +kernel) rfl
theorem zc_X8_isRoom : Cond.code yX8_isRoom cX8_isRoom 1 (some .boolean) ∈ tb := tb_of 962 (by decide +kernel) rfl
theorem ws_X8_isRoom : Cond.static yX8_isRoom ∈ tb := tb_of 961 (by decide +kernel) rfl
theorem zc_X8_get : Cond.code yX8_get cX8_get 3 (some .int) ∈ tb := tb_of 1011 (by decide +kernel) rfl
theorem wn_X8_get : Cond.instanceMethod yX8_get ∈ tb := tb_of 1010 (by decide +kernel) rfl
theorem zc_X8_set : Cond.code yX8_set cX8_set 4 none ∈ tb := tb_of 1023 (by decide +kernel) rfl
theorem wn_X8_set : Cond.instanceMethod yX8_set ∈ tb := tb_of 1022 (by decide +kernel) rfl
theorem zc_X8_creaks : Cond.code yX8_creaks cX8_creaks 3 (some .int) ∈ tb := tb_of 972 (by decide +kernel) rfl
theorem wn_X8_creaks : Cond.instanceMethod yX8_creaks ∈ tb := tb_of 971 (by decide +kernel) rfl
theorem zc_X8_house : Cond.code yX8_house cX8_house 4 (some .int) ∈ tb := tb_of 943 (by decide +kernel) rfl
theorem wn_X8_house : Cond.instanceMethod yX8_house ∈ tb := tb_of 941 (by decide +kernel) rfl
theorem zc_X8_room : Cond.code yX8_room cX8_room 4 (some .int) ∈ tb := tb_of 959 (by decide +kernel) rfl
theorem wn_X8_room : Cond.instanceMethod yX8_room ∈ tb := tb_of 957 (by decide +kernel) rfl
theorem zc_X8_layDoor : Cond.code yX8_layDoor cX8_layDoor 4 none ∈ tb := tb_of 975 (by decide +kernel) rfl
theorem ws_X8_layDoor : Cond.static yX8_layDoor ∈ tb := tb_of 974 (by decide +kernel) rfl
theorem zc_X8_door : Cond.code yX8_door cX8_door 5 (some .int) ∈ tb := tb_of 968 (by decide +kernel) rfl
theorem wn_X8_door : Cond.instanceMethod yX8_door ∈ tb := tb_of 966 (by decide +kernel) rfl
theorem zc_X8_list : Cond.code yX8_list cX8_list 2 (some .int) ∈ tb := tb_of 979 (by decide +kernel) rfl
theorem wn_X8_list : Cond.instanceMethod yX8_list ∈ tb := tb_of 977 (by decide +kernel) rfl
theorem zc_X8_only : Cond.code yX8_only cX8_only 3 (some .int) ∈ tb := tb_of 987 (by decide +kernel) rfl
theorem wn_X8_only : Cond.instanceMethod yX8_only ∈ tb := tb_of 985 (by decide +kernel) rfl
theorem zc_X8_eyes : Cond.code yX8_eyes cX8_eyes 3 (some .int) ∈ tb := tb_of 991 (by decide +kernel) rfl
theorem wn_X8_eyes : Cond.instanceMethod yX8_eyes ∈ tb := tb_of 989 (by decide +kernel) rfl
theorem zc_X8_layHeir : Cond.code yX8_layHeir cX8_layHeir 6 none ∈ tb := tb_of 999 (by decide +kernel) rfl
theorem ws_X8_layHeir : Cond.static yX8_layHeir ∈ tb := tb_of 998 (by decide +kernel) rfl
theorem zc_X8_heir : Cond.code yX8_heir cX8_heir 4 (some .int) ∈ tb := tb_of 995 (by decide +kernel) rfl
theorem wn_X8_heir : Cond.instanceMethod yX8_heir ∈ tb := tb_of 993 (by decide +kernel) rfl
theorem zc_X8_layHand : Cond.code yX8_layHand cX8_layHand 2 none ∈ tb := tb_of 1031 (by decide +kernel) rfl
theorem wn_X8_layHand : Cond.instanceMethod yX8_layHand ∈ tb := tb_of 1030 (by decide +kernel) rfl
theorem zc_X8_isOther : Cond.code yX8_isOther cX8_isOther 4 (some .boolean) ∈ tb := tb_of 1053 (by decide +kernel) rfl
theorem wn_X8_isOther : Cond.instanceMethod yX8_isOther ∈ tb := tb_of 1052 (by decide +kernel) rfl
theorem zc_X8_least : Cond.code yX8_least cX8_least 2 (some .int) ∈ tb := tb_of 1046 (by decide +kernel) rfl
theorem ws_X8_least : Cond.static yX8_least ∈ tb := tb_of 1045 (by decide +kernel) rfl
theorem zc_X8_most : Cond.code yX8_most cX8_most 2 (some .int) ∈ tb := tb_of 1049 (by decide +kernel) rfl
theorem ws_X8_most : Cond.static yX8_most ∈ tb := tb_of 1048 (by decide +kernel) rfl
theorem zc_X8_hiddenOf : Cond.code yX8_hiddenOf cX8_hiddenOf 5 (some .int) ∈ tb := tb_of 1043 (by decide +kernel) rfl
theorem wn_X8_hiddenOf : Cond.instanceMethod yX8_hiddenOf ∈ tb := tb_of 1042 (by decide +kernel) rfl
theorem zc_X8_looksIn : Cond.code yX8_looksIn cX8_looksIn 3 (some .int) ∈ tb := tb_of 1039 (by decide +kernel) rfl
theorem wn_X8_looksIn : Cond.instanceMethod yX8_looksIn ∈ tb := tb_of 1038 (by decide +kernel) rfl
theorem zc_X8_goNight : Cond.code yX8_goNight cX8_goNight 5 (some .int) ∈ tb := tb_of 1035 (by decide +kernel) rfl
theorem wn_X8_goNight : Cond.instanceMethod yX8_goNight ∈ tb := tb_of 1034 (by decide +kernel) rfl
theorem zc_X8_keep : Cond.code yX8_keep cX8_keep 4 none ∈ tb := tb_of 1019 (by decide +kernel) rfl
theorem wn_X8_keep : Cond.instanceMethod yX8_keep ∈ tb := tb_of 1018 (by decide +kernel) rfl
theorem zc_X8_move : Cond.code yX8_move cX8_move 4 (some .int) ∈ tb := tb_of 1003 (by decide +kernel) rfl
theorem wn_X8_move : Cond.instanceMethod yX8_move ∈ tb := tb_of 1001 (by decide +kernel) rfl
theorem zc_X8_night : Cond.code yX8_night cX8_night 3 (some .int) ∈ tb := tb_of 1027 (by decide +kernel) rfl
theorem wn_X8_night : Cond.instanceMethod yX8_night ∈ tb := tb_of 1025 (by decide +kernel) rfl
theorem zc_X8_undo : Cond.code yX8_undo cX8_undo 4 (some .int) ∈ tb := tb_of 1057 (by decide +kernel) rfl
theorem wn_X8_undo : Cond.instanceMethod yX8_undo ∈ tb := tb_of 1055 (by decide +kernel) rfl
theorem zc_X8_of : Cond.code yX8_of cX8_of 3 (some .int) ∈ tb := tb_of 1061 (by decide +kernel) rfl
theorem wn_X8_of : Cond.instanceMethod yX8_of ∈ tb := tb_of 1059 (by decide +kernel) rfl
theorem zc_X8_looks : Cond.code yX8_looks cX8_looks 2 (some .int) ∈ tb := tb_of 1066 (by decide +kernel) rfl
theorem wn_X8_looks : Cond.instanceMethod yX8_looks ∈ tb := tb_of 1064 (by decide +kernel) rfl
theorem zc_X8_byThen : Cond.code yX8_byThen cX8_byThen 6 (some .int) ∈ tb := tb_of 1071 (by decide +kernel) rfl
theorem wn_X8_byThen : Cond.instanceMethod yX8_byThen ∈ tb := tb_of 1069 (by decide +kernel) rfl
theorem zc_X8_goTill : Cond.code yX8_goTill cX8_goTill 3 (some .int) ∈ tb := tb_of 1080 (by decide +kernel) rfl
theorem wn_X8_goTill : Cond.instanceMethod yX8_goTill ∈ tb := tb_of 1079 (by decide +kernel) rfl
theorem zc_X8_first : Cond.code yX8_first cX8_first 3 (some .int) ∈ tb := tb_of 1076 (by decide +kernel) rfl
theorem wn_X8_first : Cond.instanceMethod yX8_first ∈ tb := tb_of 1074 (by decide +kernel) rfl
theorem zc_X8_passed : Cond.code yX8_passed cX8_passed 6 (some .int) ∈ tb := tb_of 1084 (by decide +kernel) rfl
theorem wn_X8_passed : Cond.instanceMethod yX8_passed ∈ tb := tb_of 1082 (by decide +kernel) rfl
theorem zc_X8_foundIn : Cond.code yX8_foundIn cX8_foundIn 4 (some .int) ∈ tb := tb_of 1093 (by decide +kernel) rfl
theorem wn_X8_foundIn : Cond.instanceMethod yX8_foundIn ∈ tb := tb_of 1092 (by decide +kernel) rfl
theorem zc_X8_hide : Cond.code yX8_hide cX8_hide 6 (some .int) ∈ tb := tb_of 1088 (by decide +kernel) rfl
theorem wn_X8_hide : Cond.instanceMethod yX8_hide ∈ tb := tb_of 1086 (by decide +kernel) rfl
theorem zc_X8_moveAll : Cond.code yX8_moveAll cX8_moveAll 4 none ∈ tb := tb_of 1101 (by decide +kernel) rfl
theorem wn_X8_moveAll : Cond.instanceMethod yX8_moveAll ∈ tb := tb_of 1100 (by decide +kernel) rfl
theorem zc_X8_nightOfOne : Cond.code yX8_nightOfOne cX8_nightOfOne 8 (some .int) ∈ tb := tb_of 1105 (by decide +kernel) rfl
theorem wn_X8_nightOfOne : Cond.instanceMethod yX8_nightOfOne ∈ tb := tb_of 1104 (by decide +kernel) rfl
theorem zc_X8_way : Cond.code yX8_way cX8_way 5 (some .int) ∈ tb := tb_of 1097 (by decide +kernel) rfl
theorem wn_X8_way : Cond.instanceMethod yX8_way ∈ tb := tb_of 1095 (by decide +kernel) rfl
theorem zc_X8_goAside : Cond.code yX8_goAside cX8_goAside 3 none ∈ tb := tb_of 1117 (by decide +kernel) rfl
theorem wn_X8_goAside : Cond.instanceMethod yX8_goAside ∈ tb := tb_of 1116 (by decide +kernel) rfl
theorem zc_X8_layHas : Cond.code yX8_layHas cX8_layHas 8 none ∈ tb := tb_of 1113 (by decide +kernel) rfl
theorem wn_X8_layHas : Cond.instanceMethod yX8_layHas ∈ tb := tb_of 1112 (by decide +kernel) rfl
theorem zc_X8_choose : Cond.code yX8_choose cX8_choose 6 (some .int) ∈ tb := tb_of 1109 (by decide +kernel) rfl
theorem wn_X8_choose : Cond.instanceMethod yX8_choose ∈ tb := tb_of 1107 (by decide +kernel) rfl
theorem zc_X8_fraction : Cond.code yX8_fraction cX8_fraction 6 none ∈ tb := tb_of 1125 (by decide +kernel) rfl
theorem wn_X8_fraction : Cond.instanceMethod yX8_fraction ∈ tb := tb_of 1124 (by decide +kernel) rfl
theorem zc_X8_odds : Cond.code yX8_odds cX8_odds 4 (some .int) ∈ tb := tb_of 1121 (by decide +kernel) rfl
theorem wn_X8_odds : Cond.instanceMethod yX8_odds ∈ tb := tb_of 1119 (by decide +kernel) rfl
theorem zc_X8_seen : Cond.code yX8_seen cX8_seen 5 (some .int) ∈ tb := tb_of 1129 (by decide +kernel) rfl
theorem wn_X8_seen : Cond.instanceMethod yX8_seen ∈ tb := tb_of 1127 (by decide +kernel) rfl
theorem zc_X8_forget : Cond.code yX8_forget cX8_forget 2 (some .int) ∈ tb := tb_of 1134 (by decide +kernel) rfl
theorem wn_X8_forget : Cond.instanceMethod yX8_forget ∈ tb := tb_of 1132 (by decide +kernel) rfl
theorem zc_X8_mayBe : Cond.code yX8_mayBe cX8_mayBe 6 (some .boolean) ∈ tb := tb_of 1150 (by decide +kernel) rfl
theorem wn_X8_mayBe : Cond.instanceMethod yX8_mayBe ∈ tb := tb_of 1149 (by decide +kernel) rfl
theorem zc_X8_isStep : Cond.code yX8_isStep cX8_isStep 3 (some .boolean) ∈ tb := tb_of 1146 (by decide +kernel) rfl
theorem wn_X8_isStep : Cond.instanceMethod yX8_isStep ∈ tb := tb_of 1145 (by decide +kernel) rfl
theorem zc_X8_layWays : Cond.code yX8_layWays cX8_layWays 6 none ∈ tb := tb_of 1142 (by decide +kernel) rfl
theorem wn_X8_layWays : Cond.instanceMethod yX8_layWays ∈ tb := tb_of 1141 (by decide +kernel) rfl
theorem zc_X8_waysBy : Cond.code yX8_waysBy cX8_waysBy 3 (some .long) ∈ tb := tb_of 1154 (by decide +kernel) rfl
theorem wn_X8_waysBy : Cond.instanceMethod yX8_waysBy ∈ tb := tb_of 1153 (by decide +kernel) rfl
theorem zc_X8_allWays : Cond.code yX8_allWays cX8_allWays 4 (some .long) ∈ tb := tb_of 1162 (by decide +kernel) rfl
theorem wn_X8_allWays : Cond.instanceMethod yX8_allWays ∈ tb := tb_of 1161 (by decide +kernel) rfl
theorem zc_X8_may : Cond.code yX8_may cX8_may 4 (some .int) ∈ tb := tb_of 1138 (by decide +kernel) rfl
theorem wn_X8_may : Cond.instanceMethod yX8_may ∈ tb := tb_of 1136 (by decide +kernel) rfl
theorem zc_X8_ways : Cond.code yX8_ways cX8_ways 1 (some .long) ∈ tb := tb_of 1158 (by decide +kernel) rfl
theorem wn_X8_ways : Cond.instanceMethod yX8_ways ∈ tb := tb_of 1156 (by decide +kernel) rfl
theorem zc_X8_peek : Cond.code yX8_peek cX8_peek 13 (some .int) ∈ tb := tb_of 1166 (by decide +kernel) rfl
theorem wn_X8_peek : Cond.instanceMethod yX8_peek ∈ tb := tb_of 1164 (by decide +kernel) rfl
theorem zc_X8_nights : Cond.code yX8_nights cX8_nights 8 (some .int) ∈ tb := tb_of 1170 (by decide +kernel) rfl
theorem wn_X8_nights : Cond.instanceMethod yX8_nights ∈ tb := tb_of 1168 (by decide +kernel) rfl
theorem zc_X8_type : Cond.code yX8_type cX8_type 2 (some .int) ∈ tb := tb_of 1181 (by decide +kernel) rfl
theorem wn_X8_type : Cond.instanceMethod yX8_type ∈ tb := tb_of 1179 (by decide +kernel) rfl
theorem zc_X8_clear : Cond.code yX8_clear cX8_clear 2 (some .int) ∈ tb := tb_of 1186 (by decide +kernel) rfl
theorem wn_X8_clear : Cond.instanceMethod yX8_clear ∈ tb := tb_of 1184 (by decide +kernel) rfl
theorem zc_X8_isSmall : Cond.code yX8_isSmall cX8_isSmall 1 (some .boolean) ∈ tb := tb_of 1197 (by decide +kernel) rfl
theorem ws_X8_isSmall : Cond.static yX8_isSmall ∈ tb := tb_of 1196 (by decide +kernel) rfl
theorem zc_X8_isFigure : Cond.code yX8_isFigure cX8_isFigure 1 (some .boolean) ∈ tb := tb_of 1202 (by decide +kernel) rfl
theorem ws_X8_isFigure : Cond.static yX8_isFigure ∈ tb := tb_of 1201 (by decide +kernel) rfl
theorem zc_X8_lookAt : Cond.code yX8_lookAt cX8_lookAt 5 none ∈ tb := tb_of 1194 (by decide +kernel) rfl
theorem wn_X8_lookAt : Cond.instanceMethod yX8_lookAt ∈ tb := tb_of 1193 (by decide +kernel) rfl
theorem zc_X8_goBehind : Cond.code yX8_goBehind cX8_goBehind 1 none ∈ tb := tb_of 1216 (by decide +kernel) rfl
theorem wn_X8_goBehind : Cond.instanceMethod yX8_goBehind ∈ tb := tb_of 1215 (by decide +kernel) rfl
theorem zc_X8_isWord : Cond.code yX8_isWord cX8_isWord 9 (some .boolean) ∈ tb := tb_of 1212 (by decide +kernel) rfl
theorem wn_X8_isWord : Cond.instanceMethod yX8_isWord ∈ tb := tb_of 1211 (by decide +kernel) rfl
theorem zc_X8_takes : Cond.code yX8_takes cX8_takes 4 (some .boolean) ∈ tb := tb_of 1220 (by decide +kernel) rfl
theorem wn_X8_takes : Cond.instanceMethod yX8_takes ∈ tb := tb_of 1219 (by decide +kernel) rfl
theorem zc_X8_takesFirst : Cond.code yX8_takesFirst cX8_takesFirst 1 (some .boolean) ∈ tb := tb_of 1208 (by decide +kernel) rfl
theorem wn_X8_takesFirst : Cond.instanceMethod yX8_takesFirst ∈ tb := tb_of 1207 (by decide +kernel) rfl
theorem zc_X8_takesRoom : Cond.code yX8_takesRoom cX8_takesRoom 1 (some .boolean) ∈ tb := tb_of 1228 (by decide +kernel) rfl
theorem wn_X8_takesRoom : Cond.instanceMethod yX8_takesRoom ∈ tb := tb_of 1227 (by decide +kernel) rfl
theorem zc_X8_takesDoor : Cond.code yX8_takesDoor cX8_takesDoor 1 (some .boolean) ∈ tb := tb_of 1232 (by decide +kernel) rfl
theorem wn_X8_takesDoor : Cond.instanceMethod yX8_takesDoor ∈ tb := tb_of 1231 (by decide +kernel) rfl
theorem zc_X8_takesList : Cond.code yX8_takesList cX8_takesList 2 (some .boolean) ∈ tb := tb_of 1236 (by decide +kernel) rfl
theorem wn_X8_takesList : Cond.instanceMethod yX8_takesList ∈ tb := tb_of 1235 (by decide +kernel) rfl
theorem zc_X8_takesHeir : Cond.code yX8_takesHeir cX8_takesHeir 1 (some .boolean) ∈ tb := tb_of 1240 (by decide +kernel) rfl
theorem wn_X8_takesHeir : Cond.instanceMethod yX8_takesHeir ∈ tb := tb_of 1239 (by decide +kernel) rfl
theorem zc_X8_takesItem : Cond.code yX8_takesItem cX8_takesItem 1 (some .boolean) ∈ tb := tb_of 1224 (by decide +kernel) rfl
theorem wn_X8_takesItem : Cond.instanceMethod yX8_takesItem ∈ tb := tb_of 1223 (by decide +kernel) rfl
theorem zc_X8_read : Cond.code yX8_read cX8_read 3 (some .int) ∈ tb := tb_of 1190 (by decide +kernel) rfl
theorem wn_X8_read : Cond.instanceMethod yX8_read ∈ tb := tb_of 1188 (by decide +kernel) rfl
theorem zc_X8_part : Cond.code yX8_part cX8_part 2 (some .long) ∈ tb := tb_of 1244 (by decide +kernel) rfl
theorem wn_X8_part : Cond.instanceMethod yX8_part ∈ tb := tb_of 1242 (by decide +kernel) rfl
theorem zc_X8_image : Cond.code yX8_image cX8_image 3 (some .int) ∈ tb := tb_of 1248 (by decide +kernel) rfl
theorem wn_X8_image : Cond.instanceMethod yX8_image ∈ tb := tb_of 1246 (by decide +kernel) rfl
theorem zc_X8_from : Cond.code yX8_from cX8_from 3 (some .int) ∈ tb := tb_of 1252 (by decide +kernel) rfl
theorem wn_X8_from : Cond.instanceMethod yX8_from ∈ tb := tb_of 1250 (by decide +kernel) rfl
theorem zc_X8_status : Cond.code yX8_status cX8_status 2 (some .int) ∈ tb := tb_of 1256 (by decide +kernel) rfl
theorem wn_X8_status : Cond.instanceMethod yX8_status ∈ tb := tb_of 1254 (by decide +kernel) rfl
theorem zc_X8_manyIn : Cond.code yX8_manyIn cX8_manyIn 3 (some .int) ∈ tb := tb_of 1269 (by decide +kernel) rfl
theorem wn_X8_manyIn : Cond.instanceMethod yX8_manyIn ∈ tb := tb_of 1268 (by decide +kernel) rfl
theorem zc_X8_counted : Cond.code yX8_counted cX8_counted 2 (some .int) ∈ tb := tb_of 1265 (by decide +kernel) rfl
theorem wn_X8_counted : Cond.instanceMethod yX8_counted ∈ tb := tb_of 1264 (by decide +kernel) rfl
theorem zc_X8_count : Cond.code yX8_count cX8_count 2 (some .int) ∈ tb := tb_of 1261 (by decide +kernel) rfl
theorem wn_X8_count : Cond.instanceMethod yX8_count ∈ tb := tb_of 1259 (by decide +kernel) rfl
theorem zc_X8_sums : Cond.code yX8_sums cX8_sums 8 (some .long) ∈ tb := tb_of 1279 (by decide +kernel) rfl
theorem wn_X8_sums : Cond.instanceMethod yX8_sums ∈ tb := tb_of 1278 (by decide +kernel) rfl
theorem zc_X8_digest : Cond.code yX8_digest cX8_digest 5 (some .long) ∈ tb := tb_of 1273 (by decide +kernel) rfl
theorem wn_X8_digest : Cond.instanceMethod yX8_digest ∈ tb := tb_of 1271 (by decide +kernel) rfl
theorem ka_RX2_9 : Cond.classLink RX2 9 RX3 ∈ tb := tb_of 153 (by decide +kernel) rfl
theorem ka_RX7_16 : Cond.classLink RX7 16 RX2 ∈ tb := tb_of 147 (by decide +kernel) rfl
theorem ka_RX7_7 : Cond.classLink RX7 7 RX1 ∈ tb := tb_of 25 (by decide +kernel) rfl
theorem wI_RX7_18 : WI RX7 18 yX2_init cX2_init 2 0 := ⟨⟨tb_of 149 (by decide +kernel) rfl, zi_RX2, zc_X2_init, ⟨by decide +kernel, by decide +kernel, by decide +kernel⟩, by decide⟩, wn_X2_init, rfl⟩
theorem wI_RX7_9 : WI RX7 9 yX1_init cX1_init 1 0 := ⟨⟨tb_of 27 (by decide +kernel) rfl, zi_RX1, zc_X1_init, ⟨by decide +kernel, by decide +kernel, by decide +kernel⟩, by decide⟩, wn_X1_init, rfl⟩
theorem wI_RL_12 : WI RL 12 yX8_init cX8_init 1 0 := ⟨⟨tb_of 851 (by decide +kernel) rfl, zi_RX8, zc_X8_init, ⟨by decide +kernel, by decide +kernel, by decide +kernel⟩, by decide⟩, wn_X8_init, rfl⟩
theorem wI_RL_9 : WI RL 9 yX7_init cX7_init 2 0 := ⟨⟨tb_of 19 (by decide +kernel) rfl, zi_RX7, zc_X7_init, ⟨by decide +kernel, by decide +kernel, by decide +kernel⟩, by decide⟩, wn_X7_init, rfl⟩
theorem wIN_RX0_11 : WN RX0 11 yX3_init cX3_init 1 none 0 := ⟨List.mem_of_getElem? (i := 3) rfl, zi_RX3, zc_X3_init, ⟨by decide +kernel, by decide +kernel, by decide +kernel⟩, by decide⟩
theorem wIN_RX1_29 : WN RX1 29 yX3_init cX3_init 1 none 0 := ⟨List.mem_of_getElem? (i := 0) rfl, zi_RX3, zc_X3_init, ⟨by decide +kernel, by decide +kernel, by decide +kernel⟩, by decide⟩
theorem wIN_RX2_21 : WN RX2 21 yX3_init cX3_init 1 none 0 := ⟨List.mem_of_getElem? (i := 1) rfl, zi_RX3, zc_X3_init, ⟨by decide +kernel, by decide +kernel, by decide +kernel⟩, by decide⟩
theorem wIN_RX6_13 : WN RX6 13 yX3_init cX3_init 1 none 0 := ⟨List.mem_of_getElem? (i := 5) rfl, zi_RX3, zc_X3_init, ⟨by decide +kernel, by decide +kernel, by decide +kernel⟩, by decide⟩
theorem wIN_RX7_40 : WN RX7 40 yX0_init cX0_init 1 none 0 := ⟨List.mem_of_getElem? (i := 2) rfl, zi_RX0, zc_X0_init, ⟨by decide +kernel, by decide +kernel, by decide +kernel⟩, by decide⟩
theorem wIN_RX7_47 : WN RX7 47 yX6_init cX6_init 1 none 0 := ⟨List.mem_of_getElem? (i := 4) rfl, zi_RX6, zc_X6_init, ⟨by decide +kernel, by decide +kernel, by decide +kernel⟩, by decide⟩
theorem wIN_RX7_54 : WN RX7 54 yX5_init cX5_init 1 none 0 := ⟨List.mem_of_getElem? (i := 6) rfl, zi_RX5, zc_X5_init, ⟨by decide +kernel, by decide +kernel, by decide +kernel⟩, by decide⟩
theorem wIN_RX7_61 : WN RX7 61 yX4_init cX4_init 1 none 0 := ⟨List.mem_of_getElem? (i := 7) rfl, zi_RX4, zc_X4_init, ⟨by decide +kernel, by decide +kernel, by decide +kernel⟩, by decide⟩
theorem wS_RX4_130 : WS RX4 130 yX4_isLetter cX4_isLetter 1 (some .boolean) 1 := ⟨⟨tb_of 395 (by decide +kernel) rfl, zi_RX4, zc_X4_isLetter, ⟨by decide +kernel, by decide +kernel, by decide +kernel⟩, by decide⟩, ws_X4_isLetter⟩
theorem wS_RX4_134 : WS RX4 134 yX4_isFigure cX4_isFigure 1 (some .boolean) 1 := ⟨⟨tb_of 398 (by decide +kernel) rfl, zi_RX4, zc_X4_isFigure, ⟨by decide +kernel, by decide +kernel, by decide +kernel⟩, by decide⟩, ws_X4_isFigure⟩
theorem wS_RX5_24 : WS RX5 24 yX5_begin cX5_begin 4 none 3 := ⟨⟨tb_of 738 (by decide +kernel) rfl, zi_RX5, zc_X5_begin, ⟨by decide +kernel, by decide +kernel, by decide +kernel⟩, by decide⟩, ws_X5_begin⟩
theorem wS_RX5_31 : WS RX5 31 yX5_fits cX5_fits 5 (some .boolean) 3 := ⟨⟨tb_of 741 (by decide +kernel) rfl, zi_RX5, zc_X5_fits, ⟨by decide +kernel, by decide +kernel, by decide +kernel⟩, by decide⟩, ws_X5_fits⟩
theorem wS_RX6_41 : WS RX6 41 yX6_empty cX6_empty 2 none 1 := ⟨⟨tb_of 652 (by decide +kernel) rfl, zi_RX6, zc_X6_empty, ⟨by decide +kernel, by decide +kernel, by decide +kernel⟩, by decide⟩, ws_X6_empty⟩
theorem wS_RX6_51 : WS RX6 51 yX6_lower cX6_lower 5 none 4 := ⟨⟨tb_of 656 (by decide +kernel) rfl, zi_RX6, zc_X6_lower, ⟨by decide +kernel, by decide +kernel, by decide +kernel⟩, by decide⟩, ws_X6_lower⟩
theorem wS_RX7_108 : WS RX7 108 yX7_isRoom cX7_isRoom 1 (some .boolean) 1 := ⟨⟨tb_of 329 (by decide +kernel) rfl, zi_RX7, zc_X7_isRoom, ⟨by decide +kernel, by decide +kernel, by decide +kernel⟩, by decide⟩, ws_X7_isRoom⟩
theorem wS_RX7_251 : WS RX7 251 yX7_greatestShared cX7_greatestShared 6 (some .int) 2 := ⟨⟨tb_of 714 (by decide +kernel) rfl, zi_RX7, zc_X7_greatestShared, ⟨by decide +kernel, by decide +kernel, by decide +kernel⟩, by decide⟩, ws_X7_greatestShared⟩
theorem wS_RX7_90 : WS RX7 90 yX7_within cX7_within 3 (some .boolean) 3 := ⟨⟨tb_of 317 (by decide +kernel) rfl, zi_RX7, zc_X7_within, ⟨by decide +kernel, by decide +kernel, by decide +kernel⟩, by decide⟩, ws_X7_within⟩
theorem wS_RX8_100 : WS RX8 100 yX8_layDoor cX8_layDoor 4 none 4 := ⟨⟨tb_of 973 (by decide +kernel) rfl, zi_RX8, zc_X8_layDoor, ⟨by decide +kernel, by decide +kernel, by decide +kernel⟩, by decide⟩, ws_X8_layDoor⟩
theorem wS_RX8_109 : WS RX8 109 yX8_layHeir cX8_layHeir 6 none 4 := ⟨⟨tb_of 997 (by decide +kernel) rfl, zi_RX8, zc_X8_layHeir, ⟨by decide +kernel, by decide +kernel, by decide +kernel⟩, by decide⟩, ws_X8_layHeir⟩
theorem wS_RX8_122 : WS RX8 122 yX8_least cX8_least 2 (some .int) 2 := ⟨⟨tb_of 1044 (by decide +kernel) rfl, zi_RX8, zc_X8_least, ⟨by decide +kernel, by decide +kernel, by decide +kernel⟩, by decide⟩, ws_X8_least⟩
theorem wS_RX8_125 : WS RX8 125 yX8_most cX8_most 2 (some .int) 2 := ⟨⟨tb_of 1047 (by decide +kernel) rfl, zi_RX8, zc_X8_most, ⟨by decide +kernel, by decide +kernel, by decide +kernel⟩, by decide⟩, ws_X8_most⟩
theorem wS_RX8_248 : WS RX8 248 yX8_isSmall cX8_isSmall 1 (some .boolean) 1 := ⟨⟨tb_of 1195 (by decide +kernel) rfl, zi_RX8, zc_X8_isSmall, ⟨by decide +kernel, by decide +kernel, by decide +kernel⟩, by decide⟩, ws_X8_isSmall⟩
theorem wS_RX8_251 : WS RX8 251 yX8_isFigure cX8_isFigure 1 (some .boolean) 1 := ⟨⟨tb_of 1200 (by decide +kernel) rfl, zi_RX8, zc_X8_isFigure, ⟨by decide +kernel, by decide +kernel, by decide +kernel⟩, by decide⟩, ws_X8_isFigure⟩
theorem wS_RX8_70 : WS RX8 70 yX8_begin cX8_begin 4 none 3 := ⟨⟨tb_of 855 (by decide +kernel) rfl, zi_RX8, zc_X8_begin, ⟨by decide +kernel, by decide +kernel, by decide +kernel⟩, by decide⟩, ws_X8_begin⟩
theorem wS_RX8_78 : WS RX8 78 yX8_in cX8_in 6 (some .boolean) 3 := ⟨⟨tb_of 945 (by decide +kernel) rfl, zi_RX8, zc_X8_in, ⟨by decide +kernel, by decide +kernel, by decide +kernel⟩, by decide⟩, ws_X8_in⟩
theorem wS_RX8_90 : WS RX8 90 yX8_isRoom cX8_isRoom 1 (some .boolean) 1 := ⟨⟨tb_of 960 (by decide +kernel) rfl, zi_RX8, zc_X8_isRoom, ⟨by decide +kernel, by decide +kernel, by decide +kernel⟩, by decide⟩, ws_X8_isRoom⟩
theorem wSN_RX4_116 : WN RX4 116 yX7_within cX7_within 3 (some .boolean) 3 := ⟨List.mem_of_getElem? (i := 8) rfl, zi_RX7, zc_X7_within, ⟨by decide +kernel, by decide +kernel, by decide +kernel⟩, by decide⟩
theorem wV_RX0_102 : WV RX0 102 yX0_moveBySeed cX0_moveBySeed 8 (some .long) 2 := ⟨⟨tb_of 787 (by decide +kernel) rfl, zi_RX0, zc_X0_moveBySeed, ⟨by decide +kernel, by decide +kernel, by decide +kernel⟩, by decide⟩, wn_X0_moveBySeed, tb_sel 29 (by decide +kernel) rfl⟩
theorem wV_RX0_106 : WV RX0 106 yX1_heirsThat cX1_heirsThat 5 (some .int) 2 := ⟨⟨tb_of 796 (by decide +kernel) rfl, zi_RX1, zc_X1_heirsThat, ⟨by decide +kernel, by decide +kernel, by decide +kernel⟩, by decide⟩, wn_X1_heirsThat, tb_of 798 (by decide +kernel) rfl⟩
theorem wV_RX0_27 : WV RX0 27 yX3_take cX3_take 2 none 1 := ⟨⟨tb_of 605 (by decide +kernel) rfl, zi_RX3, zc_X3_take, ⟨by decide +kernel, by decide +kernel, by decide +kernel⟩, by decide⟩, wn_X3_take, tb_of 507 (by decide +kernel) rfl⟩
theorem wV_RX0_35 : WV RX0 35 yX1_runNight cX1_runNight 5 (some .int) 2 := ⟨⟨tb_of 606 (by decide +kernel) rfl, zi_RX1, zc_X1_runNight, ⟨by decide +kernel, by decide +kernel, by decide +kernel⟩, by decide⟩, wn_X1_runNight, tb_of 541 (by decide +kernel) rfl⟩
theorem wV_RX0_43 : WV RX0 43 yX0_runUntilNoMoreIn cX0_runUntilNoMoreIn 5 none 3 := ⟨⟨tb_of 635 (by decide +kernel) rfl, zi_RX0, zc_X0_runUntilNoMoreIn, ⟨by decide +kernel, by decide +kernel, by decide +kernel⟩, by decide⟩, wn_X0_runUntilNoMoreIn, tb_sel 19 (by decide +kernel) rfl⟩
theorem wV_RX0_47 : WV RX0 47 yX0_foundNight cX0_foundNight 2 (some .int) 1 := ⟨⟨tb_of 639 (by decide +kernel) rfl, zi_RX0, zc_X0_foundNight, ⟨by decide +kernel, by decide +kernel, by decide +kernel⟩, by decide⟩, wn_X0_foundNight, tb_sel 20 (by decide +kernel) rfl⟩
theorem wV_RX0_57 : WV RX0 57 yX0_begin cX0_begin 4 none 3 := ⟨⟨tb_of 684 (by decide +kernel) rfl, zi_RX0, zc_X0_begin, ⟨by decide +kernel, by decide +kernel, by decide +kernel⟩, by decide⟩, wn_X0_begin, tb_sel 24 (by decide +kernel) rfl⟩
theorem wV_RX0_66 : WV RX0 66 yX0_goThroughLeastDoor cX0_goThroughLeastDoor 5 none 2 := ⟨⟨tb_of 688 (by decide +kernel) rfl, zi_RX0, zc_X0_goThroughLeastDoor, ⟨by decide +kernel, by decide +kernel, by decide +kernel⟩, by decide⟩, wn_X0_goThroughLeastDoor, tb_sel 25 (by decide +kernel) rfl⟩
theorem wV_RX0_70 : WV RX0 70 yX1_creaksBetween cX1_creaksBetween 3 (some .int) 2 := ⟨⟨tb_of 692 (by decide +kernel) rfl, zi_RX1, zc_X1_creaksBetween, ⟨by decide +kernel, by decide +kernel, by decide +kernel⟩, by decide⟩, wn_X1_creaksBetween, tb_of 338 (by decide +kernel) rfl⟩
theorem wV_RX0_73 : WV RX0 73 yX3_go cX3_go 3 none 2 := ⟨⟨tb_of 693 (by decide +kernel) rfl, zi_RX3, zc_X3_go, ⟨by decide +kernel, by decide +kernel, by decide +kernel⟩, by decide⟩, wn_X3_go, tb_of 533 (by decide +kernel) rfl⟩
theorem wV_RX0_77 : WV RX0 77 yX1_goingOut cX1_goingOut 4 (some .int) 1 := ⟨⟨tb_of 705 (by decide +kernel) rfl, zi_RX1, zc_X1_goingOut, ⟨by decide +kernel, by decide +kernel, by decide +kernel⟩, by decide⟩, wn_X1_goingOut, tb_of 545 (by decide +kernel) rfl⟩
theorem wV_RX0_81 : WV RX0 81 yX1_inSight cX1_inSight 6 (some .int) 2 := ⟨⟨tb_of 706 (by decide +kernel) rfl, zi_RX1, zc_X1_inSight, ⟨by decide +kernel, by decide +kernel, by decide +kernel⟩, by decide⟩, wn_X1_inSight, tb_of 565 (by decide +kernel) rfl⟩
theorem wV_RX0_84 : WV RX0 84 yX1_hidden cX1_hidden 7 (some .int) 2 := ⟨⟨tb_of 707 (by decide +kernel) rfl, zi_RX1, zc_X1_hidden, ⟨by decide +kernel, by decide +kernel, by decide +kernel⟩, by decide⟩, wn_X1_hidden, tb_of 549 (by decide +kernel) rfl⟩
theorem wV_RX0_92 : WV RX0 92 yX0_leastHidden cX0_leastHidden 5 (some .int) 2 := ⟨⟨tb_of 709 (by decide +kernel) rfl, zi_RX0, zc_X0_leastHidden, ⟨by decide +kernel, by decide +kernel, by decide +kernel⟩, by decide⟩, wn_X0_leastHidden, tb_sel 26 (by decide +kernel) rfl⟩
theorem wV_RX1_101 : WV RX1 101 yX1_hidden cX1_hidden 7 (some .int) 2 := ⟨⟨tb_of 547 (by decide +kernel) rfl, zi_RX1, zc_X1_hidden, ⟨by decide +kernel, by decide +kernel, by decide +kernel⟩, by decide⟩, wn_X1_hidden, tb_of 549 (by decide +kernel) rfl⟩
theorem wV_RX1_105 : WV RX1 105 yX1_lookedInto cX1_lookedInto 3 (some .int) 1 := ⟨⟨tb_of 567 (by decide +kernel) rfl, zi_RX1, zc_X1_lookedInto, ⟨by decide +kernel, by decide +kernel, by decide +kernel⟩, by decide⟩, wn_X1_lookedInto, tb_of 569 (by decide +kernel) rfl⟩
theorem wV_RX1_109 : WV RX1 109 yX1_inSight cX1_inSight 6 (some .int) 2 := ⟨⟨tb_of 563 (by decide +kernel) rfl, zi_RX1, zc_X1_inSight, ⟨by decide +kernel, by decide +kernel, by decide +kernel⟩, by decide⟩, wn_X1_inSight, tb_of 565 (by decide +kernel) rfl⟩
theorem wV_RX1_112 : WV RX1 112 yX1_goingOut cX1_goingOut 4 (some .int) 1 := ⟨⟨tb_of 543 (by decide +kernel) rfl, zi_RX1, zc_X1_goingOut, ⟨by decide +kernel, by decide +kernel, by decide +kernel⟩, by decide⟩, wn_X1_goingOut, tb_of 545 (by decide +kernel) rfl⟩
theorem wV_RX1_116 : WV RX1 116 yX1_beingFound cX1_beingFound 7 (some .int) 3 := ⟨⟨tb_of 559 (by decide +kernel) rfl, zi_RX1, zc_X1_beingFound, ⟨by decide +kernel, by decide +kernel, by decide +kernel⟩, by decide⟩, wn_X1_beingFound, tb_of 561 (by decide +kernel) rfl⟩
theorem wV_RX1_120 : WV RX1 120 yX3_close cX3_close 5 none 3 := ⟨⟨tb_of 571 (by decide +kernel) rfl, zi_RX3, zc_X3_close, ⟨by decide +kernel, by decide +kernel, by decide +kernel⟩, by decide⟩, wn_X3_close, tb_of 573 (by decide +kernel) rfl⟩
theorem wV_RX1_126 : WV RX1 126 yX1_creaksBetween cX1_creaksBetween 3 (some .int) 2 := ⟨⟨tb_of 840 (by decide +kernel) rfl, zi_RX1, zc_X1_creaksBetween, ⟨by decide +kernel, by decide +kernel, by decide +kernel⟩, by decide⟩, wn_X1_creaksBetween, tb_of 338 (by decide +kernel) rfl⟩
theorem wV_RX1_43 : WV RX1 43 yX1_restart cX1_restart 4 none 2 := ⟨⟨tb_of 76 (by decide +kernel) rfl, zi_RX1, zc_X1_restart, ⟨by decide +kernel, by decide +kernel, by decide +kernel⟩, by decide⟩, wn_X1_restart, tb_of 78 (by decide +kernel) rfl⟩
theorem wV_RX1_72 : WV RX1 72 yX3_take cX3_take 2 none 1 := ⟨⟨tb_of 505 (by decide +kernel) rfl, zi_RX3, zc_X3_take, ⟨by decide +kernel, by decide +kernel, by decide +kernel⟩, by decide⟩, wn_X3_take, tb_of 507 (by decide +kernel) rfl⟩
theorem wV_RX1_76 : WV RX1 76 yX3_place cX3_place 3 none 2 := ⟨⟨tb_of 368 (by decide +kernel) rfl, zi_RX3, zc_X3_place, ⟨by decide +kernel, by decide +kernel, by decide +kernel⟩, by decide⟩, wn_X3_place, tb_of 370 (by decide +kernel) rfl⟩
theorem wV_RX1_94 : WV RX1 94 yX1_hasCompany cX1_hasCompany 4 (some .boolean) 2 := ⟨⟨tb_of 555 (by decide +kernel) rfl, zi_RX1, zc_X1_hasCompany, ⟨by decide +kernel, by decide +kernel, by decide +kernel⟩, by decide⟩, wn_X1_hasCompany, tb_sel 16 (by decide +kernel) rfl⟩
theorem wV_RX2_22 : WV RX2 22 yX2_dropOldest cX2_dropOldest 3 none 0 := ⟨⟨tb_of 526 (by decide +kernel) rfl, zi_RX2, zc_X2_dropOldest, ⟨by decide +kernel, by decide +kernel, by decide +kernel⟩, by decide⟩, wn_X2_dropOldest, tb_sel 15 (by decide +kernel) rfl⟩
theorem wV_RX2_25 : WV RX2 25 yX3_take cX3_take 2 none 1 := ⟨⟨tb_of 530 (by decide +kernel) rfl, zi_RX3, zc_X3_take, ⟨by decide +kernel, by decide +kernel, by decide +kernel⟩, by decide⟩, wn_X3_take, tb_of 507 (by decide +kernel) rfl⟩
theorem wV_RX3_31 : WV RX3 31 yX3_leave cX3_leave 3 none 2 := ⟨⟨tb_of 575 (by decide +kernel) rfl, zi_RX3, zc_X3_leave, ⟨by decide +kernel, by decide +kernel, by decide +kernel⟩, by decide⟩, wn_X3_leave, tb_sel 17 (by decide +kernel) rfl⟩
theorem wV_RX4_102 : WV RX4 102 yX1_hang cX1_hang 4 none 3 := ⟨⟨tb_of 482 (by decide +kernel) rfl, zi_RX1, zc_X1_hang, ⟨by decide +kernel, by decide +kernel, by decide +kernel⟩, by decide⟩, wn_X1_hang, tb_of 342 (by decide +kernel) rfl⟩
theorem wV_RX4_112 : WV RX4 112 yX1_bring cX1_bring 5 (some .int) 3 := ⟨⟨tb_of 493 (by decide +kernel) rfl, zi_RX1, zc_X1_bring, ⟨by decide +kernel, by decide +kernel, by decide +kernel⟩, by decide⟩, wn_X1_bring, tb_of 366 (by decide +kernel) rfl⟩
theorem wV_RX4_43 : WV RX4 43 yX4_advance cX4_advance 1 none 0 := ⟨⟨tb_of 391 (by decide +kernel) rfl, zi_RX4, zc_X4_advance, ⟨by decide +kernel, by decide +kernel, by decide +kernel⟩, by decide⟩, wn_X4_advance, tb_sel 2 (by decide +kernel) rfl⟩
theorem wV_RX4_46 : WV RX4 46 yX4_goesOn cX4_goesOn 1 (some .boolean) 0 := ⟨⟨tb_of 401 (by decide +kernel) rfl, zi_RX4, zc_X4_goesOn, ⟨by decide +kernel, by decide +kernel, by decide +kernel⟩, by decide⟩, wn_X4_goesOn, tb_sel 3 (by decide +kernel) rfl⟩
theorem wV_RX4_50 : WV RX4 50 yX4_takeItem cX4_takeItem 2 none 1 := ⟨⟨tb_of 405 (by decide +kernel) rfl, zi_RX4, zc_X4_takeItem, ⟨by decide +kernel, by decide +kernel, by decide +kernel⟩, by decide⟩, wn_X4_takeItem, tb_sel 4 (by decide +kernel) rfl⟩
theorem wV_RX4_54 : WV RX4 54 yX4_takeHouse cX4_takeHouse 4 none 1 := ⟨⟨tb_of 409 (by decide +kernel) rfl, zi_RX4, zc_X4_takeHouse, ⟨by decide +kernel, by decide +kernel, by decide +kernel⟩, by decide⟩, wn_X4_takeHouse, tb_sel 5 (by decide +kernel) rfl⟩
theorem wV_RX4_59 : WV RX4 59 yX4_isWord cX4_isWord 3 (some .boolean) 1 := ⟨⟨tb_of 414 (by decide +kernel) rfl, zi_RX4, zc_X4_isWord, ⟨by decide +kernel, by decide +kernel, by decide +kernel⟩, by decide⟩, wn_X4_isWord, tb_sel 6 (by decide +kernel) rfl⟩
theorem wV_RX4_63 : WV RX4 63 yX4_takeRoom cX4_takeRoom 4 none 1 := ⟨⟨tb_of 473 (by decide +kernel) rfl, zi_RX4, zc_X4_takeRoom, ⟨by decide +kernel, by decide +kernel, by decide +kernel⟩, by decide⟩, wn_X4_takeRoom, tb_sel 8 (by decide +kernel) rfl⟩
theorem wV_RX4_68 : WV RX4 68 yX4_takeDoor cX4_takeDoor 6 none 1 := ⟨⟨tb_of 478 (by decide +kernel) rfl, zi_RX4, zc_X4_takeDoor, ⟨by decide +kernel, by decide +kernel, by decide +kernel⟩, by decide⟩, wn_X4_takeDoor, tb_sel 9 (by decide +kernel) rfl⟩
theorem wV_RX4_73 : WV RX4 73 yX4_takeList cX4_takeList 4 none 1 := ⟨⟨tb_of 484 (by decide +kernel) rfl, zi_RX4, zc_X4_takeList, ⟨by decide +kernel, by decide +kernel, by decide +kernel⟩, by decide⟩, wn_X4_takeList, tb_sel 10 (by decide +kernel) rfl⟩
theorem wV_RX4_83 : WV RX4 83 yX4_takeHeir cX4_takeHeir 5 none 1 := ⟨⟨tb_of 489 (by decide +kernel) rfl, zi_RX4, zc_X4_takeHeir, ⟨by decide +kernel, by decide +kernel, by decide +kernel⟩, by decide⟩, wn_X4_takeHeir, tb_sel 11 (by decide +kernel) rfl⟩
theorem wV_RX4_86 : WV RX4 86 yX4_takeStop cX4_takeStop 1 none 0 := ⟨⟨tb_of 494 (by decide +kernel) rfl, zi_RX4, zc_X4_takeStop, ⟨by decide +kernel, by decide +kernel, by decide +kernel⟩, by decide⟩, wn_X4_takeStop, tb_sel 12 (by decide +kernel) rfl⟩
theorem wV_RX4_91 : WV RX4 91 yX4_number cX4_number 4 (some .int) 2 := ⟨⟨tb_of 466 (by decide +kernel) rfl, zi_RX4, zc_X4_number, ⟨by decide +kernel, by decide +kernel, by decide +kernel⟩, by decide⟩, wn_X4_number, tb_sel 7 (by decide +kernel) rfl⟩
theorem wV_RX4_94 : WV RX4 94 yX1_restart cX1_restart 4 none 2 := ⟨⟨tb_of 471 (by decide +kernel) rfl, zi_RX1, zc_X1_restart, ⟨by decide +kernel, by decide +kernel, by decide +kernel⟩, by decide⟩, wn_X1_restart, tb_of 78 (by decide +kernel) rfl⟩
theorem wV_RX5_28 : WV RX5 28 yX5_extend cX5_extend 5 none 3 := ⟨⟨tb_of 744 (by decide +kernel) rfl, zi_RX5, zc_X5_extend, ⟨by decide +kernel, by decide +kernel, by decide +kernel⟩, by decide⟩, wn_X5_extend, tb_sel 27 (by decide +kernel) rfl⟩
theorem wV_RX5_41 : WV RX5 41 yX5_arriving cX5_arriving 6 (some .long) 2 := ⟨⟨tb_of 749 (by decide +kernel) rfl, zi_RX5, zc_X5_arriving, ⟨by decide +kernel, by decide +kernel, by decide +kernel⟩, by decide⟩, wn_X5_arriving, tb_sel 28 (by decide +kernel) rfl⟩
theorem wV_RX5_45 : WV RX5 45 yX1_creaksBetween cX1_creaksBetween 3 (some .int) 2 := ⟨⟨tb_of 753 (by decide +kernel) rfl, zi_RX1, zc_X1_creaksBetween, ⟨by decide +kernel, by decide +kernel, by decide +kernel⟩, by decide⟩, wn_X1_creaksBetween, tb_of 338 (by decide +kernel) rfl⟩
theorem wV_RX5_65 : WV RX5 65 yX5_total cX5_total 4 (some .long) 0 := ⟨⟨tb_of 774 (by decide +kernel) rfl, zi_RX5, zc_X5_total, ⟨by decide +kernel, by decide +kernel, by decide +kernel⟩, by decide⟩, wn_X5_total, tb_of 764 (by decide +kernel) rfl⟩
theorem wV_RX6_30 : WV RX6 30 yX3_take cX3_take 2 none 1 := ⟨⟨tb_of 651 (by decide +kernel) rfl, zi_RX3, zc_X3_take, ⟨by decide +kernel, by decide +kernel, by decide +kernel⟩, by decide⟩, wn_X3_take, tb_of 507 (by decide +kernel) rfl⟩
theorem wV_RX6_56 : WV RX6 56 yX6_spread cX6_spread 4 none 2 := ⟨⟨tb_of 660 (by decide +kernel) rfl, zi_RX6, zc_X6_spread, ⟨by decide +kernel, by decide +kernel, by decide +kernel⟩, by decide⟩, wn_X6_spread, tb_sel 21 (by decide +kernel) rfl⟩
theorem wV_RX6_60 : WV RX6 60 yX6_passNight cX6_passNight 7 none 2 := ⟨⟨tb_of 670 (by decide +kernel) rfl, zi_RX6, zc_X6_passNight, ⟨by decide +kernel, by decide +kernel, by decide +kernel⟩, by decide⟩, wn_X6_passNight, tb_sel 23 (by decide +kernel) rfl⟩
theorem wV_RX6_77 : WV RX6 77 yX6_spreadFrom cX6_spreadFrom 6 none 3 := ⟨⟨tb_of 665 (by decide +kernel) rfl, zi_RX6, zc_X6_spreadFrom, ⟨by decide +kernel, by decide +kernel, by decide +kernel⟩, by decide⟩, wn_X6_spreadFrom, tb_sel 22 (by decide +kernel) rfl⟩
theorem wV_RX6_81 : WV RX6 81 yX1_creaksBetween cX1_creaksBetween 3 (some .int) 2 := ⟨⟨tb_of 669 (by decide +kernel) rfl, zi_RX1, zc_X1_creaksBetween, ⟨by decide +kernel, by decide +kernel, by decide +kernel⟩, by decide⟩, wn_X1_creaksBetween, tb_of 338 (by decide +kernel) rfl⟩
theorem wV_RX6_87 : WV RX6 87 yX1_lookedInto cX1_lookedInto 3 (some .int) 1 := ⟨⟨tb_of 674 (by decide +kernel) rfl, zi_RX1, zc_X1_lookedInto, ⟨by decide +kernel, by decide +kernel, by decide +kernel⟩, by decide⟩, wn_X1_lookedInto, tb_of 569 (by decide +kernel) rfl⟩
theorem wV_RX6_91 : WV RX6 91 yX1_hidden cX1_hidden 7 (some .int) 2 := ⟨⟨tb_of 675 (by decide +kernel) rfl, zi_RX1, zc_X1_hidden, ⟨by decide +kernel, by decide +kernel, by decide +kernel⟩, by decide⟩, wn_X1_hidden, tb_of 549 (by decide +kernel) rfl⟩
theorem wV_RX7_101 : WV RX7 101 yX1_restart cX1_restart 4 none 2 := ⟨⟨tb_of 324 (by decide +kernel) rfl, zi_RX1, zc_X1_restart, ⟨by decide +kernel, by decide +kernel, by decide +kernel⟩, by decide⟩, wn_X1_restart, tb_of 78 (by decide +kernel) rfl⟩
theorem wV_RX7_116 : WV RX7 116 yX1_creaksBetween cX1_creaksBetween 3 (some .int) 2 := ⟨⟨tb_of 336 (by decide +kernel) rfl, zi_RX1, zc_X1_creaksBetween, ⟨by decide +kernel, by decide +kernel, by decide +kernel⟩, by decide⟩, wn_X1_creaksBetween, tb_of 338 (by decide +kernel) rfl⟩
theorem wV_RX7_120 : WV RX7 120 yX1_hang cX1_hang 4 none 3 := ⟨⟨tb_of 340 (by decide +kernel) rfl, zi_RX1, zc_X1_hang, ⟨by decide +kernel, by decide +kernel, by decide +kernel⟩, by decide⟩, wn_X1_hang, tb_of 342 (by decide +kernel) rfl⟩
theorem wV_RX7_127 : WV RX7 127 yX7_refuseFull cX7_refuseFull 1 (some .int) 0 := ⟨⟨tb_of 348 (by decide +kernel) rfl, zi_RX7, zc_X7_refuseFull, ⟨by decide +kernel, by decide +kernel, by decide +kernel⟩, by decide⟩, wn_X7_refuseFull, tb_sel 1 (by decide +kernel) rfl⟩
theorem wV_RX7_136 : WV RX7 136 yX1_bring cX1_bring 5 (some .int) 3 := ⟨⟨tb_of 364 (by decide +kernel) rfl, zi_RX1, zc_X1_bring, ⟨by decide +kernel, by decide +kernel, by decide +kernel⟩, by decide⟩, wn_X1_bring, tb_of 366 (by decide +kernel) rfl⟩
theorem wV_RX7_140 : WV RX7 140 yX4_readInto cX4_readInto 5 (some .int) 3 := ⟨⟨tb_of 384 (by decide +kernel) rfl, zi_RX4, zc_X4_readInto, ⟨by decide +kernel, by decide +kernel, by decide +kernel⟩, by decide⟩, wn_X4_readInto, tb_of 386 (by decide +kernel) rfl⟩
theorem wV_RX7_144 : WV RX7 144 yX1_take cX1_take 2 none 1 := ⟨⟨tb_of 498 (by decide +kernel) rfl, zi_RX1, zc_X1_take, ⟨by decide +kernel, by decide +kernel, by decide +kernel⟩, by decide⟩, wn_X1_take, tb_of 500 (by decide +kernel) rfl⟩
theorem wV_RX7_148 : WV RX7 148 yX7_isHeir cX7_isHeir 2 (some .boolean) 1 := ⟨⟨tb_of 514 (by decide +kernel) rfl, zi_RX7, zc_X7_isHeir, ⟨by decide +kernel, by decide +kernel, by decide +kernel⟩, by decide⟩, wn_X7_isHeir, tb_sel 13 (by decide +kernel) rfl⟩
theorem wV_RX7_166 : WV RX7 166 yX7_refuseNo cX7_refuseNo 1 (some .int) 0 := ⟨⟨tb_of 518 (by decide +kernel) rfl, zi_RX7, zc_X7_refuseNo, ⟨by decide +kernel, by decide +kernel, by decide +kernel⟩, by decide⟩, wn_X7_refuseNo, tb_sel 14 (by decide +kernel) rfl⟩
theorem wV_RX7_169 : WV RX7 169 yX2_keep cX2_keep 2 none 1 := ⟨⟨tb_of 522 (by decide +kernel) rfl, zi_RX2, zc_X2_keep, ⟨by decide +kernel, by decide +kernel, by decide +kernel⟩, by decide⟩, wn_X2_keep, tb_of 524 (by decide +kernel) rfl⟩
theorem wV_RX7_173 : WV RX7 173 yX3_go cX3_go 3 none 2 := ⟨⟨tb_of 531 (by decide +kernel) rfl, zi_RX3, zc_X3_go, ⟨by decide +kernel, by decide +kernel, by decide +kernel⟩, by decide⟩, wn_X3_go, tb_of 533 (by decide +kernel) rfl⟩
theorem wV_RX7_176 : WV RX7 176 yX1_runNight cX1_runNight 5 (some .int) 2 := ⟨⟨tb_of 539 (by decide +kernel) rfl, zi_RX1, zc_X1_runNight, ⟨by decide +kernel, by decide +kernel, by decide +kernel⟩, by decide⟩, wn_X1_runNight, tb_of 541 (by decide +kernel) rfl⟩
theorem wV_RX7_180 : WV RX7 180 yX2_bringBack cX2_bringBack 2 none 1 := ⟨⟨tb_of 583 (by decide +kernel) rfl, zi_RX2, zc_X2_bringBack, ⟨by decide +kernel, by decide +kernel, by decide +kernel⟩, by decide⟩, wn_X2_bringBack, tb_of 585 (by decide +kernel) rfl⟩
theorem wV_RX7_195 : WV RX7 195 yX1_hidden cX1_hidden 7 (some .int) 2 := ⟨⟨tb_of 591 (by decide +kernel) rfl, zi_RX1, zc_X1_hidden, ⟨by decide +kernel, by decide +kernel, by decide +kernel⟩, by decide⟩, wn_X1_hidden, tb_of 549 (by decide +kernel) rfl⟩
theorem wV_RX7_201 : WV RX7 201 yX1_lookedInto cX1_lookedInto 3 (some .int) 1 := ⟨⟨tb_of 596 (by decide +kernel) rfl, zi_RX1, zc_X1_lookedInto, ⟨by decide +kernel, by decide +kernel, by decide +kernel⟩, by decide⟩, wn_X1_lookedInto, tb_of 569 (by decide +kernel) rfl⟩
theorem wV_RX7_205 : WV RX7 205 yX0_after cX0_after 4 (some (.object "FoundLast$Scene")) 2 := ⟨⟨tb_of 601 (by decide +kernel) rfl, zi_RX0, zc_X0_after, ⟨by decide +kernel, by decide +kernel, by decide +kernel⟩, by decide⟩, wn_X0_after, tb_of 603 (by decide +kernel) rfl⟩
theorem wV_RX7_209 : WV RX7 209 yX0_firstFound cX0_firstFound 4 (some .int) 1 := ⟨⟨tb_of 611 (by decide +kernel) rfl, zi_RX0, zc_X0_firstFound, ⟨by decide +kernel, by decide +kernel, by decide +kernel⟩, by decide⟩, wn_X0_firstFound, tb_of 613 (by decide +kernel) rfl⟩
theorem wV_RX7_216 : WV RX7 216 yX1_goingOut cX1_goingOut 4 (some .int) 1 := ⟨⟨tb_of 619 (by decide +kernel) rfl, zi_RX1, zc_X1_goingOut, ⟨by decide +kernel, by decide +kernel, by decide +kernel⟩, by decide⟩, wn_X1_goingOut, tb_of 545 (by decide +kernel) rfl⟩
theorem wV_RX7_220 : WV RX7 220 yX1_inSight cX1_inSight 6 (some .int) 2 := ⟨⟨tb_of 620 (by decide +kernel) rfl, zi_RX1, zc_X1_inSight, ⟨by decide +kernel, by decide +kernel, by decide +kernel⟩, by decide⟩, wn_X1_inSight, tb_of 565 (by decide +kernel) rfl⟩
theorem wV_RX7_223 : WV RX7 223 yX1_beingFound cX1_beingFound 7 (some .int) 3 := ⟨⟨tb_of 621 (by decide +kernel) rfl, zi_RX1, zc_X1_beingFound, ⟨by decide +kernel, by decide +kernel, by decide +kernel⟩, by decide⟩, wn_X1_beingFound, tb_of 561 (by decide +kernel) rfl⟩
theorem wV_RX7_227 : WV RX7 227 yX7_isIn cX7_isIn 2 (some .boolean) 1 := ⟨⟨tb_of 626 (by decide +kernel) rfl, zi_RX7, zc_X7_isIn, ⟨by decide +kernel, by decide +kernel, by decide +kernel⟩, by decide⟩, wn_X7_isIn, tb_sel 18 (by decide +kernel) rfl⟩
theorem wV_RX7_230 : WV RX7 230 yX0_bestRoom cX0_bestRoom 7 (some .int) 2 := ⟨⟨tb_of 630 (by decide +kernel) rfl, zi_RX0, zc_X0_bestRoom, ⟨by decide +kernel, by decide +kernel, by decide +kernel⟩, by decide⟩, wn_X0_bestRoom, tb_of 632 (by decide +kernel) rfl⟩
theorem wV_RX7_234 : WV RX7 234 yX6_search cX6_search 4 none 2 := ⟨⟨tb_of 647 (by decide +kernel) rfl, zi_RX6, zc_X6_search, ⟨by decide +kernel, by decide +kernel, by decide +kernel⟩, by decide⟩, wn_X6_search, tb_of 649 (by decide +kernel) rfl⟩
theorem wV_RX7_244 : WV RX7 244 yX0_restingPairs cX0_restingPairs 6 (some .int) 3 := ⟨⟨tb_of 680 (by decide +kernel) rfl, zi_RX0, zc_X0_restingPairs, ⟨by decide +kernel, by decide +kernel, by decide +kernel⟩, by decide⟩, wn_X0_restingPairs, tb_of 682 (by decide +kernel) rfl⟩
theorem wV_RX7_248 : WV RX7 248 yX0_luckyEyes cX0_luckyEyes 7 (some .int) 2 := ⟨⟨tb_of 701 (by decide +kernel) rfl, zi_RX0, zc_X0_luckyEyes, ⟨by decide +kernel, by decide +kernel, by decide +kernel⟩, by decide⟩, wn_X0_luckyEyes, tb_of 703 (by decide +kernel) rfl⟩
theorem wV_RX7_257 : WV RX7 257 yX1_witness cX1_witness 4 (some .int) 3 := ⟨⟨tb_of 722 (by decide +kernel) rfl, zi_RX1, zc_X1_witness, ⟨by decide +kernel, by decide +kernel, by decide +kernel⟩, by decide⟩, wn_X1_witness, tb_of 724 (by decide +kernel) rfl⟩
theorem wV_RX7_260 : WV RX7 260 yX5_countThrough cX5_countThrough 4 none 2 := ⟨⟨tb_of 734 (by decide +kernel) rfl, zi_RX5, zc_X5_countThrough, ⟨by decide +kernel, by decide +kernel, by decide +kernel⟩, by decide⟩, wn_X5_countThrough, tb_of 736 (by decide +kernel) rfl⟩
theorem wV_RX7_263 : WV RX7 263 yX5_roomsPossible cX5_roomsPossible 3 (some .int) 0 := ⟨⟨tb_of 754 (by decide +kernel) rfl, zi_RX5, zc_X5_roomsPossible, ⟨by decide +kernel, by decide +kernel, by decide +kernel⟩, by decide⟩, wn_X5_roomsPossible, tb_of 756 (by decide +kernel) rfl⟩
theorem wV_RX7_266 : WV RX7 266 yX5_total cX5_total 4 (some .long) 0 := ⟨⟨tb_of 762 (by decide +kernel) rfl, zi_RX5, zc_X5_total, ⟨by decide +kernel, by decide +kernel, by decide +kernel⟩, by decide⟩, wn_X5_total, tb_of 764 (by decide +kernel) rfl⟩
theorem wV_RX7_270 : WV RX7 270 yX5_roomThatTells cX5_roomThatTells 9 (some .int) 0 := ⟨⟨tb_of 770 (by decide +kernel) rfl, zi_RX5, zc_X5_roomThatTells, ⟨by decide +kernel, by decide +kernel, by decide +kernel⟩, by decide⟩, wn_X5_roomThatTells, tb_of 772 (by decide +kernel) rfl⟩
theorem wV_RX7_274 : WV RX7 274 yX0_foundBySeed cX0_foundBySeed 7 (some .int) 3 := ⟨⟨tb_of 783 (by decide +kernel) rfl, zi_RX0, zc_X0_foundBySeed, ⟨by decide +kernel, by decide +kernel, by decide +kernel⟩, by decide⟩, wn_X0_foundBySeed, tb_of 785 (by decide +kernel) rfl⟩
theorem wV_RX7_277 : WV RX7 277 yX2_take cX2_take 3 none 1 := ⟨⟨tb_of 808 (by decide +kernel) rfl, zi_RX2, zc_X2_take, ⟨by decide +kernel, by decide +kernel, by decide +kernel⟩, by decide⟩, wn_X2_take, tb_of 810 (by decide +kernel) rfl⟩
theorem wV_RX7_280 : WV RX7 280 yX7_counted cX7_counted 2 (some .int) 1 := ⟨⟨tb_of 824 (by decide +kernel) rfl, zi_RX7, zc_X7_counted, ⟨by decide +kernel, by decide +kernel, by decide +kernel⟩, by decide⟩, wn_X7_counted, tb_sel 30 (by decide +kernel) rfl⟩
theorem wV_RX7_287 : WV RX7 287 yX1_digestRooms cX1_digestRooms 7 (some .long) 1 := ⟨⟨tb_of 835 (by decide +kernel) rfl, zi_RX1, zc_X1_digestRooms, ⟨by decide +kernel, by decide +kernel, by decide +kernel⟩, by decide⟩, wn_X1_digestRooms, tb_of 837 (by decide +kernel) rfl⟩
theorem wV_RX7_291 : WV RX7 291 yX1_digestHeirs cX1_digestHeirs 6 (some .long) 1 := ⟨⟨tb_of 841 (by decide +kernel) rfl, zi_RX1, zc_X1_digestHeirs, ⟨by decide +kernel, by decide +kernel, by decide +kernel⟩, by decide⟩, wn_X1_digestHeirs, tb_of 843 (by decide +kernel) rfl⟩
theorem wV_RX7_294 : WV RX7 294 yX1_digestSeen cX1_digestSeen 6 (some .long) 1 := ⟨⟨tb_of 845 (by decide +kernel) rfl, zi_RX1, zc_X1_digestSeen, ⟨by decide +kernel, by decide +kernel, by decide +kernel⟩, by decide⟩, wn_X1_digestSeen, tb_of 847 (by decide +kernel) rfl⟩
theorem wV_RX7_300 : WV RX7 300 yX1_heirsThat cX1_heirsThat 5 (some .int) 2 := ⟨⟨tb_of 828 (by decide +kernel) rfl, zi_RX1, zc_X1_heirsThat, ⟨by decide +kernel, by decide +kernel, by decide +kernel⟩, by decide⟩, wn_X1_heirsThat, tb_of 798 (by decide +kernel) rfl⟩
theorem wV_RX7_94 : WV RX7 94 yX7_refuseBad cX7_refuseBad 1 (some .int) 0 := ⟨⟨tb_of 320 (by decide +kernel) rfl, zi_RX7, zc_X7_refuseBad, ⟨by decide +kernel, by decide +kernel, by decide +kernel⟩, by decide⟩, wn_X7_refuseBad, tb_sel 0 (by decide +kernel) rfl⟩
theorem wV_RL_100 : WV RL 100 yX8_choose cX8_choose 6 (some .int) 2 := ⟨⟨tb_of 1106 (by decide +kernel) rfl, zi_RX8, zc_X8_choose, ⟨by decide +kernel, by decide +kernel, by decide +kernel⟩, by decide⟩, wn_X8_choose, tb_of 1108 (by decide +kernel) rfl⟩
theorem wV_RL_101 : WV RL 101 yX7_odds cX7_odds 4 (some .int) 1 := ⟨⟨tb_of 697 (by decide +kernel) rfl, zi_RX7, zc_X7_odds, ⟨by decide +kernel, by decide +kernel, by decide +kernel⟩, by decide⟩, wn_X7_odds, tb_of 699 (by decide +kernel) rfl⟩
theorem wV_RL_104 : WV RL 104 yX8_odds cX8_odds 4 (some .int) 1 := ⟨⟨tb_of 1118 (by decide +kernel) rfl, zi_RX8, zc_X8_odds, ⟨by decide +kernel, by decide +kernel, by decide +kernel⟩, by decide⟩, wn_X8_odds, tb_of 1120 (by decide +kernel) rfl⟩
theorem wV_RL_105 : WV RL 105 yX7_seen cX7_seen 4 (some .int) 3 := ⟨⟨tb_of 718 (by decide +kernel) rfl, zi_RX7, zc_X7_seen, ⟨by decide +kernel, by decide +kernel, by decide +kernel⟩, by decide⟩, wn_X7_seen, tb_of 720 (by decide +kernel) rfl⟩
theorem wV_RL_108 : WV RL 108 yX8_seen cX8_seen 5 (some .int) 3 := ⟨⟨tb_of 1126 (by decide +kernel) rfl, zi_RX8, zc_X8_seen, ⟨by decide +kernel, by decide +kernel, by decide +kernel⟩, by decide⟩, wn_X8_seen, tb_of 1128 (by decide +kernel) rfl⟩
theorem wV_RL_109 : WV RL 109 yX7_forget cX7_forget 2 (some .int) 0 := ⟨⟨tb_of 726 (by decide +kernel) rfl, zi_RX7, zc_X7_forget, ⟨by decide +kernel, by decide +kernel, by decide +kernel⟩, by decide⟩, wn_X7_forget, tb_of 728 (by decide +kernel) rfl⟩
theorem wV_RL_112 : WV RL 112 yX8_forget cX8_forget 2 (some .int) 0 := ⟨⟨tb_of 1131 (by decide +kernel) rfl, zi_RX8, zc_X8_forget, ⟨by decide +kernel, by decide +kernel, by decide +kernel⟩, by decide⟩, wn_X8_forget, tb_of 1133 (by decide +kernel) rfl⟩
theorem wV_RL_113 : WV RL 113 yX7_may cX7_may 2 (some .int) 1 := ⟨⟨tb_of 730 (by decide +kernel) rfl, zi_RX7, zc_X7_may, ⟨by decide +kernel, by decide +kernel, by decide +kernel⟩, by decide⟩, wn_X7_may, tb_of 732 (by decide +kernel) rfl⟩
theorem wV_RL_116 : WV RL 116 yX8_may cX8_may 4 (some .int) 1 := ⟨⟨tb_of 1135 (by decide +kernel) rfl, zi_RX8, zc_X8_may, ⟨by decide +kernel, by decide +kernel, by decide +kernel⟩, by decide⟩, wn_X8_may, tb_of 1137 (by decide +kernel) rfl⟩
theorem wV_RL_117 : WV RL 117 yX7_ways cX7_ways 1 (some .long) 0 := ⟨⟨tb_of 758 (by decide +kernel) rfl, zi_RX7, zc_X7_ways, ⟨by decide +kernel, by decide +kernel, by decide +kernel⟩, by decide⟩, wn_X7_ways, tb_of 760 (by decide +kernel) rfl⟩
theorem wV_RL_121 : WV RL 121 yX8_ways cX8_ways 1 (some .long) 0 := ⟨⟨tb_of 1155 (by decide +kernel) rfl, zi_RX8, zc_X8_ways, ⟨by decide +kernel, by decide +kernel, by decide +kernel⟩, by decide⟩, wn_X8_ways, tb_of 1157 (by decide +kernel) rfl⟩
theorem wV_RL_122 : WV RL 122 yX7_peek cX7_peek 2 (some .int) 1 := ⟨⟨tb_of 766 (by decide +kernel) rfl, zi_RX7, zc_X7_peek, ⟨by decide +kernel, by decide +kernel, by decide +kernel⟩, by decide⟩, wn_X7_peek, tb_of 768 (by decide +kernel) rfl⟩
theorem wV_RL_125 : WV RL 125 yX8_peek cX8_peek 13 (some .int) 1 := ⟨⟨tb_of 1163 (by decide +kernel) rfl, zi_RX8, zc_X8_peek, ⟨by decide +kernel, by decide +kernel, by decide +kernel⟩, by decide⟩, wn_X8_peek, tb_of 1165 (by decide +kernel) rfl⟩
theorem wV_RL_126 : WV RL 126 yX7_nights cX7_nights 3 (some .int) 2 := ⟨⟨tb_of 778 (by decide +kernel) rfl, zi_RX7, zc_X7_nights, ⟨by decide +kernel, by decide +kernel, by decide +kernel⟩, by decide⟩, wn_X7_nights, tb_of 780 (by decide +kernel) rfl⟩
theorem wV_RL_129 : WV RL 129 yX8_nights cX8_nights 8 (some .int) 2 := ⟨⟨tb_of 1167 (by decide +kernel) rfl, zi_RX8, zc_X8_nights, ⟨by decide +kernel, by decide +kernel, by decide +kernel⟩, by decide⟩, wn_X8_nights, tb_of 1169 (by decide +kernel) rfl⟩
theorem wV_RL_13 : WV RL 13 yX7_house cX7_house 4 (some .int) 2 := ⟨⟨tb_of 313 (by decide +kernel) rfl, zi_RX7, zc_X7_house, ⟨by decide +kernel, by decide +kernel, by decide +kernel⟩, by decide⟩, wn_X7_house, tb_of 315 (by decide +kernel) rfl⟩
theorem wV_RL_130 : WV RL 130 yX7_part cX7_part 2 (some .long) 1 := ⟨⟨tb_of 800 (by decide +kernel) rfl, zi_RX7, zc_X7_part, ⟨by decide +kernel, by decide +kernel, by decide +kernel⟩, by decide⟩, wn_X7_part, tb_of 802 (by decide +kernel) rfl⟩
theorem wV_RL_134 : WV RL 134 yX8_part cX8_part 2 (some .long) 1 := ⟨⟨tb_of 1241 (by decide +kernel) rfl, zi_RX8, zc_X8_part, ⟨by decide +kernel, by decide +kernel, by decide +kernel⟩, by decide⟩, wn_X8_part, tb_of 1243 (by decide +kernel) rfl⟩
theorem wV_RL_135 : WV RL 135 yX7_image cX7_image 2 (some .int) 1 := ⟨⟨tb_of 804 (by decide +kernel) rfl, zi_RX7, zc_X7_image, ⟨by decide +kernel, by decide +kernel, by decide +kernel⟩, by decide⟩, wn_X7_image, tb_of 806 (by decide +kernel) rfl⟩
theorem wV_RL_138 : WV RL 138 yX8_image cX8_image 3 (some .int) 1 := ⟨⟨tb_of 1245 (by decide +kernel) rfl, zi_RX8, zc_X8_image, ⟨by decide +kernel, by decide +kernel, by decide +kernel⟩, by decide⟩, wn_X8_image, tb_of 1247 (by decide +kernel) rfl⟩
theorem wV_RL_139 : WV RL 139 yX7_from cX7_from 2 (some .int) 1 := ⟨⟨tb_of 812 (by decide +kernel) rfl, zi_RX7, zc_X7_from, ⟨by decide +kernel, by decide +kernel, by decide +kernel⟩, by decide⟩, wn_X7_from, tb_of 814 (by decide +kernel) rfl⟩
theorem wV_RL_142 : WV RL 142 yX8_from cX8_from 3 (some .int) 1 := ⟨⟨tb_of 1249 (by decide +kernel) rfl, zi_RX8, zc_X8_from, ⟨by decide +kernel, by decide +kernel, by decide +kernel⟩, by decide⟩, wn_X8_from, tb_of 1251 (by decide +kernel) rfl⟩
theorem wV_RL_143 : WV RL 143 yX7_status cX7_status 2 (some .int) 1 := ⟨⟨tb_of 816 (by decide +kernel) rfl, zi_RX7, zc_X7_status, ⟨by decide +kernel, by decide +kernel, by decide +kernel⟩, by decide⟩, wn_X7_status, tb_of 818 (by decide +kernel) rfl⟩
theorem wV_RL_146 : WV RL 146 yX8_status cX8_status 2 (some .int) 1 := ⟨⟨tb_of 1253 (by decide +kernel) rfl, zi_RX8, zc_X8_status, ⟨by decide +kernel, by decide +kernel, by decide +kernel⟩, by decide⟩, wn_X8_status, tb_of 1255 (by decide +kernel) rfl⟩
theorem wV_RL_147 : WV RL 147 yX7_count cX7_count 2 (some .int) 1 := ⟨⟨tb_of 820 (by decide +kernel) rfl, zi_RX7, zc_X7_count, ⟨by decide +kernel, by decide +kernel, by decide +kernel⟩, by decide⟩, wn_X7_count, tb_of 822 (by decide +kernel) rfl⟩
theorem wV_RL_150 : WV RL 150 yX8_count cX8_count 2 (some .int) 1 := ⟨⟨tb_of 1258 (by decide +kernel) rfl, zi_RX8, zc_X8_count, ⟨by decide +kernel, by decide +kernel, by decide +kernel⟩, by decide⟩, wn_X8_count, tb_of 1260 (by decide +kernel) rfl⟩
theorem wV_RL_151 : WV RL 151 yX7_digest cX7_digest 4 (some .long) 0 := ⟨⟨tb_of 829 (by decide +kernel) rfl, zi_RX7, zc_X7_digest, ⟨by decide +kernel, by decide +kernel, by decide +kernel⟩, by decide⟩, wn_X7_digest, tb_of 831 (by decide +kernel) rfl⟩
theorem wV_RL_154 : WV RL 154 yX8_digest cX8_digest 5 (some .long) 0 := ⟨⟨tb_of 1270 (by decide +kernel) rfl, zi_RX8, zc_X8_digest, ⟨by decide +kernel, by decide +kernel, by decide +kernel⟩, by decide⟩, wn_X8_digest, tb_of 1272 (by decide +kernel) rfl⟩
theorem wV_RL_17 : WV RL 17 yX8_house cX8_house 4 (some .int) 2 := ⟨⟨tb_of 940 (by decide +kernel) rfl, zi_RX8, zc_X8_house, ⟨by decide +kernel, by decide +kernel, by decide +kernel⟩, by decide⟩, wn_X8_house, tb_of 942 (by decide +kernel) rfl⟩
theorem wV_RL_18 : WV RL 18 yX7_room cX7_room 4 (some .int) 2 := ⟨⟨tb_of 325 (by decide +kernel) rfl, zi_RX7, zc_X7_room, ⟨by decide +kernel, by decide +kernel, by decide +kernel⟩, by decide⟩, wn_X7_room, tb_of 327 (by decide +kernel) rfl⟩
theorem wV_RL_21 : WV RL 21 yX8_room cX8_room 4 (some .int) 2 := ⟨⟨tb_of 956 (by decide +kernel) rfl, zi_RX8, zc_X8_room, ⟨by decide +kernel, by decide +kernel, by decide +kernel⟩, by decide⟩, wn_X8_room, tb_of 958 (by decide +kernel) rfl⟩
theorem wV_RL_22 : WV RL 22 yX7_door cX7_door 5 (some .int) 3 := ⟨⟨tb_of 332 (by decide +kernel) rfl, zi_RX7, zc_X7_door, ⟨by decide +kernel, by decide +kernel, by decide +kernel⟩, by decide⟩, wn_X7_door, tb_of 334 (by decide +kernel) rfl⟩
theorem wV_RL_26 : WV RL 26 yX8_door cX8_door 5 (some .int) 3 := ⟨⟨tb_of 965 (by decide +kernel) rfl, zi_RX8, zc_X8_door, ⟨by decide +kernel, by decide +kernel, by decide +kernel⟩, by decide⟩, wn_X8_door, tb_of 967 (by decide +kernel) rfl⟩
theorem wV_RL_27 : WV RL 27 yX7_list cX7_list 2 (some .int) 1 := ⟨⟨tb_of 344 (by decide +kernel) rfl, zi_RX7, zc_X7_list, ⟨by decide +kernel, by decide +kernel, by decide +kernel⟩, by decide⟩, wn_X7_list, tb_of 346 (by decide +kernel) rfl⟩
theorem wV_RL_31 : WV RL 31 yX8_list cX8_list 2 (some .int) 1 := ⟨⟨tb_of 976 (by decide +kernel) rfl, zi_RX8, zc_X8_list, ⟨by decide +kernel, by decide +kernel, by decide +kernel⟩, by decide⟩, wn_X8_list, tb_of 978 (by decide +kernel) rfl⟩
theorem wV_RL_32 : WV RL 32 yX7_only cX7_only 3 (some .int) 1 := ⟨⟨tb_of 352 (by decide +kernel) rfl, zi_RX7, zc_X7_only, ⟨by decide +kernel, by decide +kernel, by decide +kernel⟩, by decide⟩, wn_X7_only, tb_of 354 (by decide +kernel) rfl⟩
theorem wV_RL_35 : WV RL 35 yX8_only cX8_only 3 (some .int) 1 := ⟨⟨tb_of 984 (by decide +kernel) rfl, zi_RX8, zc_X8_only, ⟨by decide +kernel, by decide +kernel, by decide +kernel⟩, by decide⟩, wn_X8_only, tb_of 986 (by decide +kernel) rfl⟩
theorem wV_RL_36 : WV RL 36 yX7_eyes cX7_eyes 3 (some .int) 1 := ⟨⟨tb_of 356 (by decide +kernel) rfl, zi_RX7, zc_X7_eyes, ⟨by decide +kernel, by decide +kernel, by decide +kernel⟩, by decide⟩, wn_X7_eyes, tb_of 358 (by decide +kernel) rfl⟩
theorem wV_RL_39 : WV RL 39 yX8_eyes cX8_eyes 3 (some .int) 1 := ⟨⟨tb_of 988 (by decide +kernel) rfl, zi_RX8, zc_X8_eyes, ⟨by decide +kernel, by decide +kernel, by decide +kernel⟩, by decide⟩, wn_X8_eyes, tb_of 990 (by decide +kernel) rfl⟩
theorem wV_RL_40 : WV RL 40 yX7_heir cX7_heir 4 (some .int) 3 := ⟨⟨tb_of 360 (by decide +kernel) rfl, zi_RX7, zc_X7_heir, ⟨by decide +kernel, by decide +kernel, by decide +kernel⟩, by decide⟩, wn_X7_heir, tb_of 362 (by decide +kernel) rfl⟩
theorem wV_RL_43 : WV RL 43 yX8_heir cX8_heir 4 (some .int) 3 := ⟨⟨tb_of 992 (by decide +kernel) rfl, zi_RX8, zc_X8_heir, ⟨by decide +kernel, by decide +kernel, by decide +kernel⟩, by decide⟩, wn_X8_heir, tb_of 994 (by decide +kernel) rfl⟩
theorem wV_RL_44 : WV RL 44 yX7_type cX7_type 2 (some .int) 1 := ⟨⟨tb_of 372 (by decide +kernel) rfl, zi_RX7, zc_X7_type, ⟨by decide +kernel, by decide +kernel, by decide +kernel⟩, by decide⟩, wn_X7_type, tb_of 374 (by decide +kernel) rfl⟩
theorem wV_RL_47 : WV RL 47 yX8_type cX8_type 2 (some .int) 1 := ⟨⟨tb_of 1178 (by decide +kernel) rfl, zi_RX8, zc_X8_type, ⟨by decide +kernel, by decide +kernel, by decide +kernel⟩, by decide⟩, wn_X8_type, tb_of 1180 (by decide +kernel) rfl⟩
theorem wV_RL_48 : WV RL 48 yX7_clear cX7_clear 2 (some .int) 0 := ⟨⟨tb_of 376 (by decide +kernel) rfl, zi_RX7, zc_X7_clear, ⟨by decide +kernel, by decide +kernel, by decide +kernel⟩, by decide⟩, wn_X7_clear, tb_of 378 (by decide +kernel) rfl⟩
theorem wV_RL_52 : WV RL 52 yX8_clear cX8_clear 2 (some .int) 0 := ⟨⟨tb_of 1183 (by decide +kernel) rfl, zi_RX8, zc_X8_clear, ⟨by decide +kernel, by decide +kernel, by decide +kernel⟩, by decide⟩, wn_X8_clear, tb_of 1185 (by decide +kernel) rfl⟩
theorem wV_RL_53 : WV RL 53 yX7_read cX7_read 2 (some .int) 0 := ⟨⟨tb_of 380 (by decide +kernel) rfl, zi_RX7, zc_X7_read, ⟨by decide +kernel, by decide +kernel, by decide +kernel⟩, by decide⟩, wn_X7_read, tb_of 382 (by decide +kernel) rfl⟩
theorem wV_RL_56 : WV RL 56 yX8_read cX8_read 3 (some .int) 0 := ⟨⟨tb_of 1187 (by decide +kernel) rfl, zi_RX8, zc_X8_read, ⟨by decide +kernel, by decide +kernel, by decide +kernel⟩, by decide⟩, wn_X8_read, tb_of 1189 (by decide +kernel) rfl⟩
theorem wV_RL_57 : WV RL 57 yX7_move cX7_move 5 (some .int) 2 := ⟨⟨tb_of 510 (by decide +kernel) rfl, zi_RX7, zc_X7_move, ⟨by decide +kernel, by decide +kernel, by decide +kernel⟩, by decide⟩, wn_X7_move, tb_of 512 (by decide +kernel) rfl⟩
theorem wV_RL_60 : WV RL 60 yX8_move cX8_move 4 (some .int) 2 := ⟨⟨tb_of 1000 (by decide +kernel) rfl, zi_RX8, zc_X8_move, ⟨by decide +kernel, by decide +kernel, by decide +kernel⟩, by decide⟩, wn_X8_move, tb_of 1002 (by decide +kernel) rfl⟩
theorem wV_RL_61 : WV RL 61 yX7_night cX7_night 1 (some .int) 0 := ⟨⟨tb_of 535 (by decide +kernel) rfl, zi_RX7, zc_X7_night, ⟨by decide +kernel, by decide +kernel, by decide +kernel⟩, by decide⟩, wn_X7_night, tb_of 537 (by decide +kernel) rfl⟩
theorem wV_RL_64 : WV RL 64 yX8_night cX8_night 3 (some .int) 0 := ⟨⟨tb_of 1024 (by decide +kernel) rfl, zi_RX8, zc_X8_night, ⟨by decide +kernel, by decide +kernel, by decide +kernel⟩, by decide⟩, wn_X8_night, tb_of 1026 (by decide +kernel) rfl⟩
theorem wV_RL_65 : WV RL 65 yX7_undo cX7_undo 1 (some .int) 0 := ⟨⟨tb_of 579 (by decide +kernel) rfl, zi_RX7, zc_X7_undo, ⟨by decide +kernel, by decide +kernel, by decide +kernel⟩, by decide⟩, wn_X7_undo, tb_of 581 (by decide +kernel) rfl⟩
theorem wV_RL_68 : WV RL 68 yX8_undo cX8_undo 4 (some .int) 0 := ⟨⟨tb_of 1054 (by decide +kernel) rfl, zi_RX8, zc_X8_undo, ⟨by decide +kernel, by decide +kernel, by decide +kernel⟩, by decide⟩, wn_X8_undo, tb_of 1056 (by decide +kernel) rfl⟩
theorem wV_RL_69 : WV RL 69 yX7_of cX7_of 4 (some .int) 2 := ⟨⟨tb_of 587 (by decide +kernel) rfl, zi_RX7, zc_X7_of, ⟨by decide +kernel, by decide +kernel, by decide +kernel⟩, by decide⟩, wn_X7_of, tb_of 589 (by decide +kernel) rfl⟩
theorem wV_RL_72 : WV RL 72 yX8_of cX8_of 3 (some .int) 2 := ⟨⟨tb_of 1058 (by decide +kernel) rfl, zi_RX8, zc_X8_of, ⟨by decide +kernel, by decide +kernel, by decide +kernel⟩, by decide⟩, wn_X8_of, tb_of 1060 (by decide +kernel) rfl⟩
theorem wV_RL_73 : WV RL 73 yX7_looks cX7_looks 2 (some .int) 1 := ⟨⟨tb_of 592 (by decide +kernel) rfl, zi_RX7, zc_X7_looks, ⟨by decide +kernel, by decide +kernel, by decide +kernel⟩, by decide⟩, wn_X7_looks, tb_of 594 (by decide +kernel) rfl⟩
theorem wV_RL_76 : WV RL 76 yX8_looks cX8_looks 2 (some .int) 1 := ⟨⟨tb_of 1063 (by decide +kernel) rfl, zi_RX8, zc_X8_looks, ⟨by decide +kernel, by decide +kernel, by decide +kernel⟩, by decide⟩, wn_X8_looks, tb_of 1065 (by decide +kernel) rfl⟩
theorem wV_RL_77 : WV RL 77 yX7_byThen cX7_byThen 5 (some .int) 3 := ⟨⟨tb_of 597 (by decide +kernel) rfl, zi_RX7, zc_X7_byThen, ⟨by decide +kernel, by decide +kernel, by decide +kernel⟩, by decide⟩, wn_X7_byThen, tb_of 599 (by decide +kernel) rfl⟩
theorem wV_RL_80 : WV RL 80 yX8_byThen cX8_byThen 6 (some .int) 3 := ⟨⟨tb_of 1068 (by decide +kernel) rfl, zi_RX8, zc_X8_byThen, ⟨by decide +kernel, by decide +kernel, by decide +kernel⟩, by decide⟩, wn_X8_byThen, tb_of 1070 (by decide +kernel) rfl⟩
theorem wV_RL_81 : WV RL 81 yX7_first cX7_first 3 (some .int) 1 := ⟨⟨tb_of 607 (by decide +kernel) rfl, zi_RX7, zc_X7_first, ⟨by decide +kernel, by decide +kernel, by decide +kernel⟩, by decide⟩, wn_X7_first, tb_of 609 (by decide +kernel) rfl⟩
theorem wV_RL_84 : WV RL 84 yX8_first cX8_first 3 (some .int) 1 := ⟨⟨tb_of 1073 (by decide +kernel) rfl, zi_RX8, zc_X8_first, ⟨by decide +kernel, by decide +kernel, by decide +kernel⟩, by decide⟩, wn_X8_first, tb_of 1075 (by decide +kernel) rfl⟩
theorem wV_RL_85 : WV RL 85 yX7_passed cX7_passed 3 (some .int) 0 := ⟨⟨tb_of 615 (by decide +kernel) rfl, zi_RX7, zc_X7_passed, ⟨by decide +kernel, by decide +kernel, by decide +kernel⟩, by decide⟩, wn_X7_passed, tb_of 617 (by decide +kernel) rfl⟩
theorem wV_RL_88 : WV RL 88 yX8_passed cX8_passed 6 (some .int) 0 := ⟨⟨tb_of 1081 (by decide +kernel) rfl, zi_RX8, zc_X8_passed, ⟨by decide +kernel, by decide +kernel, by decide +kernel⟩, by decide⟩, wn_X8_passed, tb_of 1083 (by decide +kernel) rfl⟩
theorem wV_RL_89 : WV RL 89 yX7_hide cX7_hide 2 (some .int) 1 := ⟨⟨tb_of 622 (by decide +kernel) rfl, zi_RX7, zc_X7_hide, ⟨by decide +kernel, by decide +kernel, by decide +kernel⟩, by decide⟩, wn_X7_hide, tb_of 624 (by decide +kernel) rfl⟩
theorem wV_RL_92 : WV RL 92 yX8_hide cX8_hide 6 (some .int) 1 := ⟨⟨tb_of 1085 (by decide +kernel) rfl, zi_RX8, zc_X8_hide, ⟨by decide +kernel, by decide +kernel, by decide +kernel⟩, by decide⟩, wn_X8_hide, tb_of 1087 (by decide +kernel) rfl⟩
theorem wV_RL_93 : WV RL 93 yX7_way cX7_way 3 (some .int) 2 := ⟨⟨tb_of 643 (by decide +kernel) rfl, zi_RX7, zc_X7_way, ⟨by decide +kernel, by decide +kernel, by decide +kernel⟩, by decide⟩, wn_X7_way, tb_of 645 (by decide +kernel) rfl⟩
theorem wV_RL_96 : WV RL 96 yX8_way cX8_way 5 (some .int) 2 := ⟨⟨tb_of 1094 (by decide +kernel) rfl, zi_RX8, zc_X8_way, ⟨by decide +kernel, by decide +kernel, by decide +kernel⟩, by decide⟩, wn_X8_way, tb_of 1096 (by decide +kernel) rfl⟩
theorem wV_RL_97 : WV RL 97 yX7_choose cX7_choose 3 (some .int) 2 := ⟨⟨tb_of 676 (by decide +kernel) rfl, zi_RX7, zc_X7_choose, ⟨by decide +kernel, by decide +kernel, by decide +kernel⟩, by decide⟩, wn_X7_choose, tb_of 678 (by decide +kernel) rfl⟩
theorem wV_RX8_104 : WV RX8 104 yX8_full cX8_full 1 (some .int) 0 := ⟨⟨tb_of 980 (by decide +kernel) rfl, zi_RX8, zc_X8_full, ⟨by decide +kernel, by decide +kernel, by decide +kernel⟩, by decide⟩, wn_X8_full, tb_sel 34 (by decide +kernel) rfl⟩
theorem wV_RX8_119 : WV RX8 119 yX8_get cX8_get 3 (some .int) 2 := ⟨⟨tb_of 1008 (by decide +kernel) rfl, zi_RX8, zc_X8_get, ⟨by decide +kernel, by decide +kernel, by decide +kernel⟩, by decide⟩, wn_X8_get, tb_sel 36 (by decide +kernel) rfl⟩
theorem wV_RX8_128 : WV RX8 128 yX8_isOther cX8_isOther 4 (some .boolean) 1 := ⟨⟨tb_of 1050 (by decide +kernel) rfl, zi_RX8, zc_X8_isOther, ⟨by decide +kernel, by decide +kernel, by decide +kernel⟩, by decide⟩, wn_X8_isOther, tb_sel 44 (by decide +kernel) rfl⟩
theorem wV_RX8_131 : WV RX8 131 yX8_looksIn cX8_looksIn 3 (some .int) 1 := ⟨⟨tb_of 1036 (by decide +kernel) rfl, zi_RX8, zc_X8_looksIn, ⟨by decide +kernel, by decide +kernel, by decide +kernel⟩, by decide⟩, wn_X8_looksIn, tb_sel 42 (by decide +kernel) rfl⟩
theorem wV_RX8_134 : WV RX8 134 yX8_hiddenOf cX8_hiddenOf 5 (some .int) 1 := ⟨⟨tb_of 1040 (by decide +kernel) rfl, zi_RX8, zc_X8_hiddenOf, ⟨by decide +kernel, by decide +kernel, by decide +kernel⟩, by decide⟩, wn_X8_hiddenOf, tb_sel 43 (by decide +kernel) rfl⟩
theorem wV_RX8_137 : WV RX8 137 yX8_isHeir cX8_isHeir 2 (some .boolean) 1 := ⟨⟨tb_of 1004 (by decide +kernel) rfl, zi_RX8, zc_X8_isHeir, ⟨by decide +kernel, by decide +kernel, by decide +kernel⟩, by decide⟩, wn_X8_isHeir, tb_sel 35 (by decide +kernel) rfl⟩
theorem wV_RX8_140 : WV RX8 140 yX8_no cX8_no 1 (some .int) 0 := ⟨⟨tb_of 1012 (by decide +kernel) rfl, zi_RX8, zc_X8_no, ⟨by decide +kernel, by decide +kernel, by decide +kernel⟩, by decide⟩, wn_X8_no, tb_sel 37 (by decide +kernel) rfl⟩
theorem wV_RX8_143 : WV RX8 143 yX8_keep cX8_keep 4 none 0 := ⟨⟨tb_of 1016 (by decide +kernel) rfl, zi_RX8, zc_X8_keep, ⟨by decide +kernel, by decide +kernel, by decide +kernel⟩, by decide⟩, wn_X8_keep, tb_sel 38 (by decide +kernel) rfl⟩
theorem wV_RX8_146 : WV RX8 146 yX8_set cX8_set 4 none 3 := ⟨⟨tb_of 1020 (by decide +kernel) rfl, zi_RX8, zc_X8_set, ⟨by decide +kernel, by decide +kernel, by decide +kernel⟩, by decide⟩, wn_X8_set, tb_sel 39 (by decide +kernel) rfl⟩
theorem wV_RX8_150 : WV RX8 150 yX8_layHand cX8_layHand 2 none 0 := ⟨⟨tb_of 1028 (by decide +kernel) rfl, zi_RX8, zc_X8_layHand, ⟨by decide +kernel, by decide +kernel, by decide +kernel⟩, by decide⟩, wn_X8_layHand, tb_sel 40 (by decide +kernel) rfl⟩
theorem wV_RX8_153 : WV RX8 153 yX8_goNight cX8_goNight 5 (some .int) 0 := ⟨⟨tb_of 1032 (by decide +kernel) rfl, zi_RX8, zc_X8_goNight, ⟨by decide +kernel, by decide +kernel, by decide +kernel⟩, by decide⟩, wn_X8_goNight, tb_sel 41 (by decide +kernel) rfl⟩
theorem wV_RX8_162 : WV RX8 162 yX8_goTill cX8_goTill 3 (some .int) 0 := ⟨⟨tb_of 1077 (by decide +kernel) rfl, zi_RX8, zc_X8_goTill, ⟨by decide +kernel, by decide +kernel, by decide +kernel⟩, by decide⟩, wn_X8_goTill, tb_sel 45 (by decide +kernel) rfl⟩
theorem wV_RX8_166 : WV RX8 166 yX8_foundIn cX8_foundIn 4 (some .int) 1 := ⟨⟨tb_of 1090 (by decide +kernel) rfl, zi_RX8, zc_X8_foundIn, ⟨by decide +kernel, by decide +kernel, by decide +kernel⟩, by decide⟩, wn_X8_foundIn, tb_sel 46 (by decide +kernel) rfl⟩
theorem wV_RX8_169 : WV RX8 169 yX8_moveAll cX8_moveAll 4 none 0 := ⟨⟨tb_of 1098 (by decide +kernel) rfl, zi_RX8, zc_X8_moveAll, ⟨by decide +kernel, by decide +kernel, by decide +kernel⟩, by decide⟩, wn_X8_moveAll, tb_sel 47 (by decide +kernel) rfl⟩
theorem wV_RX8_172 : WV RX8 172 yX8_nightOfOne cX8_nightOfOne 8 (some .int) 2 := ⟨⟨tb_of 1102 (by decide +kernel) rfl, zi_RX8, zc_X8_nightOfOne, ⟨by decide +kernel, by decide +kernel, by decide +kernel⟩, by decide⟩, wn_X8_nightOfOne, tb_sel 48 (by decide +kernel) rfl⟩
theorem wV_RX8_175 : WV RX8 175 yX8_goAside cX8_goAside 3 none 1 := ⟨⟨tb_of 1114 (by decide +kernel) rfl, zi_RX8, zc_X8_goAside, ⟨by decide +kernel, by decide +kernel, by decide +kernel⟩, by decide⟩, wn_X8_goAside, tb_sel 50 (by decide +kernel) rfl⟩
theorem wV_RX8_179 : WV RX8 179 yX8_layHas cX8_layHas 8 none 2 := ⟨⟨tb_of 1110 (by decide +kernel) rfl, zi_RX8, zc_X8_layHas, ⟨by decide +kernel, by decide +kernel, by decide +kernel⟩, by decide⟩, wn_X8_layHas, tb_sel 49 (by decide +kernel) rfl⟩
theorem wV_RX8_186 : WV RX8 186 yX8_fraction cX8_fraction 6 none 2 := ⟨⟨tb_of 1122 (by decide +kernel) rfl, zi_RX8, zc_X8_fraction, ⟨by decide +kernel, by decide +kernel, by decide +kernel⟩, by decide⟩, wn_X8_fraction, tb_sel 51 (by decide +kernel) rfl⟩
theorem wV_RX8_191 : WV RX8 191 yX8_isStep cX8_isStep 3 (some .boolean) 2 := ⟨⟨tb_of 1143 (by decide +kernel) rfl, zi_RX8, zc_X8_isStep, ⟨by decide +kernel, by decide +kernel, by decide +kernel⟩, by decide⟩, wn_X8_isStep, tb_sel 53 (by decide +kernel) rfl⟩
theorem wV_RX8_195 : WV RX8 195 yX8_mayBe cX8_mayBe 6 (some .boolean) 2 := ⟨⟨tb_of 1147 (by decide +kernel) rfl, zi_RX8, zc_X8_mayBe, ⟨by decide +kernel, by decide +kernel, by decide +kernel⟩, by decide⟩, wn_X8_mayBe, tb_sel 54 (by decide +kernel) rfl⟩
theorem wV_RX8_198 : WV RX8 198 yX8_waysBy cX8_waysBy 3 (some .long) 2 := ⟨⟨tb_of 1151 (by decide +kernel) rfl, zi_RX8, zc_X8_waysBy, ⟨by decide +kernel, by decide +kernel, by decide +kernel⟩, by decide⟩, wn_X8_waysBy, tb_sel 55 (by decide +kernel) rfl⟩
theorem wV_RX8_202 : WV RX8 202 yX8_layWays cX8_layWays 6 none 0 := ⟨⟨tb_of 1139 (by decide +kernel) rfl, zi_RX8, zc_X8_layWays, ⟨by decide +kernel, by decide +kernel, by decide +kernel⟩, by decide⟩, wn_X8_layWays, tb_sel 52 (by decide +kernel) rfl⟩
theorem wV_RX8_205 : WV RX8 205 yX8_allWays cX8_allWays 4 (some .long) 0 := ⟨⟨tb_of 1159 (by decide +kernel) rfl, zi_RX8, zc_X8_allWays, ⟨by decide +kernel, by decide +kernel, by decide +kernel⟩, by decide⟩, wn_X8_allWays, tb_sel 56 (by decide +kernel) rfl⟩
theorem wV_RX8_254 : WV RX8 254 yX8_lookAt cX8_lookAt 5 none 1 := ⟨⟨tb_of 1191 (by decide +kernel) rfl, zi_RX8, zc_X8_lookAt, ⟨by decide +kernel, by decide +kernel, by decide +kernel⟩, by decide⟩, wn_X8_lookAt, tb_sel 57 (by decide +kernel) rfl⟩
theorem wV_RX8_257 : WV RX8 257 yX8_goBehind cX8_goBehind 1 none 0 := ⟨⟨tb_of 1213 (by decide +kernel) rfl, zi_RX8, zc_X8_goBehind, ⟨by decide +kernel, by decide +kernel, by decide +kernel⟩, by decide⟩, wn_X8_goBehind, tb_sel 60 (by decide +kernel) rfl⟩
theorem wV_RX8_260 : WV RX8 260 yX8_isWord cX8_isWord 9 (some .boolean) 6 := ⟨⟨tb_of 1209 (by decide +kernel) rfl, zi_RX8, zc_X8_isWord, ⟨by decide +kernel, by decide +kernel, by decide +kernel⟩, by decide⟩, wn_X8_isWord, tb_sel 59 (by decide +kernel) rfl⟩
theorem wV_RX8_264 : WV RX8 264 yX8_takes cX8_takes 4 (some .boolean) 3 := ⟨⟨tb_of 1217 (by decide +kernel) rfl, zi_RX8, zc_X8_takes, ⟨by decide +kernel, by decide +kernel, by decide +kernel⟩, by decide⟩, wn_X8_takes, tb_sel 61 (by decide +kernel) rfl⟩
theorem wV_RX8_268 : WV RX8 268 yX8_takesRoom cX8_takesRoom 1 (some .boolean) 0 := ⟨⟨tb_of 1225 (by decide +kernel) rfl, zi_RX8, zc_X8_takesRoom, ⟨by decide +kernel, by decide +kernel, by decide +kernel⟩, by decide⟩, wn_X8_takesRoom, tb_sel 63 (by decide +kernel) rfl⟩
theorem wV_RX8_272 : WV RX8 272 yX8_takesDoor cX8_takesDoor 1 (some .boolean) 0 := ⟨⟨tb_of 1229 (by decide +kernel) rfl, zi_RX8, zc_X8_takesDoor, ⟨by decide +kernel, by decide +kernel, by decide +kernel⟩, by decide⟩, wn_X8_takesDoor, tb_sel 64 (by decide +kernel) rfl⟩
theorem wV_RX8_275 : WV RX8 275 yX8_takesList cX8_takesList 2 (some .boolean) 0 := ⟨⟨tb_of 1233 (by decide +kernel) rfl, zi_RX8, zc_X8_takesList, ⟨by decide +kernel, by decide +kernel, by decide +kernel⟩, by decide⟩, wn_X8_takesList, tb_sel 65 (by decide +kernel) rfl⟩
theorem wV_RX8_278 : WV RX8 278 yX8_takesHeir cX8_takesHeir 1 (some .boolean) 0 := ⟨⟨tb_of 1237 (by decide +kernel) rfl, zi_RX8, zc_X8_takesHeir, ⟨by decide +kernel, by decide +kernel, by decide +kernel⟩, by decide⟩, wn_X8_takesHeir, tb_sel 66 (by decide +kernel) rfl⟩
theorem wV_RX8_281 : WV RX8 281 yX8_takesFirst cX8_takesFirst 1 (some .boolean) 0 := ⟨⟨tb_of 1205 (by decide +kernel) rfl, zi_RX8, zc_X8_takesFirst, ⟨by decide +kernel, by decide +kernel, by decide +kernel⟩, by decide⟩, wn_X8_takesFirst, tb_sel 58 (by decide +kernel) rfl⟩
theorem wV_RX8_284 : WV RX8 284 yX8_takesItem cX8_takesItem 1 (some .boolean) 0 := ⟨⟨tb_of 1221 (by decide +kernel) rfl, zi_RX8, zc_X8_takesItem, ⟨by decide +kernel, by decide +kernel, by decide +kernel⟩, by decide⟩, wn_X8_takesItem, tb_sel 62 (by decide +kernel) rfl⟩
theorem wV_RX8_289 : WV RX8 289 yX8_manyIn cX8_manyIn 3 (some .int) 0 := ⟨⟨tb_of 1266 (by decide +kernel) rfl, zi_RX8, zc_X8_manyIn, ⟨by decide +kernel, by decide +kernel, by decide +kernel⟩, by decide⟩, wn_X8_manyIn, tb_sel 68 (by decide +kernel) rfl⟩
theorem wV_RX8_292 : WV RX8 292 yX8_counted cX8_counted 2 (some .int) 1 := ⟨⟨tb_of 1262 (by decide +kernel) rfl, zi_RX8, zc_X8_counted, ⟨by decide +kernel, by decide +kernel, by decide +kernel⟩, by decide⟩, wn_X8_counted, tb_sel 67 (by decide +kernel) rfl⟩
theorem wV_RX8_299 : WV RX8 299 yX8_sums cX8_sums 8 (some .long) 3 := ⟨⟨tb_of 1276 (by decide +kernel) rfl, zi_RX8, zc_X8_sums, ⟨by decide +kernel, by decide +kernel, by decide +kernel⟩, by decide⟩, wn_X8_sums, tb_sel 69 (by decide +kernel) rfl⟩
theorem wV_RX8_74 : WV RX8 74 yX8_heirs cX8_heirs 1 (some .int) 0 := ⟨⟨tb_of 952 (by decide +kernel) rfl, zi_RX8, zc_X8_heirs, ⟨by decide +kernel, by decide +kernel, by decide +kernel⟩, by decide⟩, wn_X8_heirs, tb_sel 32 (by decide +kernel) rfl⟩
theorem wV_RX8_86 : WV RX8 86 yX8_bad cX8_bad 2 (some .int) 1 := ⟨⟨tb_of 948 (by decide +kernel) rfl, zi_RX8, zc_X8_bad, ⟨by decide +kernel, by decide +kernel, by decide +kernel⟩, by decide⟩, wn_X8_bad, tb_sel 31 (by decide +kernel) rfl⟩
theorem wV_RX8_96 : WV RX8 96 yX8_creaks cX8_creaks 3 (some .int) 2 := ⟨⟨tb_of 969 (by decide +kernel) rfl, zi_RX8, zc_X8_creaks, ⟨by decide +kernel, by decide +kernel, by decide +kernel⟩, by decide⟩, wn_X8_creaks, tb_sel 33 (by decide +kernel) rfl⟩
theorem kc_RX0_39 : Cond.constant RX0 39 2147483647 ∈ tb := tb_of 634 (by decide +kernel) rfl
theorem kc_RX6_64 : Cond.constant RX6 64 2147483647 ∈ tb := tb_of 655 (by decide +kernel) rfl
theorem kc_RX7_273 : Cond.constant RX7 273 999999 ∈ tb := tb_of 782 (by decide +kernel) rfl
theorem kc_RX8_165 : Cond.constant RX8 165 1000000 ∈ tb := tb_of 1089 (by decide +kernel) rfl
theorem kc_RX0_109 : Cond.constantLong RX0 109 1103515245 ∈ tb := tb_of 791 (by decide +kernel) rfl
theorem kc_RX0_111 : Cond.constantLong RX0 111 12345 ∈ tb := tb_of 792 (by decide +kernel) rfl
theorem kc_RX0_113 : Cond.constantLong RX0 113 2147483648 ∈ tb := tb_of 793 (by decide +kernel) rfl
theorem kc_RX0_115 : Cond.constantLong RX0 115 65536 ∈ tb := tb_of 794 (by decide +kernel) rfl
theorem kc_RX0_117 : Cond.constantLong RX0 117 8 ∈ tb := tb_of 795 (by decide +kernel) rfl
theorem kc_RX1_124 : Cond.constantLong RX1 124 31 ∈ tb := tb_of 839 (by decide +kernel) rfl
theorem kc_RX7_283 : Cond.constantLong RX7 283 1033 ∈ tb := tb_of 833 (by decide +kernel) rfl
theorem kc_RX7_285 : Cond.constantLong RX7 285 31 ∈ tb := tb_of 834 (by decide +kernel) rfl
theorem kc_RX8_107 : Cond.constantLong RX8 107 5 ∈ tb := tb_of 996 (by decide +kernel) rfl
theorem kc_RX8_156 : Cond.constantLong RX8 156 6 ∈ tb := tb_of 1062 (by decide +kernel) rfl
theorem kc_RX8_158 : Cond.constantLong RX8 158 99 ∈ tb := tb_of 1067 (by decide +kernel) rfl
theorem kc_RX8_160 : Cond.constantLong RX8 160 60 ∈ tb := tb_of 1072 (by decide +kernel) rfl
theorem kc_RX8_189 : Cond.constantLong RX8 189 12 ∈ tb := tb_of 1130 (by decide +kernel) rfl
theorem kc_RX8_209 : Cond.constantLong RX8 209 999999 ∈ tb := tb_of 1171 (by decide +kernel) rfl
theorem kc_RX8_211 : Cond.constantLong RX8 211 30 ∈ tb := tb_of 1172 (by decide +kernel) rfl
theorem kc_RX8_213 : Cond.constantLong RX8 213 1103515245 ∈ tb := tb_of 1173 (by decide +kernel) rfl
theorem kc_RX8_215 : Cond.constantLong RX8 215 12345 ∈ tb := tb_of 1174 (by decide +kernel) rfl
theorem kc_RX8_217 : Cond.constantLong RX8 217 2147483648 ∈ tb := tb_of 1175 (by decide +kernel) rfl
theorem kc_RX8_219 : Cond.constantLong RX8 219 65536 ∈ tb := tb_of 1176 (by decide +kernel) rfl
theorem kc_RX8_221 : Cond.constantLong RX8 221 8 ∈ tb := tb_of 1177 (by decide +kernel) rfl
theorem kc_RX8_223 : Cond.constantLong RX8 223 127 ∈ tb := tb_of 1182 (by decide +kernel) rfl
theorem kc_RX8_228 : Cond.constantLong RX8 228 97 ∈ tb := tb_of 1198 (by decide +kernel) rfl
theorem kc_RX8_230 : Cond.constantLong RX8 230 122 ∈ tb := tb_of 1199 (by decide +kernel) rfl
theorem kc_RX8_232 : Cond.constantLong RX8 232 48 ∈ tb := tb_of 1203 (by decide +kernel) rfl
theorem kc_RX8_234 : Cond.constantLong RX8 234 57 ∈ tb := tb_of 1204 (by decide +kernel) rfl
theorem kc_RX8_287 : Cond.constantLong RX8 287 2 ∈ tb := tb_of 1257 (by decide +kernel) rfl
theorem kc_RX8_295 : Cond.constantLong RX8 295 31 ∈ tb := tb_of 1275 (by decide +kernel) rfl
theorem kc_RX8_297 : Cond.constantLong RX8 297 1033 ∈ tb := tb_of 1274 (by decide +kernel) rfl
theorem kc_RX8_82 : Cond.constantLong RX8 82 7 ∈ tb := tb_of 963 (by decide +kernel) rfl
theorem kc_RX8_84 : Cond.constantLong RX8 84 25 ∈ tb := tb_of 944 (by decide +kernel) rfl
theorem kc_RX8_94 : Cond.constantLong RX8 94 9 ∈ tb := tb_of 964 (by decide +kernel) rfl
theorem kw_RX1_66 : WC RX1 66 := ⟨tb_of 502 (by decide +kernel) rfl, tb_of 504 (by decide +kernel) rfl, tb_of 503 (by decide +kernel) rfl, tb_of 15 (by decide +kernel) rfl⟩
theorem kw_RX3_35 : WC RX3 35 := ⟨tb_of 509 (by decide +kernel) rfl, tb_of 504 (by decide +kernel) rfl, tb_of 503 (by decide +kernel) rfl, tb_of 15 (by decide +kernel) rfl⟩
theorem kw_RX5_35 : WC RX5 35 := ⟨tb_of 748 (by decide +kernel) rfl, tb_of 504 (by decide +kernel) rfl, tb_of 503 (by decide +kernel) rfl, tb_of 15 (by decide +kernel) rfl⟩
theorem kw_RX6_71 : WC RX6 71 := ⟨tb_of 664 (by decide +kernel) rfl, tb_of 504 (by decide +kernel) rfl, tb_of 503 (by decide +kernel) rfl, tb_of 15 (by decide +kernel) rfl⟩
theorem wi_RX0_60 : WS RX0 60 yJ6_compare_7cf53 cJ6_compare_7cf53 2 (some .int) 2 := ⟨⟨tb_of 694 (by decide +kernel) rfl, tb_of 16 (by decide +kernel) rfl, tb_of 696 (by decide +kernel) rfl, ⟨by decide, by decide, by decide +kernel⟩, by decide⟩, tb_of 695 (by decide +kernel) rfl⟩
theorem km_RX0_87 : WM RX0 87 Lib.Math.max.name Lib.Math.max.code 2 (some .int) := ⟨tb_of 708 (by decide +kernel) rfl, tb_of 552 (by decide +kernel) rfl, tb_of 10 (by decide +kernel) rfl, tb_of 553 (by decide +kernel) rfl⟩
theorem km_RX0_96 : WM RX0 96 Lib.Math.min.name Lib.Math.min.code 2 (some .int) := ⟨tb_of 713 (by decide +kernel) rfl, tb_of 389 (by decide +kernel) rfl, tb_of 10 (by decide +kernel) rfl, tb_of 390 (by decide +kernel) rfl⟩
theorem km_RX1_85 : WM RX1 85 Lib.Math.max.name Lib.Math.max.code 2 (some .int) := ⟨tb_of 551 (by decide +kernel) rfl, tb_of 552 (by decide +kernel) rfl, tb_of 10 (by decide +kernel) rfl, tb_of 553 (by decide +kernel) rfl⟩
theorem km_RX1_91 : WM RX1 91 Lib.Math.min.name Lib.Math.min.code 2 (some .int) := ⟨tb_of 554 (by decide +kernel) rfl, tb_of 389 (by decide +kernel) rfl, tb_of 10 (by decide +kernel) rfl, tb_of 390 (by decide +kernel) rfl⟩
theorem km_RX4_37 : WM RX4 37 Lib.Math.min.name Lib.Math.min.code 2 (some .int) := ⟨tb_of 388 (by decide +kernel) rfl, tb_of 389 (by decide +kernel) rfl, tb_of 10 (by decide +kernel) rfl, tb_of 390 (by decide +kernel) rfl⟩
theorem km_RX5_69 : WM RX5 69 Lib.MathLoose.max_long.x Lib.MathLoose.max_long.code 4 (some .long) := ⟨tb_of 775 (by decide +kernel) rfl, tb_of 776 (by decide +kernel) rfl, tb_of 10 (by decide +kernel) rfl, tb_of 777 (by decide +kernel) rfl⟩
theorem km_RX6_65 : WM RX6 65 Lib.Math.min.name Lib.Math.min.code 2 (some .int) := ⟨tb_of 659 (by decide +kernel) rfl, tb_of 389 (by decide +kernel) rfl, tb_of 10 (by decide +kernel) rfl, tb_of 390 (by decide +kernel) rfl⟩
theorem km_RX7_303 : WM RX7 303 Lib.Math.max.name Lib.Math.max.code 2 (some .int) := ⟨tb_of 717 (by decide +kernel) rfl, tb_of 552 (by decide +kernel) rfl, tb_of 10 (by decide +kernel) rfl, tb_of 553 (by decide +kernel) rfl⟩
theorem kn_RX0_9 : Cond.classLink RX0 9 RX3 ∈ tb ∧ Cond.instantiable RX3 6 ∈ tb ∧ Cond.initialized RX3 ∈ tb := ⟨tb_of 172 (by decide +kernel) rfl, tb_of 32 (by decide +kernel) rfl, zi_RX3⟩
theorem kn_RX1_27 : Cond.classLink RX1 27 RX3 ∈ tb ∧ Cond.instantiable RX3 6 ∈ tb ∧ Cond.initialized RX3 ∈ tb := ⟨tb_of 31 (by decide +kernel) rfl, tb_of 32 (by decide +kernel) rfl, zi_RX3⟩
theorem kn_RX2_9 : Cond.classLink RX2 9 RX3 ∈ tb ∧ Cond.instantiable RX3 6 ∈ tb ∧ Cond.initialized RX3 ∈ tb := ⟨tb_of 153 (by decide +kernel) rfl, tb_of 32 (by decide +kernel) rfl, zi_RX3⟩
theorem kn_RX6_11 : Cond.classLink RX6 11 RX3 ∈ tb ∧ Cond.instantiable RX3 6 ∈ tb ∧ Cond.initialized RX3 ∈ tb := ⟨tb_of 189 (by decide +kernel) rfl, tb_of 32 (by decide +kernel) rfl, zi_RX3⟩
theorem kn_RX7_16 : Cond.classLink RX7 16 RX2 ∈ tb ∧ Cond.instantiable RX2 2 ∈ tb ∧ Cond.initialized RX2 ∈ tb := ⟨tb_of 147 (by decide +kernel) rfl, tb_of 148 (by decide +kernel) rfl, zi_RX2⟩
theorem kn_RX7_38 : Cond.classLink RX7 38 RX0 ∈ tb ∧ Cond.instantiable RX0 2 ∈ tb ∧ Cond.initialized RX0 ∈ tb := ⟨tb_of 166 (by decide +kernel) rfl, tb_of 167 (by decide +kernel) rfl, zi_RX0⟩
theorem kn_RX7_45 : Cond.classLink RX7 45 RX6 ∈ tb ∧ Cond.instantiable RX6 5 ∈ tb ∧ Cond.initialized RX6 ∈ tb := ⟨tb_of 183 (by decide +kernel) rfl, tb_of 184 (by decide +kernel) rfl, zi_RX6⟩
theorem kn_RX7_52 : Cond.classLink RX7 52 RX5 ∈ tb ∧ Cond.instantiable RX5 4 ∈ tb ∧ Cond.initialized RX5 ∈ tb := ⟨tb_of 209 (by decide +kernel) rfl, tb_of 210 (by decide +kernel) rfl, zi_RX5⟩
theorem kn_RX7_59 : Cond.classLink RX7 59 RX4 ∈ tb ∧ Cond.instantiable RX4 8 ∈ tb ∧ Cond.initialized RX4 ∈ tb := ⟨tb_of 229 (by decide +kernel) rfl, tb_of 230 (by decide +kernel) rfl, zi_RX4⟩
theorem kn_RX7_7 : Cond.classLink RX7 7 RX1 ∈ tb ∧ Cond.instantiable RX1 14 ∈ tb ∧ Cond.initialized RX1 ∈ tb := ⟨tb_of 25 (by decide +kernel) rfl, tb_of 26 (by decide +kernel) rfl, zi_RX1⟩
theorem kn_RL_10 : Cond.classLink RL 10 RX8 ∈ tb ∧ Cond.instantiable RX8 27 ∈ tb ∧ Cond.initialized RX8 ∈ tb := ⟨tb_of 849 (by decide +kernel) rfl, tb_of 850 (by decide +kernel) rfl, zi_RX8⟩
theorem kn_RL_7 : Cond.classLink RL 7 RX7 ∈ tb ∧ Cond.instantiable RX7 17 ∈ tb ∧ Cond.initialized RX7 ∈ tb := ⟨tb_of 17 (by decide +kernel) rfl, tb_of 18 (by decide +kernel) rfl, zi_RX7⟩
theorem ko_RX0_3 : Cond.methodLink RX0 3 Lib.objectInit ∈ tb ∧ Cond.instanceMethod Lib.objectInit ∈ tb ∧ Cond.code Lib.objectInit ⟨#[0xb1]⟩ 1 none ∈ tb := ⟨tb_of 171 (by decide +kernel) rfl, tb_of 23 (by decide +kernel) rfl, tb_of 24 (by decide +kernel) rfl⟩
theorem ko_RX1_3 : Cond.methodLink RX1 3 Lib.objectInit ∈ tb ∧ Cond.instanceMethod Lib.objectInit ∈ tb ∧ Cond.code Lib.objectInit ⟨#[0xb1]⟩ 1 none ∈ tb := ⟨tb_of 30 (by decide +kernel) rfl, tb_of 23 (by decide +kernel) rfl, tb_of 24 (by decide +kernel) rfl⟩
theorem ko_RX2_3 : Cond.methodLink RX2 3 Lib.objectInit ∈ tb ∧ Cond.instanceMethod Lib.objectInit ∈ tb ∧ Cond.code Lib.objectInit ⟨#[0xb1]⟩ 1 none ∈ tb := ⟨tb_of 152 (by decide +kernel) rfl, tb_of 23 (by decide +kernel) rfl, tb_of 24 (by decide +kernel) rfl⟩
theorem ko_RX3_3 : Cond.methodLink RX3 3 Lib.objectInit ∈ tb ∧ Cond.instanceMethod Lib.objectInit ∈ tb ∧ Cond.code Lib.objectInit ⟨#[0xb1]⟩ 1 none ∈ tb := ⟨tb_of 36 (by decide +kernel) rfl, tb_of 23 (by decide +kernel) rfl, tb_of 24 (by decide +kernel) rfl⟩
theorem ko_RX4_3 : Cond.methodLink RX4 3 Lib.objectInit ∈ tb ∧ Cond.instanceMethod Lib.objectInit ∈ tb ∧ Cond.code Lib.objectInit ⟨#[0xb1]⟩ 1 none ∈ tb := ⟨tb_of 234 (by decide +kernel) rfl, tb_of 23 (by decide +kernel) rfl, tb_of 24 (by decide +kernel) rfl⟩
theorem ko_RX5_3 : Cond.methodLink RX5 3 Lib.objectInit ∈ tb ∧ Cond.instanceMethod Lib.objectInit ∈ tb ∧ Cond.code Lib.objectInit ⟨#[0xb1]⟩ 1 none ∈ tb := ⟨tb_of 214 (by decide +kernel) rfl, tb_of 23 (by decide +kernel) rfl, tb_of 24 (by decide +kernel) rfl⟩
theorem ko_RX6_5 : Cond.methodLink RX6 5 Lib.objectInit ∈ tb ∧ Cond.instanceMethod Lib.objectInit ∈ tb ∧ Cond.code Lib.objectInit ⟨#[0xb1]⟩ 1 none ∈ tb := ⟨tb_of 188 (by decide +kernel) rfl, tb_of 23 (by decide +kernel) rfl, tb_of 24 (by decide +kernel) rfl⟩
theorem ko_RX7_1 : Cond.methodLink RX7 1 Lib.objectInit ∈ tb ∧ Cond.instanceMethod Lib.objectInit ∈ tb ∧ Cond.code Lib.objectInit ⟨#[0xb1]⟩ 1 none ∈ tb := ⟨tb_of 22 (by decide +kernel) rfl, tb_of 23 (by decide +kernel) rfl, tb_of 24 (by decide +kernel) rfl⟩
theorem ko_RX8_1 : Cond.methodLink RX8 1 Lib.objectInit ∈ tb ∧ Cond.instanceMethod Lib.objectInit ∈ tb ∧ Cond.code Lib.objectInit ⟨#[0xb1]⟩ 1 none ∈ tb := ⟨tb_of 854 (by decide +kernel) rfl, tb_of 23 (by decide +kernel) rfl, tb_of 24 (by decide +kernel) rfl⟩
theorem wa_0 : Cond.arrayClass .int ∈ tb := tb_of 75 (by decide +kernel) rfl
theorem wa_1 : Cond.arrayClass .byte ∈ tb := tb_of 260 (by decide +kernel) rfl
theorem wa_2 : Cond.arrayClass .boolean ∈ tb := tb_of 182 (by decide +kernel) rfl
theorem wa_3 : Cond.arrayClass .long ∈ tb := tb_of 228 (by decide +kernel) rfl
theorem ao_4 {g : Gx} : ∀ U, Kn g U → va_AO RX1 U := fun _ h => h.2.1
theorem ao_5 {g : Gx} : ∀ U, Kn g U → va_AO RX2 U := fun _ h => h.2.2.1
theorem ao_6 {g : Gx} : ∀ U, Kn g U → va_AO RX3 U := fun _ h => h.2.2.2.1
theorem ldS_0 {g : Gx} : ∀ U, Kn g U → vk_R RX4 57 "room" (g.2.2.1 0) U := fun _ h => h.2.2.2.2.2.2.1
theorem ldS_1 {g : Gx} : ∀ U, Kn g U → vk_R RX4 66 "door" (g.2.2.1 1) U := fun _ h => h.2.2.2.2.2.2.2.1
theorem ldS_2 {g : Gx} : ∀ U, Kn g U → vk_R RX4 71 "list" (g.2.2.1 2) U := fun _ h => h.2.2.2.2.2.2.2.2.1
theorem ldS_3 {g : Gx} : ∀ U, Kn g U → vk_R RX4 76 "heir" (g.2.2.1 3) U := fun _ h => h.2.2.2.2.2.2.2.2.2.1
theorem ldS_4 {g : Gx} : ∀ U, Kn g U → vk_R RX4 89 "house" (g.2.2.1 4) U := fun _ h => h.2.2.2.2.2.2.2.2.2.2.1
