theorem dX0_init_0 : decode cX0_init 0 = .ok (.aload_n 0, 1) := by decide +kernel
theorem dX0_init_1 : decode cX0_init 1 = .ok (.invokespecial 3, 3) := by decide +kernel
theorem dX0_init_4 : decode cX0_init 4 = .ok (.aload_n 0, 1) := by decide +kernel
theorem dX0_init_5 : decode cX0_init 5 = .ok (.new 9, 3) := by decide +kernel
theorem dX0_init_8 : decode cX0_init 8 = .ok (.dup, 1) := by decide +kernel
theorem dX0_init_9 : decode cX0_init 9 = .ok (.invokespecial 11, 3) := by decide +kernel
theorem dX0_init_12 : decode cX0_init 12 = .ok (.putfield 12, 3) := by decide +kernel
theorem dX0_init_15 : decode cX0_init 15 = .ok (.aload_n 0, 1) := by decide +kernel
theorem dX0_init_16 : decode cX0_init 16 = .ok (.iconst 4, 1) := by decide +kernel
theorem dX0_init_17 : decode cX0_init 17 = .ok (.newarray .int, 2) := by decide +kernel
theorem dX0_init_19 : decode cX0_init 19 = .ok (.putfield 18, 3) := by decide +kernel
theorem dX0_init_22 : decode cX0_init 22 = .ok (.return_, 1) := by decide +kernel
theorem dX0_after_0 : decode cX0_after 0 = .ok (.aload_n 0, 1) := by decide +kernel
theorem dX0_after_1 : decode cX0_after 1 = .ok (.getfield 12, 3) := by decide +kernel
theorem dX0_after_4 : decode cX0_after 4 = .ok (.aload_n 1, 1) := by decide +kernel
theorem dX0_after_5 : decode cX0_after 5 = .ok (.getfield 22, 3) := by decide +kernel
theorem dX0_after_8 : decode cX0_after 8 = .ok (.invokevirtual 27, 3) := by decide +kernel
theorem dX0_after_11 : decode cX0_after 11 = .ok (.iconst 0, 1) := by decide +kernel
theorem dX0_after_12 : decode cX0_after 12 = .ok (.istore_n 3, 1) := by decide +kernel
theorem dX0_after_13 : decode cX0_after 13 = .ok (.iload_n 3, 1) := by decide +kernel
theorem dX0_after_14 : decode cX0_after 14 = .ok (.iload_n 2, 1) := by decide +kernel
theorem dX0_after_15 : decode cX0_after 15 = .ok (.if_icmp .ge 22, 3) := by decide +kernel
theorem dX0_after_18 : decode cX0_after 18 = .ok (.aload_n 1, 1) := by decide +kernel
theorem dX0_after_19 : decode cX0_after 19 = .ok (.aload_n 0, 1) := by decide +kernel
theorem dX0_after_20 : decode cX0_after 20 = .ok (.getfield 12, 3) := by decide +kernel
theorem dX0_after_23 : decode cX0_after 23 = .ok (.aload_n 1, 1) := by decide +kernel
theorem dX0_after_24 : decode cX0_after 24 = .ok (.getfield 31, 3) := by decide +kernel
theorem dX0_after_27 : decode cX0_after 27 = .ok (.invokevirtual 35, 3) := by decide +kernel
theorem dX0_after_30 : decode cX0_after 30 = .ok (.pop, 1) := by decide +kernel
theorem dX0_after_31 : decode cX0_after 31 = .ok (.iinc 3 1, 3) := by decide +kernel
theorem dX0_after_34 : decode cX0_after 34 = .ok (.goto (-21), 3) := by decide +kernel
theorem dX0_after_37 : decode cX0_after 37 = .ok (.aload_n 0, 1) := by decide +kernel
theorem dX0_after_38 : decode cX0_after 38 = .ok (.getfield 12, 3) := by decide +kernel
theorem dX0_after_41 : decode cX0_after 41 = .ok (.areturn, 1) := by decide +kernel
theorem dX0_firstFound_0 : decode cX0_firstFound 0 = .ok (.aload_n 0, 1) := by decide +kernel
theorem dX0_firstFound_1 : decode cX0_firstFound 1 = .ok (.getfield 12, 3) := by decide +kernel
theorem dX0_firstFound_4 : decode cX0_firstFound 4 = .ok (.aload_n 1, 1) := by decide +kernel
theorem dX0_firstFound_5 : decode cX0_firstFound 5 = .ok (.getfield 22, 3) := by decide +kernel
theorem dX0_firstFound_8 : decode cX0_firstFound 8 = .ok (.invokevirtual 27, 3) := by decide +kernel
theorem dX0_firstFound_11 : decode cX0_firstFound 11 = .ok (.iconst 0, 1) := by decide +kernel
theorem dX0_firstFound_12 : decode cX0_firstFound 12 = .ok (.istore_n 2, 1) := by decide +kernel
theorem dX0_firstFound_13 : decode cX0_firstFound 13 = .ok (.iconst 0, 1) := by decide +kernel
theorem dX0_firstFound_14 : decode cX0_firstFound 14 = .ok (.istore_n 3, 1) := by decide +kernel
theorem dX0_firstFound_15 : decode cX0_firstFound 15 = .ok (.iload_n 3, 1) := by decide +kernel
theorem dX0_firstFound_16 : decode cX0_firstFound 16 = .ok (.bipush 60, 2) := by decide +kernel
theorem dX0_firstFound_18 : decode cX0_firstFound 18 = .ok (.if_icmp .ge 26, 3) := by decide +kernel
theorem dX0_firstFound_21 : decode cX0_firstFound 21 = .ok (.iload_n 2, 1) := by decide +kernel
theorem dX0_firstFound_22 : decode cX0_firstFound 22 = .ok (.ifCond .ne 22, 3) := by decide +kernel
theorem dX0_firstFound_25 : decode cX0_firstFound 25 = .ok (.aload_n 1, 1) := by decide +kernel
theorem dX0_firstFound_26 : decode cX0_firstFound 26 = .ok (.aload_n 0, 1) := by decide +kernel
theorem dX0_firstFound_27 : decode cX0_firstFound 27 = .ok (.getfield 12, 3) := by decide +kernel
theorem dX0_firstFound_30 : decode cX0_firstFound 30 = .ok (.aload_n 1, 1) := by decide +kernel
theorem dX0_firstFound_31 : decode cX0_firstFound 31 = .ok (.getfield 31, 3) := by decide +kernel
theorem dX0_firstFound_34 : decode cX0_firstFound 34 = .ok (.invokevirtual 35, 3) := by decide +kernel
theorem dX0_firstFound_37 : decode cX0_firstFound 37 = .ok (.istore_n 2, 1) := by decide +kernel
theorem dX0_firstFound_38 : decode cX0_firstFound 38 = .ok (.iinc 3 1, 3) := by decide +kernel
theorem dX0_firstFound_41 : decode cX0_firstFound 41 = .ok (.goto (-26), 3) := by decide +kernel
theorem dX0_firstFound_44 : decode cX0_firstFound 44 = .ok (.iload_n 2, 1) := by decide +kernel
theorem dX0_firstFound_45 : decode cX0_firstFound 45 = .ok (.ireturn, 1) := by decide +kernel
theorem dX0_bestRoom_0 : decode cX0_bestRoom 0 = .ok (.iconst (-1), 1) := by decide +kernel
theorem dX0_bestRoom_1 : decode cX0_bestRoom 1 = .ok (.istore_n 3, 1) := by decide +kernel
theorem dX0_bestRoom_2 : decode cX0_bestRoom 2 = .ok (.ldc 39, 2) := by decide +kernel
theorem dX0_bestRoom_4 : decode cX0_bestRoom 4 = .ok (.istore 4, 2) := by decide +kernel
theorem dX0_bestRoom_6 : decode cX0_bestRoom 6 = .ok (.iconst 0, 1) := by decide +kernel
theorem dX0_bestRoom_7 : decode cX0_bestRoom 7 = .ok (.istore 5, 2) := by decide +kernel
theorem dX0_bestRoom_9 : decode cX0_bestRoom 9 = .ok (.iload 5, 2) := by decide +kernel
theorem dX0_bestRoom_11 : decode cX0_bestRoom 11 = .ok (.bipush 8, 2) := by decide +kernel
theorem dX0_bestRoom_13 : decode cX0_bestRoom 13 = .ok (.if_icmp .ge 59, 3) := by decide +kernel
theorem dX0_bestRoom_16 : decode cX0_bestRoom 16 = .ok (.aload_n 0, 1) := by decide +kernel
theorem dX0_bestRoom_17 : decode cX0_bestRoom 17 = .ok (.getfield 12, 3) := by decide +kernel
theorem dX0_bestRoom_20 : decode cX0_bestRoom 20 = .ok (.aload_n 1, 1) := by decide +kernel
theorem dX0_bestRoom_21 : decode cX0_bestRoom 21 = .ok (.getfield 22, 3) := by decide +kernel
theorem dX0_bestRoom_24 : decode cX0_bestRoom 24 = .ok (.invokevirtual 27, 3) := by decide +kernel
theorem dX0_bestRoom_27 : decode cX0_bestRoom 27 = .ok (.aload_n 0, 1) := by decide +kernel
theorem dX0_bestRoom_28 : decode cX0_bestRoom 28 = .ok (.getfield 12, 3) := by decide +kernel
theorem dX0_bestRoom_31 : decode cX0_bestRoom 31 = .ok (.getfield 40, 3) := by decide +kernel
theorem dX0_bestRoom_34 : decode cX0_bestRoom 34 = .ok (.iload_n 2, 1) := by decide +kernel
theorem dX0_bestRoom_35 : decode cX0_bestRoom 35 = .ok (.iload 5, 2) := by decide +kernel
theorem dX0_bestRoom_37 : decode cX0_bestRoom 37 = .ok (.iastore, 1) := by decide +kernel
theorem dX0_bestRoom_38 : decode cX0_bestRoom 38 = .ok (.aload_n 0, 1) := by decide +kernel
theorem dX0_bestRoom_39 : decode cX0_bestRoom 39 = .ok (.aload_n 1, 1) := by decide +kernel
theorem dX0_bestRoom_40 : decode cX0_bestRoom 40 = .ok (.iload_n 2, 1) := by decide +kernel
theorem dX0_bestRoom_41 : decode cX0_bestRoom 41 = .ok (.iload_n 2, 1) := by decide +kernel
theorem dX0_bestRoom_42 : decode cX0_bestRoom 42 = .ok (.invokevirtual 43, 3) := by decide +kernel
theorem dX0_bestRoom_45 : decode cX0_bestRoom 45 = .ok (.aload_n 0, 1) := by decide +kernel
theorem dX0_bestRoom_46 : decode cX0_bestRoom 46 = .ok (.iload_n 2, 1) := by decide +kernel
theorem dX0_bestRoom_47 : decode cX0_bestRoom 47 = .ok (.invokevirtual 47, 3) := by decide +kernel
theorem dX0_bestRoom_50 : decode cX0_bestRoom 50 = .ok (.istore 6, 2) := by decide +kernel
theorem dX0_bestRoom_52 : decode cX0_bestRoom 52 = .ok (.iload 6, 2) := by decide +kernel
theorem dX0_bestRoom_54 : decode cX0_bestRoom 54 = .ok (.iload 4, 2) := by decide +kernel
theorem dX0_bestRoom_56 : decode cX0_bestRoom 56 = .ok (.if_icmp .ge 10, 3) := by decide +kernel
theorem dX0_bestRoom_59 : decode cX0_bestRoom 59 = .ok (.iload 6, 2) := by decide +kernel
theorem dX0_bestRoom_61 : decode cX0_bestRoom 61 = .ok (.istore 4, 2) := by decide +kernel
theorem dX0_bestRoom_63 : decode cX0_bestRoom 63 = .ok (.iload 5, 2) := by decide +kernel
theorem dX0_bestRoom_65 : decode cX0_bestRoom 65 = .ok (.istore_n 3, 1) := by decide +kernel
theorem dX0_bestRoom_66 : decode cX0_bestRoom 66 = .ok (.iinc 5 1, 3) := by decide +kernel
theorem dX0_bestRoom_69 : decode cX0_bestRoom 69 = .ok (.goto (-60), 3) := by decide +kernel
theorem dX0_bestRoom_72 : decode cX0_bestRoom 72 = .ok (.iload_n 3, 1) := by decide +kernel
theorem dX0_bestRoom_73 : decode cX0_bestRoom 73 = .ok (.ireturn, 1) := by decide +kernel
theorem dX0_runUntilNoMoreIn_0 : decode cX0_runUntilNoMoreIn 0 = .ok (.iconst 0, 1) := by decide +kernel
theorem dX0_runUntilNoMoreIn_1 : decode cX0_runUntilNoMoreIn 1 = .ok (.istore 4, 2) := by decide +kernel
theorem dX0_runUntilNoMoreIn_3 : decode cX0_runUntilNoMoreIn 3 = .ok (.iload 4, 2) := by decide +kernel
theorem dX0_runUntilNoMoreIn_5 : decode cX0_runUntilNoMoreIn 5 = .ok (.bipush 60, 2) := by decide +kernel
theorem dX0_runUntilNoMoreIn_7 : decode cX0_runUntilNoMoreIn 7 = .ok (.if_icmp .ge 46, 3) := by decide +kernel
theorem dX0_runUntilNoMoreIn_10 : decode cX0_runUntilNoMoreIn 10 = .ok (.aload_n 0, 1) := by decide +kernel
theorem dX0_runUntilNoMoreIn_11 : decode cX0_runUntilNoMoreIn 11 = .ok (.getfield 12, 3) := by decide +kernel
theorem dX0_runUntilNoMoreIn_14 : decode cX0_runUntilNoMoreIn 14 = .ok (.getfield 51, 3) := by decide +kernel
theorem dX0_runUntilNoMoreIn_17 : decode cX0_runUntilNoMoreIn 17 = .ok (.iload_n 2, 1) := by decide +kernel
theorem dX0_runUntilNoMoreIn_18 : decode cX0_runUntilNoMoreIn 18 = .ok (.iaload, 1) := by decide +kernel
theorem dX0_runUntilNoMoreIn_19 : decode cX0_runUntilNoMoreIn 19 = .ok (.ifCond .eq 15, 3) := by decide +kernel
theorem dX0_runUntilNoMoreIn_22 : decode cX0_runUntilNoMoreIn 22 = .ok (.aload_n 0, 1) := by decide +kernel
theorem dX0_runUntilNoMoreIn_23 : decode cX0_runUntilNoMoreIn 23 = .ok (.getfield 12, 3) := by decide +kernel
theorem dX0_runUntilNoMoreIn_26 : decode cX0_runUntilNoMoreIn 26 = .ok (.getfield 51, 3) := by decide +kernel
theorem dX0_runUntilNoMoreIn_29 : decode cX0_runUntilNoMoreIn 29 = .ok (.iload_n 3, 1) := by decide +kernel
theorem dX0_runUntilNoMoreIn_30 : decode cX0_runUntilNoMoreIn 30 = .ok (.iaload, 1) := by decide +kernel
theorem dX0_runUntilNoMoreIn_31 : decode cX0_runUntilNoMoreIn 31 = .ok (.ifCond .ne 22, 3) := by decide +kernel
theorem dX0_runUntilNoMoreIn_34 : decode cX0_runUntilNoMoreIn 34 = .ok (.aload_n 1, 1) := by decide +kernel
theorem dX0_runUntilNoMoreIn_35 : decode cX0_runUntilNoMoreIn 35 = .ok (.aload_n 0, 1) := by decide +kernel
theorem dX0_runUntilNoMoreIn_36 : decode cX0_runUntilNoMoreIn 36 = .ok (.getfield 12, 3) := by decide +kernel
theorem dX0_runUntilNoMoreIn_39 : decode cX0_runUntilNoMoreIn 39 = .ok (.aload_n 1, 1) := by decide +kernel
theorem dX0_runUntilNoMoreIn_40 : decode cX0_runUntilNoMoreIn 40 = .ok (.getfield 31, 3) := by decide +kernel
theorem dX0_runUntilNoMoreIn_43 : decode cX0_runUntilNoMoreIn 43 = .ok (.invokevirtual 35, 3) := by decide +kernel
theorem dX0_runUntilNoMoreIn_46 : decode cX0_runUntilNoMoreIn 46 = .ok (.pop, 1) := by decide +kernel
theorem dX0_runUntilNoMoreIn_47 : decode cX0_runUntilNoMoreIn 47 = .ok (.iinc 4 1, 3) := by decide +kernel
theorem dX0_runUntilNoMoreIn_50 : decode cX0_runUntilNoMoreIn 50 = .ok (.goto (-47), 3) := by decide +kernel
theorem dX0_runUntilNoMoreIn_53 : decode cX0_runUntilNoMoreIn 53 = .ok (.return_, 1) := by decide +kernel
theorem dX0_foundNight_0 : decode cX0_foundNight 0 = .ok (.aload_n 0, 1) := by decide +kernel
theorem dX0_foundNight_1 : decode cX0_foundNight 1 = .ok (.getfield 12, 3) := by decide +kernel
theorem dX0_foundNight_4 : decode cX0_foundNight 4 = .ok (.getfield 51, 3) := by decide +kernel
theorem dX0_foundNight_7 : decode cX0_foundNight 7 = .ok (.iload_n 1, 1) := by decide +kernel
theorem dX0_foundNight_8 : decode cX0_foundNight 8 = .ok (.iaload, 1) := by decide +kernel
theorem dX0_foundNight_9 : decode cX0_foundNight 9 = .ok (.iconst 2, 1) := by decide +kernel
theorem dX0_foundNight_10 : decode cX0_foundNight 10 = .ok (.if_icmp .ne 15, 3) := by decide +kernel
theorem dX0_foundNight_13 : decode cX0_foundNight 13 = .ok (.aload_n 0, 1) := by decide +kernel
theorem dX0_foundNight_14 : decode cX0_foundNight 14 = .ok (.getfield 12, 3) := by decide +kernel
theorem dX0_foundNight_17 : decode cX0_foundNight 17 = .ok (.getfield 54, 3) := by decide +kernel
theorem dX0_foundNight_20 : decode cX0_foundNight 20 = .ok (.iload_n 1, 1) := by decide +kernel
theorem dX0_foundNight_21 : decode cX0_foundNight 21 = .ok (.iaload, 1) := by decide +kernel
theorem dX0_foundNight_22 : decode cX0_foundNight 22 = .ok (.goto 5, 3) := by decide +kernel
theorem dX0_foundNight_25 : decode cX0_foundNight 25 = .ok (.ldc 39, 2) := by decide +kernel
theorem dX0_foundNight_27 : decode cX0_foundNight 27 = .ok (.ireturn, 1) := by decide +kernel
theorem dX0_restingPairs_0 : decode cX0_restingPairs 0 = .ok (.iconst 0, 1) := by decide +kernel
theorem dX0_restingPairs_1 : decode cX0_restingPairs 1 = .ok (.istore 4, 2) := by decide +kernel
theorem dX0_restingPairs_3 : decode cX0_restingPairs 3 = .ok (.iload 4, 2) := by decide +kernel
theorem dX0_restingPairs_5 : decode cX0_restingPairs 5 = .ok (.iconst 4, 1) := by decide +kernel
theorem dX0_restingPairs_6 : decode cX0_restingPairs 6 = .ok (.if_icmp .ge 67, 3) := by decide +kernel
theorem dX0_restingPairs_9 : decode cX0_restingPairs 9 = .ok (.aload_n 0, 1) := by decide +kernel
theorem dX0_restingPairs_10 : decode cX0_restingPairs 10 = .ok (.aload_n 1, 1) := by decide +kernel
theorem dX0_restingPairs_11 : decode cX0_restingPairs 11 = .ok (.iload 4, 2) := by decide +kernel
theorem dX0_restingPairs_13 : decode cX0_restingPairs 13 = .ok (.iconst 1, 1) := by decide +kernel
theorem dX0_restingPairs_14 : decode cX0_restingPairs 14 = .ok (.iand, 1) := by decide +kernel
theorem dX0_restingPairs_15 : decode cX0_restingPairs 15 = .ok (.ifCond .eq 7, 3) := by decide +kernel
theorem dX0_restingPairs_18 : decode cX0_restingPairs 18 = .ok (.iload_n 2, 1) := by decide +kernel
theorem dX0_restingPairs_19 : decode cX0_restingPairs 19 = .ok (.goto 4, 3) := by decide +kernel
theorem dX0_restingPairs_22 : decode cX0_restingPairs 22 = .ok (.iconst (-1), 1) := by decide +kernel
theorem dX0_restingPairs_23 : decode cX0_restingPairs 23 = .ok (.iload 4, 2) := by decide +kernel
theorem dX0_restingPairs_25 : decode cX0_restingPairs 25 = .ok (.iconst 2, 1) := by decide +kernel
theorem dX0_restingPairs_26 : decode cX0_restingPairs 26 = .ok (.iand, 1) := by decide +kernel
theorem dX0_restingPairs_27 : decode cX0_restingPairs 27 = .ok (.ifCond .eq 7, 3) := by decide +kernel
theorem dX0_restingPairs_30 : decode cX0_restingPairs 30 = .ok (.iload_n 3, 1) := by decide +kernel
theorem dX0_restingPairs_31 : decode cX0_restingPairs 31 = .ok (.goto 4, 3) := by decide +kernel
theorem dX0_restingPairs_34 : decode cX0_restingPairs 34 = .ok (.iconst (-1), 1) := by decide +kernel
theorem dX0_restingPairs_35 : decode cX0_restingPairs 35 = .ok (.invokevirtual 57, 3) := by decide +kernel
theorem dX0_restingPairs_38 : decode cX0_restingPairs 38 = .ok (.aload_n 0, 1) := by decide +kernel
theorem dX0_restingPairs_39 : decode cX0_restingPairs 39 = .ok (.aload_n 1, 1) := by decide +kernel
theorem dX0_restingPairs_40 : decode cX0_restingPairs 40 = .ok (.iload_n 2, 1) := by decide +kernel
theorem dX0_restingPairs_41 : decode cX0_restingPairs 41 = .ok (.iload_n 3, 1) := by decide +kernel
theorem dX0_restingPairs_42 : decode cX0_restingPairs 42 = .ok (.invokevirtual 43, 3) := by decide +kernel
theorem dX0_restingPairs_45 : decode cX0_restingPairs 45 = .ok (.aload_n 0, 1) := by decide +kernel
theorem dX0_restingPairs_46 : decode cX0_restingPairs 46 = .ok (.getfield 18, 3) := by decide +kernel
theorem dX0_restingPairs_49 : decode cX0_restingPairs 49 = .ok (.iload 4, 2) := by decide +kernel
theorem dX0_restingPairs_51 : decode cX0_restingPairs 51 = .ok (.iconst 1, 1) := by decide +kernel
theorem dX0_restingPairs_52 : decode cX0_restingPairs 52 = .ok (.aload_n 0, 1) := by decide +kernel
theorem dX0_restingPairs_53 : decode cX0_restingPairs 53 = .ok (.iload_n 2, 1) := by decide +kernel
theorem dX0_restingPairs_54 : decode cX0_restingPairs 54 = .ok (.invokevirtual 47, 3) := by decide +kernel
theorem dX0_restingPairs_57 : decode cX0_restingPairs 57 = .ok (.aload_n 0, 1) := by decide +kernel
theorem dX0_restingPairs_58 : decode cX0_restingPairs 58 = .ok (.iload_n 3, 1) := by decide +kernel
theorem dX0_restingPairs_59 : decode cX0_restingPairs 59 = .ok (.invokevirtual 47, 3) := by decide +kernel
theorem dX0_restingPairs_62 : decode cX0_restingPairs 62 = .ok (.invokestatic 60, 3) := by decide +kernel
theorem dX0_restingPairs_65 : decode cX0_restingPairs 65 = .ok (.isub, 1) := by decide +kernel
theorem dX0_restingPairs_66 : decode cX0_restingPairs 66 = .ok (.iastore, 1) := by decide +kernel
theorem dX0_restingPairs_67 : decode cX0_restingPairs 67 = .ok (.iinc 4 1, 3) := by decide +kernel
theorem dX0_restingPairs_70 : decode cX0_restingPairs 70 = .ok (.goto (-67), 3) := by decide +kernel
theorem dX0_restingPairs_73 : decode cX0_restingPairs 73 = .ok (.iconst 0, 1) := by decide +kernel
theorem dX0_restingPairs_74 : decode cX0_restingPairs 74 = .ok (.istore 4, 2) := by decide +kernel
theorem dX0_restingPairs_76 : decode cX0_restingPairs 76 = .ok (.iconst 0, 1) := by decide +kernel
theorem dX0_restingPairs_77 : decode cX0_restingPairs 77 = .ok (.istore 5, 2) := by decide +kernel
theorem dX0_restingPairs_79 : decode cX0_restingPairs 79 = .ok (.iload 5, 2) := by decide +kernel
theorem dX0_restingPairs_81 : decode cX0_restingPairs 81 = .ok (.iconst 4, 1) := by decide +kernel
theorem dX0_restingPairs_82 : decode cX0_restingPairs 82 = .ok (.if_icmp .ge 56, 3) := by decide +kernel
theorem dX0_restingPairs_85 : decode cX0_restingPairs 85 = .ok (.aload_n 0, 1) := by decide +kernel
theorem dX0_restingPairs_86 : decode cX0_restingPairs 86 = .ok (.getfield 18, 3) := by decide +kernel
theorem dX0_restingPairs_89 : decode cX0_restingPairs 89 = .ok (.iload 5, 2) := by decide +kernel
theorem dX0_restingPairs_91 : decode cX0_restingPairs 91 = .ok (.iaload, 1) := by decide +kernel
theorem dX0_restingPairs_92 : decode cX0_restingPairs 92 = .ok (.aload_n 0, 1) := by decide +kernel
theorem dX0_restingPairs_93 : decode cX0_restingPairs 93 = .ok (.getfield 18, 3) := by decide +kernel
theorem dX0_restingPairs_96 : decode cX0_restingPairs 96 = .ok (.iload 5, 2) := by decide +kernel
theorem dX0_restingPairs_98 : decode cX0_restingPairs 98 = .ok (.iconst 1, 1) := by decide +kernel
theorem dX0_restingPairs_99 : decode cX0_restingPairs 99 = .ok (.ixor, 1) := by decide +kernel
theorem dX0_restingPairs_100 : decode cX0_restingPairs 100 = .ok (.iaload, 1) := by decide +kernel
theorem dX0_restingPairs_101 : decode cX0_restingPairs 101 = .ok (.if_icmp .lt 31, 3) := by decide +kernel
theorem dX0_restingPairs_104 : decode cX0_restingPairs 104 = .ok (.aload_n 0, 1) := by decide +kernel
theorem dX0_restingPairs_105 : decode cX0_restingPairs 105 = .ok (.getfield 18, 3) := by decide +kernel
theorem dX0_restingPairs_108 : decode cX0_restingPairs 108 = .ok (.iload 5, 2) := by decide +kernel
theorem dX0_restingPairs_110 : decode cX0_restingPairs 110 = .ok (.iaload, 1) := by decide +kernel
theorem dX0_restingPairs_111 : decode cX0_restingPairs 111 = .ok (.aload_n 0, 1) := by decide +kernel
theorem dX0_restingPairs_112 : decode cX0_restingPairs 112 = .ok (.getfield 18, 3) := by decide +kernel
theorem dX0_restingPairs_115 : decode cX0_restingPairs 115 = .ok (.iload 5, 2) := by decide +kernel
theorem dX0_restingPairs_117 : decode cX0_restingPairs 117 = .ok (.iconst 2, 1) := by decide +kernel
theorem dX0_restingPairs_118 : decode cX0_restingPairs 118 = .ok (.ixor, 1) := by decide +kernel
theorem dX0_restingPairs_119 : decode cX0_restingPairs 119 = .ok (.iaload, 1) := by decide +kernel
theorem dX0_restingPairs_120 : decode cX0_restingPairs 120 = .ok (.if_icmp .gt 12, 3) := by decide +kernel
theorem dX0_restingPairs_123 : decode cX0_restingPairs 123 = .ok (.iload 4, 2) := by decide +kernel
theorem dX0_restingPairs_125 : decode cX0_restingPairs 125 = .ok (.iconst 1, 1) := by decide +kernel
theorem dX0_restingPairs_126 : decode cX0_restingPairs 126 = .ok (.iload 5, 2) := by decide +kernel
theorem dX0_restingPairs_128 : decode cX0_restingPairs 128 = .ok (.ishl, 1) := by decide +kernel
theorem dX0_restingPairs_129 : decode cX0_restingPairs 129 = .ok (.ior, 1) := by decide +kernel
theorem dX0_restingPairs_130 : decode cX0_restingPairs 130 = .ok (.istore 4, 2) := by decide +kernel
theorem dX0_restingPairs_132 : decode cX0_restingPairs 132 = .ok (.iinc 5 1, 3) := by decide +kernel
theorem dX0_restingPairs_135 : decode cX0_restingPairs 135 = .ok (.goto (-56), 3) := by decide +kernel
theorem dX0_restingPairs_138 : decode cX0_restingPairs 138 = .ok (.iload 4, 2) := by decide +kernel
theorem dX0_restingPairs_140 : decode cX0_restingPairs 140 = .ok (.ireturn, 1) := by decide +kernel
theorem dX0_begin_0 : decode cX0_begin 0 = .ok (.aload_n 0, 1) := by decide +kernel
theorem dX0_begin_1 : decode cX0_begin 1 = .ok (.getfield 12, 3) := by decide +kernel
theorem dX0_begin_4 : decode cX0_begin 4 = .ok (.aload_n 1, 1) := by decide +kernel
theorem dX0_begin_5 : decode cX0_begin 5 = .ok (.getfield 22, 3) := by decide +kernel
theorem dX0_begin_8 : decode cX0_begin 8 = .ok (.invokevirtual 27, 3) := by decide +kernel
theorem dX0_begin_11 : decode cX0_begin 11 = .ok (.iload_n 2, 1) := by decide +kernel
theorem dX0_begin_12 : decode cX0_begin 12 = .ok (.iconst (-1), 1) := by decide +kernel
theorem dX0_begin_13 : decode cX0_begin 13 = .ok (.if_icmp .eq 9, 3) := by decide +kernel
theorem dX0_begin_16 : decode cX0_begin 16 = .ok (.aload_n 0, 1) := by decide +kernel
theorem dX0_begin_17 : decode cX0_begin 17 = .ok (.aload_n 1, 1) := by decide +kernel
theorem dX0_begin_18 : decode cX0_begin 18 = .ok (.iload_n 2, 1) := by decide +kernel
theorem dX0_begin_19 : decode cX0_begin 19 = .ok (.invokevirtual 66, 3) := by decide +kernel
theorem dX0_begin_22 : decode cX0_begin 22 = .ok (.iload_n 3, 1) := by decide +kernel
theorem dX0_begin_23 : decode cX0_begin 23 = .ok (.iconst (-1), 1) := by decide +kernel
theorem dX0_begin_24 : decode cX0_begin 24 = .ok (.if_icmp .eq 9, 3) := by decide +kernel
theorem dX0_begin_27 : decode cX0_begin 27 = .ok (.aload_n 0, 1) := by decide +kernel
theorem dX0_begin_28 : decode cX0_begin 28 = .ok (.aload_n 1, 1) := by decide +kernel
theorem dX0_begin_29 : decode cX0_begin 29 = .ok (.iload_n 3, 1) := by decide +kernel
theorem dX0_begin_30 : decode cX0_begin 30 = .ok (.invokevirtual 66, 3) := by decide +kernel
theorem dX0_begin_33 : decode cX0_begin 33 = .ok (.return_, 1) := by decide +kernel
theorem dX0_goThroughLeastDoor_0 : decode cX0_goThroughLeastDoor 0 = .ok (.aload_n 0, 1) := by decide +kernel
theorem dX0_goThroughLeastDoor_1 : decode cX0_goThroughLeastDoor 1 = .ok (.getfield 12, 3) := by decide +kernel
theorem dX0_goThroughLeastDoor_4 : decode cX0_goThroughLeastDoor 4 = .ok (.getfield 40, 3) := by decide +kernel
theorem dX0_goThroughLeastDoor_7 : decode cX0_goThroughLeastDoor 7 = .ok (.iload_n 2, 1) := by decide +kernel
theorem dX0_goThroughLeastDoor_8 : decode cX0_goThroughLeastDoor 8 = .ok (.iaload, 1) := by decide +kernel
theorem dX0_goThroughLeastDoor_9 : decode cX0_goThroughLeastDoor 9 = .ok (.istore_n 3, 1) := by decide +kernel
theorem dX0_goThroughLeastDoor_10 : decode cX0_goThroughLeastDoor 10 = .ok (.iconst 0, 1) := by decide +kernel
theorem dX0_goThroughLeastDoor_11 : decode cX0_goThroughLeastDoor 11 = .ok (.istore 4, 2) := by decide +kernel
theorem dX0_goThroughLeastDoor_13 : decode cX0_goThroughLeastDoor 13 = .ok (.iload 4, 2) := by decide +kernel
theorem dX0_goThroughLeastDoor_15 : decode cX0_goThroughLeastDoor 15 = .ok (.bipush 8, 2) := by decide +kernel
theorem dX0_goThroughLeastDoor_17 : decode cX0_goThroughLeastDoor 17 = .ok (.if_icmp .ge 30, 3) := by decide +kernel
theorem dX0_goThroughLeastDoor_20 : decode cX0_goThroughLeastDoor 20 = .ok (.aload_n 1, 1) := by decide +kernel
theorem dX0_goThroughLeastDoor_21 : decode cX0_goThroughLeastDoor 21 = .ok (.iload_n 3, 1) := by decide +kernel
theorem dX0_goThroughLeastDoor_22 : decode cX0_goThroughLeastDoor 22 = .ok (.iload 4, 2) := by decide +kernel
theorem dX0_goThroughLeastDoor_24 : decode cX0_goThroughLeastDoor 24 = .ok (.invokevirtual 70, 3) := by decide +kernel
theorem dX0_goThroughLeastDoor_27 : decode cX0_goThroughLeastDoor 27 = .ok (.ifCond .le 14, 3) := by decide +kernel
theorem dX0_goThroughLeastDoor_30 : decode cX0_goThroughLeastDoor 30 = .ok (.aload_n 0, 1) := by decide +kernel
theorem dX0_goThroughLeastDoor_31 : decode cX0_goThroughLeastDoor 31 = .ok (.getfield 12, 3) := by decide +kernel
theorem dX0_goThroughLeastDoor_34 : decode cX0_goThroughLeastDoor 34 = .ok (.iload_n 2, 1) := by decide +kernel
theorem dX0_goThroughLeastDoor_35 : decode cX0_goThroughLeastDoor 35 = .ok (.iload 4, 2) := by decide +kernel
theorem dX0_goThroughLeastDoor_37 : decode cX0_goThroughLeastDoor 37 = .ok (.invokevirtual 73, 3) := by decide +kernel
theorem dX0_goThroughLeastDoor_40 : decode cX0_goThroughLeastDoor 40 = .ok (.return_, 1) := by decide +kernel
theorem dX0_goThroughLeastDoor_41 : decode cX0_goThroughLeastDoor 41 = .ok (.iinc 4 1, 3) := by decide +kernel
theorem dX0_goThroughLeastDoor_44 : decode cX0_goThroughLeastDoor 44 = .ok (.goto (-31), 3) := by decide +kernel
theorem dX0_goThroughLeastDoor_47 : decode cX0_goThroughLeastDoor 47 = .ok (.return_, 1) := by decide +kernel
theorem dX0_luckyEyes_0 : decode cX0_luckyEyes 0 = .ok (.aload_n 0, 1) := by decide +kernel
theorem dX0_luckyEyes_1 : decode cX0_luckyEyes 1 = .ok (.getfield 12, 3) := by decide +kernel
theorem dX0_luckyEyes_4 : decode cX0_luckyEyes 4 = .ok (.aload_n 1, 1) := by decide +kernel
theorem dX0_luckyEyes_5 : decode cX0_luckyEyes 5 = .ok (.getfield 22, 3) := by decide +kernel
theorem dX0_luckyEyes_8 : decode cX0_luckyEyes 8 = .ok (.invokevirtual 27, 3) := by decide +kernel
theorem dX0_luckyEyes_11 : decode cX0_luckyEyes 11 = .ok (.bipush 25, 2) := by decide +kernel
theorem dX0_luckyEyes_13 : decode cX0_luckyEyes 13 = .ok (.istore_n 3, 1) := by decide +kernel
theorem dX0_luckyEyes_14 : decode cX0_luckyEyes 14 = .ok (.iconst 0, 1) := by decide +kernel
theorem dX0_luckyEyes_15 : decode cX0_luckyEyes 15 = .ok (.istore 4, 2) := by decide +kernel
theorem dX0_luckyEyes_17 : decode cX0_luckyEyes 17 = .ok (.iconst 0, 1) := by decide +kernel
theorem dX0_luckyEyes_18 : decode cX0_luckyEyes 18 = .ok (.istore 5, 2) := by decide +kernel
theorem dX0_luckyEyes_20 : decode cX0_luckyEyes 20 = .ok (.iload 5, 2) := by decide +kernel
theorem dX0_luckyEyes_22 : decode cX0_luckyEyes 22 = .ok (.bipush 60, 2) := by decide +kernel
theorem dX0_luckyEyes_24 : decode cX0_luckyEyes 24 = .ok (.if_icmp .ge 83, 3) := by decide +kernel
theorem dX0_luckyEyes_27 : decode cX0_luckyEyes 27 = .ok (.iload_n 3, 1) := by decide +kernel
theorem dX0_luckyEyes_28 : decode cX0_luckyEyes 28 = .ok (.ifCond .le 79, 3) := by decide +kernel
theorem dX0_luckyEyes_31 : decode cX0_luckyEyes 31 = .ok (.aload_n 1, 1) := by decide +kernel
theorem dX0_luckyEyes_32 : decode cX0_luckyEyes 32 = .ok (.aload_n 0, 1) := by decide +kernel
theorem dX0_luckyEyes_33 : decode cX0_luckyEyes 33 = .ok (.getfield 12, 3) := by decide +kernel
theorem dX0_luckyEyes_36 : decode cX0_luckyEyes 36 = .ok (.aload_n 1, 1) := by decide +kernel
theorem dX0_luckyEyes_37 : decode cX0_luckyEyes 37 = .ok (.aload_n 0, 1) := by decide +kernel
theorem dX0_luckyEyes_38 : decode cX0_luckyEyes 38 = .ok (.getfield 12, 3) := by decide +kernel
theorem dX0_luckyEyes_41 : decode cX0_luckyEyes 41 = .ok (.invokevirtual 77, 3) := by decide +kernel
theorem dX0_luckyEyes_44 : decode cX0_luckyEyes 44 = .ok (.invokevirtual 81, 3) := by decide +kernel
theorem dX0_luckyEyes_47 : decode cX0_luckyEyes 47 = .ok (.istore 6, 2) := by decide +kernel
theorem dX0_luckyEyes_49 : decode cX0_luckyEyes 49 = .ok (.iload 6, 2) := by decide +kernel
theorem dX0_luckyEyes_51 : decode cX0_luckyEyes 51 = .ok (.iload_n 2, 1) := by decide +kernel
theorem dX0_luckyEyes_52 : decode cX0_luckyEyes 52 = .ok (.ishr, 1) := by decide +kernel
theorem dX0_luckyEyes_53 : decode cX0_luckyEyes 53 = .ok (.iconst 1, 1) := by decide +kernel
theorem dX0_luckyEyes_54 : decode cX0_luckyEyes 54 = .ok (.iand, 1) := by decide +kernel
theorem dX0_luckyEyes_55 : decode cX0_luckyEyes 55 = .ok (.iconst 1, 1) := by decide +kernel
theorem dX0_luckyEyes_56 : decode cX0_luckyEyes 56 = .ok (.if_icmp .ne 23, 3) := by decide +kernel
theorem dX0_luckyEyes_59 : decode cX0_luckyEyes 59 = .ok (.iload 4, 2) := by decide +kernel
theorem dX0_luckyEyes_61 : decode cX0_luckyEyes 61 = .ok (.iconst 0, 1) := by decide +kernel
theorem dX0_luckyEyes_62 : decode cX0_luckyEyes 62 = .ok (.iload_n 3, 1) := by decide +kernel
theorem dX0_luckyEyes_63 : decode cX0_luckyEyes 63 = .ok (.aload_n 1, 1) := by decide +kernel
theorem dX0_luckyEyes_64 : decode cX0_luckyEyes 64 = .ok (.aload_n 0, 1) := by decide +kernel
theorem dX0_luckyEyes_65 : decode cX0_luckyEyes 65 = .ok (.getfield 12, 3) := by decide +kernel
theorem dX0_luckyEyes_68 : decode cX0_luckyEyes 68 = .ok (.iload_n 2, 1) := by decide +kernel
theorem dX0_luckyEyes_69 : decode cX0_luckyEyes 69 = .ok (.invokevirtual 84, 3) := by decide +kernel
theorem dX0_luckyEyes_72 : decode cX0_luckyEyes 72 = .ok (.isub, 1) := by decide +kernel
theorem dX0_luckyEyes_73 : decode cX0_luckyEyes 73 = .ok (.invokestatic 87, 3) := by decide +kernel
theorem dX0_luckyEyes_76 : decode cX0_luckyEyes 76 = .ok (.iadd, 1) := by decide +kernel
theorem dX0_luckyEyes_77 : decode cX0_luckyEyes 77 = .ok (.istore 4, 2) := by decide +kernel
theorem dX0_luckyEyes_79 : decode cX0_luckyEyes 79 = .ok (.iload_n 3, 1) := by decide +kernel
theorem dX0_luckyEyes_80 : decode cX0_luckyEyes 80 = .ok (.aload_n 0, 1) := by decide +kernel
theorem dX0_luckyEyes_81 : decode cX0_luckyEyes 81 = .ok (.aload_n 1, 1) := by decide +kernel
theorem dX0_luckyEyes_82 : decode cX0_luckyEyes 82 = .ok (.iload 6, 2) := by decide +kernel
theorem dX0_luckyEyes_84 : decode cX0_luckyEyes 84 = .ok (.invokevirtual 92, 3) := by decide +kernel
theorem dX0_luckyEyes_87 : decode cX0_luckyEyes 87 = .ok (.invokestatic 96, 3) := by decide +kernel
theorem dX0_luckyEyes_90 : decode cX0_luckyEyes 90 = .ok (.istore_n 3, 1) := by decide +kernel
theorem dX0_luckyEyes_91 : decode cX0_luckyEyes 91 = .ok (.aload_n 1, 1) := by decide +kernel
theorem dX0_luckyEyes_92 : decode cX0_luckyEyes 92 = .ok (.aload_n 0, 1) := by decide +kernel
theorem dX0_luckyEyes_93 : decode cX0_luckyEyes 93 = .ok (.getfield 12, 3) := by decide +kernel
theorem dX0_luckyEyes_96 : decode cX0_luckyEyes 96 = .ok (.iconst 0, 1) := by decide +kernel
theorem dX0_luckyEyes_97 : decode cX0_luckyEyes 97 = .ok (.invokevirtual 35, 3) := by decide +kernel
theorem dX0_luckyEyes_100 : decode cX0_luckyEyes 100 = .ok (.pop, 1) := by decide +kernel
theorem dX0_luckyEyes_101 : decode cX0_luckyEyes 101 = .ok (.iinc 5 1, 3) := by decide +kernel
theorem dX0_luckyEyes_104 : decode cX0_luckyEyes 104 = .ok (.goto (-84), 3) := by decide +kernel
theorem dX0_luckyEyes_107 : decode cX0_luckyEyes 107 = .ok (.iload 4, 2) := by decide +kernel
theorem dX0_luckyEyes_109 : decode cX0_luckyEyes 109 = .ok (.ireturn, 1) := by decide +kernel
theorem dX0_leastHidden_0 : decode cX0_leastHidden 0 = .ok (.ldc 39, 2) := by decide +kernel
theorem dX0_leastHidden_2 : decode cX0_leastHidden 2 = .ok (.istore_n 3, 1) := by decide +kernel
theorem dX0_leastHidden_3 : decode cX0_leastHidden 3 = .ok (.iconst 0, 1) := by decide +kernel
theorem dX0_leastHidden_4 : decode cX0_leastHidden 4 = .ok (.istore 4, 2) := by decide +kernel
theorem dX0_leastHidden_6 : decode cX0_leastHidden 6 = .ok (.iload 4, 2) := by decide +kernel
theorem dX0_leastHidden_8 : decode cX0_leastHidden 8 = .ok (.aload_n 1, 1) := by decide +kernel
theorem dX0_leastHidden_9 : decode cX0_leastHidden 9 = .ok (.getfield 99, 3) := by decide +kernel
theorem dX0_leastHidden_12 : decode cX0_leastHidden 12 = .ok (.if_icmp .ge 34, 3) := by decide +kernel
theorem dX0_leastHidden_15 : decode cX0_leastHidden 15 = .ok (.iload_n 2, 1) := by decide +kernel
theorem dX0_leastHidden_16 : decode cX0_leastHidden 16 = .ok (.iload 4, 2) := by decide +kernel
theorem dX0_leastHidden_18 : decode cX0_leastHidden 18 = .ok (.ishr, 1) := by decide +kernel
theorem dX0_leastHidden_19 : decode cX0_leastHidden 19 = .ok (.iconst 1, 1) := by decide +kernel
theorem dX0_leastHidden_20 : decode cX0_leastHidden 20 = .ok (.iand, 1) := by decide +kernel
theorem dX0_leastHidden_21 : decode cX0_leastHidden 21 = .ok (.iconst 1, 1) := by decide +kernel
theorem dX0_leastHidden_22 : decode cX0_leastHidden 22 = .ok (.if_icmp .ne 18, 3) := by decide +kernel
theorem dX0_leastHidden_25 : decode cX0_leastHidden 25 = .ok (.iload_n 3, 1) := by decide +kernel
theorem dX0_leastHidden_26 : decode cX0_leastHidden 26 = .ok (.aload_n 1, 1) := by decide +kernel
theorem dX0_leastHidden_27 : decode cX0_leastHidden 27 = .ok (.aload_n 0, 1) := by decide +kernel
theorem dX0_leastHidden_28 : decode cX0_leastHidden 28 = .ok (.getfield 12, 3) := by decide +kernel
theorem dX0_leastHidden_31 : decode cX0_leastHidden 31 = .ok (.iload 4, 2) := by decide +kernel
theorem dX0_leastHidden_33 : decode cX0_leastHidden 33 = .ok (.invokevirtual 84, 3) := by decide +kernel
theorem dX0_leastHidden_36 : decode cX0_leastHidden 36 = .ok (.invokestatic 96, 3) := by decide +kernel
theorem dX0_leastHidden_39 : decode cX0_leastHidden 39 = .ok (.istore_n 3, 1) := by decide +kernel
theorem dX0_leastHidden_40 : decode cX0_leastHidden 40 = .ok (.iinc 4 1, 3) := by decide +kernel
theorem dX0_leastHidden_43 : decode cX0_leastHidden 43 = .ok (.goto (-37), 3) := by decide +kernel
theorem dX0_leastHidden_46 : decode cX0_leastHidden 46 = .ok (.iload_n 3, 1) := by decide +kernel
theorem dX0_leastHidden_47 : decode cX0_leastHidden 47 = .ok (.ireturn, 1) := by decide +kernel
theorem dX0_foundBySeed_0 : decode cX0_foundBySeed 0 = .ok (.aload_n 0, 1) := by decide +kernel
theorem dX0_foundBySeed_1 : decode cX0_foundBySeed 1 = .ok (.getfield 12, 3) := by decide +kernel
theorem dX0_foundBySeed_4 : decode cX0_foundBySeed 4 = .ok (.aload_n 1, 1) := by decide +kernel
theorem dX0_foundBySeed_5 : decode cX0_foundBySeed 5 = .ok (.getfield 22, 3) := by decide +kernel
theorem dX0_foundBySeed_8 : decode cX0_foundBySeed 8 = .ok (.invokevirtual 27, 3) := by decide +kernel
theorem dX0_foundBySeed_11 : decode cX0_foundBySeed 11 = .ok (.iload_n 2, 1) := by decide +kernel
theorem dX0_foundBySeed_12 : decode cX0_foundBySeed 12 = .ok (.i2l, 1) := by decide +kernel
theorem dX0_foundBySeed_13 : decode cX0_foundBySeed 13 = .ok (.lstore 4, 2) := by decide +kernel
theorem dX0_foundBySeed_15 : decode cX0_foundBySeed 15 = .ok (.iconst 0, 1) := by decide +kernel
theorem dX0_foundBySeed_16 : decode cX0_foundBySeed 16 = .ok (.istore 6, 2) := by decide +kernel
theorem dX0_foundBySeed_18 : decode cX0_foundBySeed 18 = .ok (.iload 6, 2) := by decide +kernel
theorem dX0_foundBySeed_20 : decode cX0_foundBySeed 20 = .ok (.iload_n 3, 1) := by decide +kernel
theorem dX0_foundBySeed_21 : decode cX0_foundBySeed 21 = .ok (.if_icmp .ge 31, 3) := by decide +kernel
theorem dX0_foundBySeed_24 : decode cX0_foundBySeed 24 = .ok (.aload_n 0, 1) := by decide +kernel
theorem dX0_foundBySeed_25 : decode cX0_foundBySeed 25 = .ok (.aload_n 1, 1) := by decide +kernel
theorem dX0_foundBySeed_26 : decode cX0_foundBySeed 26 = .ok (.lload 4, 2) := by decide +kernel
theorem dX0_foundBySeed_28 : decode cX0_foundBySeed 28 = .ok (.invokevirtual 102, 3) := by decide +kernel
theorem dX0_foundBySeed_31 : decode cX0_foundBySeed 31 = .ok (.lstore 4, 2) := by decide +kernel
theorem dX0_foundBySeed_33 : decode cX0_foundBySeed 33 = .ok (.aload_n 1, 1) := by decide +kernel
theorem dX0_foundBySeed_34 : decode cX0_foundBySeed 34 = .ok (.aload_n 0, 1) := by decide +kernel
theorem dX0_foundBySeed_35 : decode cX0_foundBySeed 35 = .ok (.getfield 12, 3) := by decide +kernel
theorem dX0_foundBySeed_38 : decode cX0_foundBySeed 38 = .ok (.aload_n 1, 1) := by decide +kernel
theorem dX0_foundBySeed_39 : decode cX0_foundBySeed 39 = .ok (.getfield 31, 3) := by decide +kernel
theorem dX0_foundBySeed_42 : decode cX0_foundBySeed 42 = .ok (.invokevirtual 35, 3) := by decide +kernel
theorem dX0_foundBySeed_45 : decode cX0_foundBySeed 45 = .ok (.pop, 1) := by decide +kernel
theorem dX0_foundBySeed_46 : decode cX0_foundBySeed 46 = .ok (.iinc 6 1, 3) := by decide +kernel
theorem dX0_foundBySeed_49 : decode cX0_foundBySeed 49 = .ok (.goto (-31), 3) := by decide +kernel
theorem dX0_foundBySeed_52 : decode cX0_foundBySeed 52 = .ok (.aload_n 1, 1) := by decide +kernel
theorem dX0_foundBySeed_53 : decode cX0_foundBySeed 53 = .ok (.aload_n 0, 1) := by decide +kernel
theorem dX0_foundBySeed_54 : decode cX0_foundBySeed 54 = .ok (.getfield 12, 3) := by decide +kernel
theorem dX0_foundBySeed_57 : decode cX0_foundBySeed 57 = .ok (.iconst 2, 1) := by decide +kernel
theorem dX0_foundBySeed_58 : decode cX0_foundBySeed 58 = .ok (.invokevirtual 106, 3) := by decide +kernel
theorem dX0_foundBySeed_61 : decode cX0_foundBySeed 61 = .ok (.ireturn, 1) := by decide +kernel
theorem dX0_moveBySeed_0 : decode cX0_moveBySeed 0 = .ok (.lload_n 2, 1) := by decide +kernel
theorem dX0_moveBySeed_1 : decode cX0_moveBySeed 1 = .ok (.lstore 4, 2) := by decide +kernel
theorem dX0_moveBySeed_3 : decode cX0_moveBySeed 3 = .ok (.iconst 0, 1) := by decide +kernel
theorem dX0_moveBySeed_4 : decode cX0_moveBySeed 4 = .ok (.istore 6, 2) := by decide +kernel
theorem dX0_moveBySeed_6 : decode cX0_moveBySeed 6 = .ok (.iload 6, 2) := by decide +kernel
theorem dX0_moveBySeed_8 : decode cX0_moveBySeed 8 = .ok (.aload_n 1, 1) := by decide +kernel
theorem dX0_moveBySeed_9 : decode cX0_moveBySeed 9 = .ok (.getfield 99, 3) := by decide +kernel
theorem dX0_moveBySeed_12 : decode cX0_moveBySeed 12 = .ok (.if_icmp .ge 81, 3) := by decide +kernel
theorem dX0_moveBySeed_15 : decode cX0_moveBySeed 15 = .ok (.lload 4, 2) := by decide +kernel
theorem dX0_moveBySeed_17 : decode cX0_moveBySeed 17 = .ok (.ldc2_w 109, 3) := by decide +kernel
theorem dX0_moveBySeed_20 : decode cX0_moveBySeed 20 = .ok (.lmul, 1) := by decide +kernel
theorem dX0_moveBySeed_21 : decode cX0_moveBySeed 21 = .ok (.ldc2_w 111, 3) := by decide +kernel
theorem dX0_moveBySeed_24 : decode cX0_moveBySeed 24 = .ok (.ladd, 1) := by decide +kernel
theorem dX0_moveBySeed_25 : decode cX0_moveBySeed 25 = .ok (.ldc2_w 113, 3) := by decide +kernel
theorem dX0_moveBySeed_28 : decode cX0_moveBySeed 28 = .ok (.lrem, 1) := by decide +kernel
theorem dX0_moveBySeed_29 : decode cX0_moveBySeed 29 = .ok (.lstore 4, 2) := by decide +kernel
theorem dX0_moveBySeed_31 : decode cX0_moveBySeed 31 = .ok (.lload 4, 2) := by decide +kernel
theorem dX0_moveBySeed_33 : decode cX0_moveBySeed 33 = .ok (.ldc2_w 115, 3) := by decide +kernel
theorem dX0_moveBySeed_36 : decode cX0_moveBySeed 36 = .ok (.ldiv, 1) := by decide +kernel
theorem dX0_moveBySeed_37 : decode cX0_moveBySeed 37 = .ok (.ldc2_w 117, 3) := by decide +kernel
theorem dX0_moveBySeed_40 : decode cX0_moveBySeed 40 = .ok (.lrem, 1) := by decide +kernel
theorem dX0_moveBySeed_41 : decode cX0_moveBySeed 41 = .ok (.l2i, 1) := by decide +kernel
theorem dX0_moveBySeed_42 : decode cX0_moveBySeed 42 = .ok (.istore 7, 2) := by decide +kernel
theorem dX0_moveBySeed_44 : decode cX0_moveBySeed 44 = .ok (.aload_n 0, 1) := by decide +kernel
theorem dX0_moveBySeed_45 : decode cX0_moveBySeed 45 = .ok (.getfield 12, 3) := by decide +kernel
theorem dX0_moveBySeed_48 : decode cX0_moveBySeed 48 = .ok (.getfield 51, 3) := by decide +kernel
theorem dX0_moveBySeed_51 : decode cX0_moveBySeed 51 = .ok (.iload 6, 2) := by decide +kernel
theorem dX0_moveBySeed_53 : decode cX0_moveBySeed 53 = .ok (.iaload, 1) := by decide +kernel
theorem dX0_moveBySeed_54 : decode cX0_moveBySeed 54 = .ok (.ifCond .ne 33, 3) := by decide +kernel
theorem dX0_moveBySeed_57 : decode cX0_moveBySeed 57 = .ok (.aload_n 1, 1) := by decide +kernel
theorem dX0_moveBySeed_58 : decode cX0_moveBySeed 58 = .ok (.aload_n 0, 1) := by decide +kernel
theorem dX0_moveBySeed_59 : decode cX0_moveBySeed 59 = .ok (.getfield 12, 3) := by decide +kernel
theorem dX0_moveBySeed_62 : decode cX0_moveBySeed 62 = .ok (.getfield 40, 3) := by decide +kernel
theorem dX0_moveBySeed_65 : decode cX0_moveBySeed 65 = .ok (.iload 6, 2) := by decide +kernel
theorem dX0_moveBySeed_67 : decode cX0_moveBySeed 67 = .ok (.iaload, 1) := by decide +kernel
theorem dX0_moveBySeed_68 : decode cX0_moveBySeed 68 = .ok (.iload 7, 2) := by decide +kernel
theorem dX0_moveBySeed_70 : decode cX0_moveBySeed 70 = .ok (.invokevirtual 70, 3) := by decide +kernel
theorem dX0_moveBySeed_73 : decode cX0_moveBySeed 73 = .ok (.ifCond .le 14, 3) := by decide +kernel
theorem dX0_moveBySeed_76 : decode cX0_moveBySeed 76 = .ok (.aload_n 0, 1) := by decide +kernel
theorem dX0_moveBySeed_77 : decode cX0_moveBySeed 77 = .ok (.getfield 12, 3) := by decide +kernel
theorem dX0_moveBySeed_80 : decode cX0_moveBySeed 80 = .ok (.iload 6, 2) := by decide +kernel
theorem dX0_moveBySeed_82 : decode cX0_moveBySeed 82 = .ok (.iload 7, 2) := by decide +kernel
theorem dX0_moveBySeed_84 : decode cX0_moveBySeed 84 = .ok (.invokevirtual 73, 3) := by decide +kernel
theorem dX0_moveBySeed_87 : decode cX0_moveBySeed 87 = .ok (.iinc 6 1, 3) := by decide +kernel
theorem dX0_moveBySeed_90 : decode cX0_moveBySeed 90 = .ok (.goto (-84), 3) := by decide +kernel
theorem dX0_moveBySeed_93 : decode cX0_moveBySeed 93 = .ok (.lload 4, 2) := by decide +kernel
theorem dX0_moveBySeed_95 : decode cX0_moveBySeed 95 = .ok (.lreturn, 1) := by decide +kernel
theorem dX1_init_0 : decode cX1_init 0 = .ok (.aload_n 0, 1) := by decide +kernel
theorem dX1_init_1 : decode cX1_init 1 = .ok (.invokespecial 3, 3) := by decide +kernel
theorem dX1_init_4 : decode cX1_init 4 = .ok (.aload_n 0, 1) := by decide +kernel
theorem dX1_init_5 : decode cX1_init 5 = .ok (.bipush 8, 2) := by decide +kernel
theorem dX1_init_7 : decode cX1_init 7 = .ok (.newarray .int, 2) := by decide +kernel
theorem dX1_init_9 : decode cX1_init 9 = .ok (.putfield 9, 3) := by decide +kernel
theorem dX1_init_12 : decode cX1_init 12 = .ok (.aload_n 0, 1) := by decide +kernel
theorem dX1_init_13 : decode cX1_init 13 = .ok (.bipush 64, 2) := by decide +kernel
theorem dX1_init_15 : decode cX1_init 15 = .ok (.newarray .int, 2) := by decide +kernel
theorem dX1_init_17 : decode cX1_init 17 = .ok (.putfield 15, 3) := by decide +kernel
theorem dX1_init_20 : decode cX1_init 20 = .ok (.aload_n 0, 1) := by decide +kernel
theorem dX1_init_21 : decode cX1_init 21 = .ok (.bipush 12, 2) := by decide +kernel
theorem dX1_init_23 : decode cX1_init 23 = .ok (.newarray .int, 2) := by decide +kernel
theorem dX1_init_25 : decode cX1_init 25 = .ok (.putfield 18, 3) := by decide +kernel
theorem dX1_init_28 : decode cX1_init 28 = .ok (.aload_n 0, 1) := by decide +kernel
theorem dX1_init_29 : decode cX1_init 29 = .ok (.bipush 6, 2) := by decide +kernel
theorem dX1_init_31 : decode cX1_init 31 = .ok (.newarray .int, 2) := by decide +kernel
theorem dX1_init_33 : decode cX1_init 33 = .ok (.putfield 21, 3) := by decide +kernel
theorem dX1_init_36 : decode cX1_init 36 = .ok (.aload_n 0, 1) := by decide +kernel
theorem dX1_init_37 : decode cX1_init 37 = .ok (.bipush 6, 2) := by decide +kernel
theorem dX1_init_39 : decode cX1_init 39 = .ok (.newarray .int, 2) := by decide +kernel
theorem dX1_init_41 : decode cX1_init 41 = .ok (.putfield 24, 3) := by decide +kernel
theorem dX1_init_44 : decode cX1_init 44 = .ok (.aload_n 0, 1) := by decide +kernel
theorem dX1_init_45 : decode cX1_init 45 = .ok (.new 27, 3) := by decide +kernel
theorem dX1_init_48 : decode cX1_init 48 = .ok (.dup, 1) := by decide +kernel
theorem dX1_init_49 : decode cX1_init 49 = .ok (.invokespecial 29, 3) := by decide +kernel
theorem dX1_init_52 : decode cX1_init 52 = .ok (.putfield 30, 3) := by decide +kernel
theorem dX1_init_55 : decode cX1_init 55 = .ok (.aload_n 0, 1) := by decide +kernel
theorem dX1_init_56 : decode cX1_init 56 = .ok (.bipush 6, 2) := by decide +kernel
theorem dX1_init_58 : decode cX1_init 58 = .ok (.newarray .int, 2) := by decide +kernel
theorem dX1_init_60 : decode cX1_init 60 = .ok (.putfield 34, 3) := by decide +kernel
theorem dX1_init_63 : decode cX1_init 63 = .ok (.aload_n 0, 1) := by decide +kernel
theorem dX1_init_64 : decode cX1_init 64 = .ok (.bipush 6, 2) := by decide +kernel
theorem dX1_init_66 : decode cX1_init 66 = .ok (.newarray .int, 2) := by decide +kernel
theorem dX1_init_68 : decode cX1_init 68 = .ok (.putfield 37, 3) := by decide +kernel
theorem dX1_init_71 : decode cX1_init 71 = .ok (.aload_n 0, 1) := by decide +kernel
theorem dX1_init_72 : decode cX1_init 72 = .ok (.bipush 6, 2) := by decide +kernel
theorem dX1_init_74 : decode cX1_init 74 = .ok (.newarray .int, 2) := by decide +kernel
theorem dX1_init_76 : decode cX1_init 76 = .ok (.putfield 40, 3) := by decide +kernel
theorem dX1_init_79 : decode cX1_init 79 = .ok (.aload_n 0, 1) := by decide +kernel
theorem dX1_init_80 : decode cX1_init 80 = .ok (.bipush 10, 2) := by decide +kernel
theorem dX1_init_82 : decode cX1_init 82 = .ok (.iconst 3, 1) := by decide +kernel
theorem dX1_init_83 : decode cX1_init 83 = .ok (.invokevirtual 43, 3) := by decide +kernel
theorem dX1_init_86 : decode cX1_init 86 = .ok (.return_, 1) := by decide +kernel
theorem dX1_restart_0 : decode cX1_restart 0 = .ok (.aload_n 0, 1) := by decide +kernel
theorem dX1_restart_1 : decode cX1_restart 1 = .ok (.iload_n 1, 1) := by decide +kernel
theorem dX1_restart_2 : decode cX1_restart 2 = .ok (.putfield 47, 3) := by decide +kernel
theorem dX1_restart_5 : decode cX1_restart 5 = .ok (.aload_n 0, 1) := by decide +kernel
theorem dX1_restart_6 : decode cX1_restart 6 = .ok (.iload_n 2, 1) := by decide +kernel
theorem dX1_restart_7 : decode cX1_restart 7 = .ok (.putfield 51, 3) := by decide +kernel
theorem dX1_restart_10 : decode cX1_restart 10 = .ok (.iconst 0, 1) := by decide +kernel
theorem dX1_restart_11 : decode cX1_restart 11 = .ok (.istore_n 3, 1) := by decide +kernel
theorem dX1_restart_12 : decode cX1_restart 12 = .ok (.iload_n 3, 1) := by decide +kernel
theorem dX1_restart_13 : decode cX1_restart 13 = .ok (.bipush 8, 2) := by decide +kernel
theorem dX1_restart_15 : decode cX1_restart 15 = .ok (.if_icmp .ge 16, 3) := by decide +kernel
theorem dX1_restart_18 : decode cX1_restart 18 = .ok (.aload_n 0, 1) := by decide +kernel
theorem dX1_restart_19 : decode cX1_restart 19 = .ok (.getfield 9, 3) := by decide +kernel
theorem dX1_restart_22 : decode cX1_restart 22 = .ok (.iload_n 3, 1) := by decide +kernel
theorem dX1_restart_23 : decode cX1_restart 23 = .ok (.iconst 5, 1) := by decide +kernel
theorem dX1_restart_24 : decode cX1_restart 24 = .ok (.iastore, 1) := by decide +kernel
theorem dX1_restart_25 : decode cX1_restart 25 = .ok (.iinc 3 1, 3) := by decide +kernel
theorem dX1_restart_28 : decode cX1_restart 28 = .ok (.goto (-16), 3) := by decide +kernel
theorem dX1_restart_31 : decode cX1_restart 31 = .ok (.iconst 0, 1) := by decide +kernel
theorem dX1_restart_32 : decode cX1_restart 32 = .ok (.istore_n 3, 1) := by decide +kernel
theorem dX1_restart_33 : decode cX1_restart 33 = .ok (.iload_n 3, 1) := by decide +kernel
theorem dX1_restart_34 : decode cX1_restart 34 = .ok (.bipush 64, 2) := by decide +kernel
theorem dX1_restart_36 : decode cX1_restart 36 = .ok (.if_icmp .ge 16, 3) := by decide +kernel
theorem dX1_restart_39 : decode cX1_restart 39 = .ok (.aload_n 0, 1) := by decide +kernel
theorem dX1_restart_40 : decode cX1_restart 40 = .ok (.getfield 15, 3) := by decide +kernel
theorem dX1_restart_43 : decode cX1_restart 43 = .ok (.iload_n 3, 1) := by decide +kernel
theorem dX1_restart_44 : decode cX1_restart 44 = .ok (.iconst 0, 1) := by decide +kernel
theorem dX1_restart_45 : decode cX1_restart 45 = .ok (.iastore, 1) := by decide +kernel
theorem dX1_restart_46 : decode cX1_restart 46 = .ok (.iinc 3 1, 3) := by decide +kernel
theorem dX1_restart_49 : decode cX1_restart 49 = .ok (.goto (-16), 3) := by decide +kernel
theorem dX1_restart_52 : decode cX1_restart 52 = .ok (.aload_n 0, 1) := by decide +kernel
theorem dX1_restart_53 : decode cX1_restart 53 = .ok (.getfield 18, 3) := by decide +kernel
theorem dX1_restart_56 : decode cX1_restart 56 = .ok (.iconst 0, 1) := by decide +kernel
theorem dX1_restart_57 : decode cX1_restart 57 = .ok (.iconst 0, 1) := by decide +kernel
theorem dX1_restart_58 : decode cX1_restart 58 = .ok (.iastore, 1) := by decide +kernel
theorem dX1_restart_59 : decode cX1_restart 59 = .ok (.aload_n 0, 1) := by decide +kernel
theorem dX1_restart_60 : decode cX1_restart 60 = .ok (.iconst 1, 1) := by decide +kernel
theorem dX1_restart_61 : decode cX1_restart 61 = .ok (.putfield 54, 3) := by decide +kernel
theorem dX1_restart_64 : decode cX1_restart 64 = .ok (.aload_n 0, 1) := by decide +kernel
theorem dX1_restart_65 : decode cX1_restart 65 = .ok (.iconst 0, 1) := by decide +kernel
theorem dX1_restart_66 : decode cX1_restart 66 = .ok (.putfield 57, 3) := by decide +kernel
theorem dX1_restart_69 : decode cX1_restart 69 = .ok (.aload_n 0, 1) := by decide +kernel
theorem dX1_restart_70 : decode cX1_restart 70 = .ok (.getfield 30, 3) := by decide +kernel
theorem dX1_restart_73 : decode cX1_restart 73 = .ok (.iconst 0, 1) := by decide +kernel
theorem dX1_restart_74 : decode cX1_restart 74 = .ok (.putfield 60, 3) := by decide +kernel
theorem dX1_restart_77 : decode cX1_restart 77 = .ok (.aload_n 0, 1) := by decide +kernel
theorem dX1_restart_78 : decode cX1_restart 78 = .ok (.iconst 0, 1) := by decide +kernel
theorem dX1_restart_79 : decode cX1_restart 79 = .ok (.putfield 63, 3) := by decide +kernel
theorem dX1_restart_82 : decode cX1_restart 82 = .ok (.return_, 1) := by decide +kernel
theorem dX1_take_0 : decode cX1_take 0 = .ok (.aload_n 0, 1) := by decide +kernel
theorem dX1_take_1 : decode cX1_take 1 = .ok (.aload_n 1, 1) := by decide +kernel
theorem dX1_take_2 : decode cX1_take 2 = .ok (.getfield 47, 3) := by decide +kernel
theorem dX1_take_5 : decode cX1_take 5 = .ok (.putfield 47, 3) := by decide +kernel
theorem dX1_take_8 : decode cX1_take 8 = .ok (.aload_n 0, 1) := by decide +kernel
theorem dX1_take_9 : decode cX1_take 9 = .ok (.aload_n 1, 1) := by decide +kernel
theorem dX1_take_10 : decode cX1_take 10 = .ok (.getfield 51, 3) := by decide +kernel
theorem dX1_take_13 : decode cX1_take 13 = .ok (.putfield 51, 3) := by decide +kernel
theorem dX1_take_16 : decode cX1_take 16 = .ok (.aload_n 1, 1) := by decide +kernel
theorem dX1_take_17 : decode cX1_take 17 = .ok (.getfield 9, 3) := by decide +kernel
theorem dX1_take_20 : decode cX1_take 20 = .ok (.iconst 0, 1) := by decide +kernel
theorem dX1_take_21 : decode cX1_take 21 = .ok (.aload_n 0, 1) := by decide +kernel
theorem dX1_take_22 : decode cX1_take 22 = .ok (.getfield 9, 3) := by decide +kernel
theorem dX1_take_25 : decode cX1_take 25 = .ok (.iconst 0, 1) := by decide +kernel
theorem dX1_take_26 : decode cX1_take 26 = .ok (.bipush 8, 2) := by decide +kernel
theorem dX1_take_28 : decode cX1_take 28 = .ok (.invokestatic 66, 3) := by decide +kernel
theorem dX1_take_31 : decode cX1_take 31 = .ok (.aload_n 1, 1) := by decide +kernel
theorem dX1_take_32 : decode cX1_take 32 = .ok (.getfield 15, 3) := by decide +kernel
theorem dX1_take_35 : decode cX1_take 35 = .ok (.iconst 0, 1) := by decide +kernel
theorem dX1_take_36 : decode cX1_take 36 = .ok (.aload_n 0, 1) := by decide +kernel
theorem dX1_take_37 : decode cX1_take 37 = .ok (.getfield 15, 3) := by decide +kernel
theorem dX1_take_40 : decode cX1_take 40 = .ok (.iconst 0, 1) := by decide +kernel
theorem dX1_take_41 : decode cX1_take 41 = .ok (.bipush 64, 2) := by decide +kernel
theorem dX1_take_43 : decode cX1_take 43 = .ok (.invokestatic 66, 3) := by decide +kernel
theorem dX1_take_46 : decode cX1_take 46 = .ok (.aload_n 1, 1) := by decide +kernel
theorem dX1_take_47 : decode cX1_take 47 = .ok (.getfield 18, 3) := by decide +kernel
theorem dX1_take_50 : decode cX1_take 50 = .ok (.iconst 0, 1) := by decide +kernel
theorem dX1_take_51 : decode cX1_take 51 = .ok (.aload_n 0, 1) := by decide +kernel
theorem dX1_take_52 : decode cX1_take 52 = .ok (.getfield 18, 3) := by decide +kernel
theorem dX1_take_55 : decode cX1_take 55 = .ok (.iconst 0, 1) := by decide +kernel
theorem dX1_take_56 : decode cX1_take 56 = .ok (.bipush 12, 2) := by decide +kernel
theorem dX1_take_58 : decode cX1_take 58 = .ok (.invokestatic 66, 3) := by decide +kernel
theorem dX1_take_61 : decode cX1_take 61 = .ok (.aload_n 0, 1) := by decide +kernel
theorem dX1_take_62 : decode cX1_take 62 = .ok (.aload_n 1, 1) := by decide +kernel
theorem dX1_take_63 : decode cX1_take 63 = .ok (.getfield 54, 3) := by decide +kernel
theorem dX1_take_66 : decode cX1_take 66 = .ok (.putfield 54, 3) := by decide +kernel
theorem dX1_take_69 : decode cX1_take 69 = .ok (.aload_n 0, 1) := by decide +kernel
theorem dX1_take_70 : decode cX1_take 70 = .ok (.aload_n 1, 1) := by decide +kernel
theorem dX1_take_71 : decode cX1_take 71 = .ok (.getfield 57, 3) := by decide +kernel
theorem dX1_take_74 : decode cX1_take 74 = .ok (.putfield 57, 3) := by decide +kernel
theorem dX1_take_77 : decode cX1_take 77 = .ok (.aload_n 1, 1) := by decide +kernel
theorem dX1_take_78 : decode cX1_take 78 = .ok (.getfield 21, 3) := by decide +kernel
theorem dX1_take_81 : decode cX1_take 81 = .ok (.iconst 0, 1) := by decide +kernel
theorem dX1_take_82 : decode cX1_take 82 = .ok (.aload_n 0, 1) := by decide +kernel
theorem dX1_take_83 : decode cX1_take 83 = .ok (.getfield 21, 3) := by decide +kernel
theorem dX1_take_86 : decode cX1_take 86 = .ok (.iconst 0, 1) := by decide +kernel
theorem dX1_take_87 : decode cX1_take 87 = .ok (.bipush 6, 2) := by decide +kernel
theorem dX1_take_89 : decode cX1_take 89 = .ok (.invokestatic 66, 3) := by decide +kernel
theorem dX1_take_92 : decode cX1_take 92 = .ok (.aload_n 1, 1) := by decide +kernel
theorem dX1_take_93 : decode cX1_take 93 = .ok (.getfield 24, 3) := by decide +kernel
theorem dX1_take_96 : decode cX1_take 96 = .ok (.iconst 0, 1) := by decide +kernel
theorem dX1_take_97 : decode cX1_take 97 = .ok (.aload_n 0, 1) := by decide +kernel
theorem dX1_take_98 : decode cX1_take 98 = .ok (.getfield 24, 3) := by decide +kernel
theorem dX1_take_101 : decode cX1_take 101 = .ok (.iconst 0, 1) := by decide +kernel
theorem dX1_take_102 : decode cX1_take 102 = .ok (.bipush 6, 2) := by decide +kernel
theorem dX1_take_104 : decode cX1_take 104 = .ok (.invokestatic 66, 3) := by decide +kernel
theorem dX1_take_107 : decode cX1_take 107 = .ok (.aload_n 0, 1) := by decide +kernel
theorem dX1_take_108 : decode cX1_take 108 = .ok (.getfield 30, 3) := by decide +kernel
theorem dX1_take_111 : decode cX1_take 111 = .ok (.aload_n 1, 1) := by decide +kernel
theorem dX1_take_112 : decode cX1_take 112 = .ok (.getfield 30, 3) := by decide +kernel
theorem dX1_take_115 : decode cX1_take 115 = .ok (.invokevirtual 72, 3) := by decide +kernel
theorem dX1_take_118 : decode cX1_take 118 = .ok (.aload_n 0, 1) := by decide +kernel
theorem dX1_take_119 : decode cX1_take 119 = .ok (.aload_n 1, 1) := by decide +kernel
theorem dX1_take_120 : decode cX1_take 120 = .ok (.getfield 63, 3) := by decide +kernel
theorem dX1_take_123 : decode cX1_take 123 = .ok (.putfield 63, 3) := by decide +kernel
theorem dX1_take_126 : decode cX1_take 126 = .ok (.aload_n 1, 1) := by decide +kernel
theorem dX1_take_127 : decode cX1_take 127 = .ok (.getfield 34, 3) := by decide +kernel
theorem dX1_take_130 : decode cX1_take 130 = .ok (.iconst 0, 1) := by decide +kernel
theorem dX1_take_131 : decode cX1_take 131 = .ok (.aload_n 0, 1) := by decide +kernel
theorem dX1_take_132 : decode cX1_take 132 = .ok (.getfield 34, 3) := by decide +kernel
theorem dX1_take_135 : decode cX1_take 135 = .ok (.iconst 0, 1) := by decide +kernel
theorem dX1_take_136 : decode cX1_take 136 = .ok (.bipush 6, 2) := by decide +kernel
theorem dX1_take_138 : decode cX1_take 138 = .ok (.invokestatic 66, 3) := by decide +kernel
theorem dX1_take_141 : decode cX1_take 141 = .ok (.aload_n 1, 1) := by decide +kernel
theorem dX1_take_142 : decode cX1_take 142 = .ok (.getfield 37, 3) := by decide +kernel
theorem dX1_take_145 : decode cX1_take 145 = .ok (.iconst 0, 1) := by decide +kernel
theorem dX1_take_146 : decode cX1_take 146 = .ok (.aload_n 0, 1) := by decide +kernel
theorem dX1_take_147 : decode cX1_take 147 = .ok (.getfield 37, 3) := by decide +kernel
theorem dX1_take_150 : decode cX1_take 150 = .ok (.iconst 0, 1) := by decide +kernel
theorem dX1_take_151 : decode cX1_take 151 = .ok (.bipush 6, 2) := by decide +kernel
theorem dX1_take_153 : decode cX1_take 153 = .ok (.invokestatic 66, 3) := by decide +kernel
theorem dX1_take_156 : decode cX1_take 156 = .ok (.aload_n 1, 1) := by decide +kernel
theorem dX1_take_157 : decode cX1_take 157 = .ok (.getfield 40, 3) := by decide +kernel
theorem dX1_take_160 : decode cX1_take 160 = .ok (.iconst 0, 1) := by decide +kernel
theorem dX1_take_161 : decode cX1_take 161 = .ok (.aload_n 0, 1) := by decide +kernel
theorem dX1_take_162 : decode cX1_take 162 = .ok (.getfield 40, 3) := by decide +kernel
theorem dX1_take_165 : decode cX1_take 165 = .ok (.iconst 0, 1) := by decide +kernel
theorem dX1_take_166 : decode cX1_take 166 = .ok (.bipush 6, 2) := by decide +kernel
theorem dX1_take_168 : decode cX1_take 168 = .ok (.invokestatic 66, 3) := by decide +kernel
theorem dX1_take_171 : decode cX1_take 171 = .ok (.return_, 1) := by decide +kernel
theorem dX1_creaksBetween_0 : decode cX1_creaksBetween 0 = .ok (.aload_n 0, 1) := by decide +kernel
theorem dX1_creaksBetween_1 : decode cX1_creaksBetween 1 = .ok (.getfield 15, 3) := by decide +kernel
theorem dX1_creaksBetween_4 : decode cX1_creaksBetween 4 = .ok (.iload_n 1, 1) := by decide +kernel
theorem dX1_creaksBetween_5 : decode cX1_creaksBetween 5 = .ok (.bipush 8, 2) := by decide +kernel
theorem dX1_creaksBetween_7 : decode cX1_creaksBetween 7 = .ok (.imul, 1) := by decide +kernel
theorem dX1_creaksBetween_8 : decode cX1_creaksBetween 8 = .ok (.iload_n 2, 1) := by decide +kernel
theorem dX1_creaksBetween_9 : decode cX1_creaksBetween 9 = .ok (.iadd, 1) := by decide +kernel
theorem dX1_creaksBetween_10 : decode cX1_creaksBetween 10 = .ok (.iaload, 1) := by decide +kernel
theorem dX1_creaksBetween_11 : decode cX1_creaksBetween 11 = .ok (.ireturn, 1) := by decide +kernel
theorem dX1_hang_0 : decode cX1_hang 0 = .ok (.aload_n 0, 1) := by decide +kernel
theorem dX1_hang_1 : decode cX1_hang 1 = .ok (.getfield 15, 3) := by decide +kernel
theorem dX1_hang_4 : decode cX1_hang 4 = .ok (.iload_n 1, 1) := by decide +kernel
theorem dX1_hang_5 : decode cX1_hang 5 = .ok (.bipush 8, 2) := by decide +kernel
theorem dX1_hang_7 : decode cX1_hang 7 = .ok (.imul, 1) := by decide +kernel
theorem dX1_hang_8 : decode cX1_hang 8 = .ok (.iload_n 2, 1) := by decide +kernel
theorem dX1_hang_9 : decode cX1_hang 9 = .ok (.iadd, 1) := by decide +kernel
theorem dX1_hang_10 : decode cX1_hang 10 = .ok (.iload_n 3, 1) := by decide +kernel
theorem dX1_hang_11 : decode cX1_hang 11 = .ok (.iastore, 1) := by decide +kernel
theorem dX1_hang_12 : decode cX1_hang 12 = .ok (.aload_n 0, 1) := by decide +kernel
theorem dX1_hang_13 : decode cX1_hang 13 = .ok (.getfield 15, 3) := by decide +kernel
theorem dX1_hang_16 : decode cX1_hang 16 = .ok (.iload_n 2, 1) := by decide +kernel
theorem dX1_hang_17 : decode cX1_hang 17 = .ok (.bipush 8, 2) := by decide +kernel
theorem dX1_hang_19 : decode cX1_hang 19 = .ok (.imul, 1) := by decide +kernel
theorem dX1_hang_20 : decode cX1_hang 20 = .ok (.iload_n 1, 1) := by decide +kernel
theorem dX1_hang_21 : decode cX1_hang 21 = .ok (.iadd, 1) := by decide +kernel
theorem dX1_hang_22 : decode cX1_hang 22 = .ok (.iload_n 3, 1) := by decide +kernel
theorem dX1_hang_23 : decode cX1_hang 23 = .ok (.iastore, 1) := by decide +kernel
theorem dX1_hang_24 : decode cX1_hang 24 = .ok (.return_, 1) := by decide +kernel
theorem dX1_bring_0 : decode cX1_bring 0 = .ok (.aload_n 0, 1) := by decide +kernel
theorem dX1_bring_1 : decode cX1_bring 1 = .ok (.getfield 57, 3) := by decide +kernel
theorem dX1_bring_4 : decode cX1_bring 4 = .ok (.istore 4, 2) := by decide +kernel
theorem dX1_bring_6 : decode cX1_bring 6 = .ok (.aload_n 0, 1) := by decide +kernel
theorem dX1_bring_7 : decode cX1_bring 7 = .ok (.getfield 21, 3) := by decide +kernel
theorem dX1_bring_10 : decode cX1_bring 10 = .ok (.iload 4, 2) := by decide +kernel
theorem dX1_bring_12 : decode cX1_bring 12 = .ok (.iload_n 1, 1) := by decide +kernel
theorem dX1_bring_13 : decode cX1_bring 13 = .ok (.iastore, 1) := by decide +kernel
theorem dX1_bring_14 : decode cX1_bring 14 = .ok (.aload_n 0, 1) := by decide +kernel
theorem dX1_bring_15 : decode cX1_bring 15 = .ok (.getfield 24, 3) := by decide +kernel
theorem dX1_bring_18 : decode cX1_bring 18 = .ok (.iload 4, 2) := by decide +kernel
theorem dX1_bring_20 : decode cX1_bring 20 = .ok (.iload_n 3, 1) := by decide +kernel
theorem dX1_bring_21 : decode cX1_bring 21 = .ok (.iastore, 1) := by decide +kernel
theorem dX1_bring_22 : decode cX1_bring 22 = .ok (.aload_n 0, 1) := by decide +kernel
theorem dX1_bring_23 : decode cX1_bring 23 = .ok (.getfield 30, 3) := by decide +kernel
theorem dX1_bring_26 : decode cX1_bring 26 = .ok (.iload 4, 2) := by decide +kernel
theorem dX1_bring_28 : decode cX1_bring 28 = .ok (.iload_n 2, 1) := by decide +kernel
theorem dX1_bring_29 : decode cX1_bring 29 = .ok (.invokevirtual 76, 3) := by decide +kernel
theorem dX1_bring_32 : decode cX1_bring 32 = .ok (.aload_n 0, 1) := by decide +kernel
theorem dX1_bring_33 : decode cX1_bring 33 = .ok (.dup, 1) := by decide +kernel
theorem dX1_bring_34 : decode cX1_bring 34 = .ok (.getfield 57, 3) := by decide +kernel
theorem dX1_bring_37 : decode cX1_bring 37 = .ok (.iconst 1, 1) := by decide +kernel
theorem dX1_bring_38 : decode cX1_bring 38 = .ok (.iadd, 1) := by decide +kernel
theorem dX1_bring_39 : decode cX1_bring 39 = .ok (.putfield 57, 3) := by decide +kernel
theorem dX1_bring_42 : decode cX1_bring 42 = .ok (.iload 4, 2) := by decide +kernel
theorem dX1_bring_44 : decode cX1_bring 44 = .ok (.ireturn, 1) := by decide +kernel
theorem dX1_witness_0 : decode cX1_witness 0 = .ok (.aload_n 0, 1) := by decide +kernel
theorem dX1_witness_1 : decode cX1_witness 1 = .ok (.getfield 34, 3) := by decide +kernel
theorem dX1_witness_4 : decode cX1_witness 4 = .ok (.aload_n 0, 1) := by decide +kernel
theorem dX1_witness_5 : decode cX1_witness 5 = .ok (.getfield 63, 3) := by decide +kernel
theorem dX1_witness_8 : decode cX1_witness 8 = .ok (.iload_n 1, 1) := by decide +kernel
theorem dX1_witness_9 : decode cX1_witness 9 = .ok (.iastore, 1) := by decide +kernel
theorem dX1_witness_10 : decode cX1_witness 10 = .ok (.aload_n 0, 1) := by decide +kernel
theorem dX1_witness_11 : decode cX1_witness 11 = .ok (.getfield 37, 3) := by decide +kernel
theorem dX1_witness_14 : decode cX1_witness 14 = .ok (.aload_n 0, 1) := by decide +kernel
theorem dX1_witness_15 : decode cX1_witness 15 = .ok (.getfield 63, 3) := by decide +kernel
theorem dX1_witness_18 : decode cX1_witness 18 = .ok (.iload_n 2, 1) := by decide +kernel
theorem dX1_witness_19 : decode cX1_witness 19 = .ok (.iastore, 1) := by decide +kernel
theorem dX1_witness_20 : decode cX1_witness 20 = .ok (.aload_n 0, 1) := by decide +kernel
theorem dX1_witness_21 : decode cX1_witness 21 = .ok (.getfield 40, 3) := by decide +kernel
theorem dX1_witness_24 : decode cX1_witness 24 = .ok (.aload_n 0, 1) := by decide +kernel
theorem dX1_witness_25 : decode cX1_witness 25 = .ok (.getfield 63, 3) := by decide +kernel
theorem dX1_witness_28 : decode cX1_witness 28 = .ok (.iload_n 3, 1) := by decide +kernel
theorem dX1_witness_29 : decode cX1_witness 29 = .ok (.iastore, 1) := by decide +kernel
theorem dX1_witness_30 : decode cX1_witness 30 = .ok (.aload_n 0, 1) := by decide +kernel
theorem dX1_witness_31 : decode cX1_witness 31 = .ok (.dup, 1) := by decide +kernel
theorem dX1_witness_32 : decode cX1_witness 32 = .ok (.getfield 63, 3) := by decide +kernel
theorem dX1_witness_35 : decode cX1_witness 35 = .ok (.iconst 1, 1) := by decide +kernel
theorem dX1_witness_36 : decode cX1_witness 36 = .ok (.iadd, 1) := by decide +kernel
theorem dX1_witness_37 : decode cX1_witness 37 = .ok (.putfield 63, 3) := by decide +kernel
theorem dX1_witness_40 : decode cX1_witness 40 = .ok (.aload_n 0, 1) := by decide +kernel
theorem dX1_witness_41 : decode cX1_witness 41 = .ok (.getfield 63, 3) := by decide +kernel
theorem dX1_witness_44 : decode cX1_witness 44 = .ok (.ireturn, 1) := by decide +kernel
theorem dX1_lookedInto_0 : decode cX1_lookedInto 0 = .ok (.aload_n 0, 1) := by decide +kernel
theorem dX1_lookedInto_1 : decode cX1_lookedInto 1 = .ok (.getfield 54, 3) := by decide +kernel
theorem dX1_lookedInto_4 : decode cX1_lookedInto 4 = .ok (.iconst 1, 1) := by decide +kernel
theorem dX1_lookedInto_5 : decode cX1_lookedInto 5 = .ok (.if_icmp .ge 10, 3) := by decide +kernel
theorem dX1_lookedInto_8 : decode cX1_lookedInto 8 = .ok (.aload_n 0, 1) := by decide +kernel
theorem dX1_lookedInto_9 : decode cX1_lookedInto 9 = .ok (.getfield 18, 3) := by decide +kernel
theorem dX1_lookedInto_12 : decode cX1_lookedInto 12 = .ok (.iconst 0, 1) := by decide +kernel
theorem dX1_lookedInto_13 : decode cX1_lookedInto 13 = .ok (.iaload, 1) := by decide +kernel
theorem dX1_lookedInto_14 : decode cX1_lookedInto 14 = .ok (.ireturn, 1) := by decide +kernel
theorem dX1_lookedInto_15 : decode cX1_lookedInto 15 = .ok (.iload_n 1, 1) := by decide +kernel
theorem dX1_lookedInto_16 : decode cX1_lookedInto 16 = .ok (.aload_n 0, 1) := by decide +kernel
theorem dX1_lookedInto_17 : decode cX1_lookedInto 17 = .ok (.getfield 54, 3) := by decide +kernel
theorem dX1_lookedInto_20 : decode cX1_lookedInto 20 = .ok (.irem, 1) := by decide +kernel
theorem dX1_lookedInto_21 : decode cX1_lookedInto 21 = .ok (.istore_n 2, 1) := by decide +kernel
theorem dX1_lookedInto_22 : decode cX1_lookedInto 22 = .ok (.iload_n 1, 1) := by decide +kernel
theorem dX1_lookedInto_23 : decode cX1_lookedInto 23 = .ok (.bipush 7, 2) := by decide +kernel
theorem dX1_lookedInto_25 : decode cX1_lookedInto 25 = .ok (.irem, 1) := by decide +kernel
theorem dX1_lookedInto_26 : decode cX1_lookedInto 26 = .ok (.bipush 6, 2) := by decide +kernel
theorem dX1_lookedInto_28 : decode cX1_lookedInto 28 = .ok (.if_icmp .ne 19, 3) := by decide +kernel
theorem dX1_lookedInto_31 : decode cX1_lookedInto 31 = .ok (.aload_n 0, 1) := by decide +kernel
theorem dX1_lookedInto_32 : decode cX1_lookedInto 32 = .ok (.getfield 18, 3) := by decide +kernel
theorem dX1_lookedInto_35 : decode cX1_lookedInto 35 = .ok (.aload_n 0, 1) := by decide +kernel
theorem dX1_lookedInto_36 : decode cX1_lookedInto 36 = .ok (.getfield 54, 3) := by decide +kernel
theorem dX1_lookedInto_39 : decode cX1_lookedInto 39 = .ok (.iconst 1, 1) := by decide +kernel
theorem dX1_lookedInto_40 : decode cX1_lookedInto 40 = .ok (.isub, 1) := by decide +kernel
theorem dX1_lookedInto_41 : decode cX1_lookedInto 41 = .ok (.iload_n 2, 1) := by decide +kernel
theorem dX1_lookedInto_42 : decode cX1_lookedInto 42 = .ok (.isub, 1) := by decide +kernel
theorem dX1_lookedInto_43 : decode cX1_lookedInto 43 = .ok (.iaload, 1) := by decide +kernel
theorem dX1_lookedInto_44 : decode cX1_lookedInto 44 = .ok (.goto 9, 3) := by decide +kernel
theorem dX1_lookedInto_47 : decode cX1_lookedInto 47 = .ok (.aload_n 0, 1) := by decide +kernel
theorem dX1_lookedInto_48 : decode cX1_lookedInto 48 = .ok (.getfield 18, 3) := by decide +kernel
theorem dX1_lookedInto_51 : decode cX1_lookedInto 51 = .ok (.iload_n 2, 1) := by decide +kernel
theorem dX1_lookedInto_52 : decode cX1_lookedInto 52 = .ok (.iaload, 1) := by decide +kernel
theorem dX1_lookedInto_53 : decode cX1_lookedInto 53 = .ok (.ireturn, 1) := by decide +kernel
theorem dX1_hidden_0 : decode cX1_hidden 0 = .ok (.aload_n 1, 1) := by decide +kernel
theorem dX1_hidden_1 : decode cX1_hidden 1 = .ok (.getfield 79, 3) := by decide +kernel
theorem dX1_hidden_4 : decode cX1_hidden 4 = .ok (.iload_n 2, 1) := by decide +kernel
theorem dX1_hidden_5 : decode cX1_hidden 5 = .ok (.iaload, 1) := by decide +kernel
theorem dX1_hidden_6 : decode cX1_hidden 6 = .ok (.istore_n 3, 1) := by decide +kernel
theorem dX1_hidden_7 : decode cX1_hidden 7 = .ok (.aload_n 0, 1) := by decide +kernel
theorem dX1_hidden_8 : decode cX1_hidden 8 = .ok (.getfield 9, 3) := by decide +kernel
theorem dX1_hidden_11 : decode cX1_hidden 11 = .ok (.aload_n 1, 1) := by decide +kernel
theorem dX1_hidden_12 : decode cX1_hidden 12 = .ok (.getfield 82, 3) := by decide +kernel
theorem dX1_hidden_15 : decode cX1_hidden 15 = .ok (.iload_n 2, 1) := by decide +kernel
theorem dX1_hidden_16 : decode cX1_hidden 16 = .ok (.iaload, 1) := by decide +kernel
theorem dX1_hidden_17 : decode cX1_hidden 17 = .ok (.iaload, 1) := by decide +kernel
theorem dX1_hidden_18 : decode cX1_hidden 18 = .ok (.aload_n 0, 1) := by decide +kernel
theorem dX1_hidden_19 : decode cX1_hidden 19 = .ok (.getfield 24, 3) := by decide +kernel
theorem dX1_hidden_22 : decode cX1_hidden 22 = .ok (.iload_n 2, 1) := by decide +kernel
theorem dX1_hidden_23 : decode cX1_hidden 23 = .ok (.iaload, 1) := by decide +kernel
theorem dX1_hidden_24 : decode cX1_hidden 24 = .ok (.iadd, 1) := by decide +kernel
theorem dX1_hidden_25 : decode cX1_hidden 25 = .ok (.istore 4, 2) := by decide +kernel
theorem dX1_hidden_27 : decode cX1_hidden 27 = .ok (.iconst 0, 1) := by decide +kernel
theorem dX1_hidden_28 : decode cX1_hidden 28 = .ok (.iload 4, 2) := by decide +kernel
theorem dX1_hidden_30 : decode cX1_hidden 30 = .ok (.iconst 3, 1) := by decide +kernel
theorem dX1_hidden_31 : decode cX1_hidden 31 = .ok (.isub, 1) := by decide +kernel
theorem dX1_hidden_32 : decode cX1_hidden 32 = .ok (.invokestatic 85, 3) := by decide +kernel
theorem dX1_hidden_35 : decode cX1_hidden 35 = .ok (.istore 5, 2) := by decide +kernel
theorem dX1_hidden_37 : decode cX1_hidden 37 = .ok (.iload 4, 2) := by decide +kernel
theorem dX1_hidden_39 : decode cX1_hidden 39 = .ok (.iconst 5, 1) := by decide +kernel
theorem dX1_hidden_40 : decode cX1_hidden 40 = .ok (.iload_n 3, 1) := by decide +kernel
theorem dX1_hidden_41 : decode cX1_hidden 41 = .ok (.invokestatic 91, 3) := by decide +kernel
theorem dX1_hidden_44 : decode cX1_hidden 44 = .ok (.iadd, 1) := by decide +kernel
theorem dX1_hidden_45 : decode cX1_hidden 45 = .ok (.istore 6, 2) := by decide +kernel
theorem dX1_hidden_47 : decode cX1_hidden 47 = .ok (.aload_n 0, 1) := by decide +kernel
theorem dX1_hidden_48 : decode cX1_hidden 48 = .ok (.getfield 21, 3) := by decide +kernel
theorem dX1_hidden_51 : decode cX1_hidden 51 = .ok (.iload_n 2, 1) := by decide +kernel
theorem dX1_hidden_52 : decode cX1_hidden 52 = .ok (.iaload, 1) := by decide +kernel
theorem dX1_hidden_53 : decode cX1_hidden 53 = .ok (.tableswitch 88 1 5 #[35, 38, 57, 60, 78], 35) := by decide +kernel
theorem dX1_hidden_88 : decode cX1_hidden 88 = .ok (.iload 5, 2) := by decide +kernel
theorem dX1_hidden_90 : decode cX1_hidden 90 = .ok (.ireturn, 1) := by decide +kernel
theorem dX1_hidden_91 : decode cX1_hidden 91 = .ok (.aload_n 0, 1) := by decide +kernel
theorem dX1_hidden_92 : decode cX1_hidden 92 = .ok (.aload_n 1, 1) := by decide +kernel
theorem dX1_hidden_93 : decode cX1_hidden 93 = .ok (.iload_n 2, 1) := by decide +kernel
theorem dX1_hidden_94 : decode cX1_hidden 94 = .ok (.invokevirtual 94, 3) := by decide +kernel
theorem dX1_hidden_97 : decode cX1_hidden 97 = .ok (.ifCond .eq 10, 3) := by decide +kernel
theorem dX1_hidden_100 : decode cX1_hidden 100 = .ok (.iload 4, 2) := by decide +kernel
theorem dX1_hidden_102 : decode cX1_hidden 102 = .ok (.iconst 2, 1) := by decide +kernel
theorem dX1_hidden_103 : decode cX1_hidden 103 = .ok (.idiv, 1) := by decide +kernel
theorem dX1_hidden_104 : decode cX1_hidden 104 = .ok (.goto 5, 3) := by decide +kernel
theorem dX1_hidden_107 : decode cX1_hidden 107 = .ok (.iload 4, 2) := by decide +kernel
theorem dX1_hidden_109 : decode cX1_hidden 109 = .ok (.ireturn, 1) := by decide +kernel
theorem dX1_hidden_110 : decode cX1_hidden 110 = .ok (.iload 6, 2) := by decide +kernel
theorem dX1_hidden_112 : decode cX1_hidden 112 = .ok (.ireturn, 1) := by decide +kernel
theorem dX1_hidden_113 : decode cX1_hidden 113 = .ok (.iload_n 3, 1) := by decide +kernel
theorem dX1_hidden_114 : decode cX1_hidden 114 = .ok (.ifCond .ne 14, 3) := by decide +kernel
theorem dX1_hidden_117 : decode cX1_hidden 117 = .ok (.iconst 0, 1) := by decide +kernel
theorem dX1_hidden_118 : decode cX1_hidden 118 = .ok (.iload 5, 2) := by decide +kernel
theorem dX1_hidden_120 : decode cX1_hidden 120 = .ok (.iconst 2, 1) := by decide +kernel
theorem dX1_hidden_121 : decode cX1_hidden 121 = .ok (.isub, 1) := by decide +kernel
theorem dX1_hidden_122 : decode cX1_hidden 122 = .ok (.invokestatic 85, 3) := by decide +kernel
theorem dX1_hidden_125 : decode cX1_hidden 125 = .ok (.goto 5, 3) := by decide +kernel
theorem dX1_hidden_128 : decode cX1_hidden 128 = .ok (.iload 5, 2) := by decide +kernel
theorem dX1_hidden_130 : decode cX1_hidden 130 = .ok (.ireturn, 1) := by decide +kernel
theorem dX1_hidden_131 : decode cX1_hidden 131 = .ok (.aload_n 0, 1) := by decide +kernel
theorem dX1_hidden_132 : decode cX1_hidden 132 = .ok (.getfield 51, 3) := by decide +kernel
theorem dX1_hidden_135 : decode cX1_hidden 135 = .ok (.iload 6, 2) := by decide +kernel
theorem dX1_hidden_137 : decode cX1_hidden 137 = .ok (.invokestatic 91, 3) := by decide +kernel
theorem dX1_hidden_140 : decode cX1_hidden 140 = .ok (.ireturn, 1) := by decide +kernel
theorem dX1_hidden_141 : decode cX1_hidden 141 = .ok (.iload 4, 2) := by decide +kernel
theorem dX1_hidden_143 : decode cX1_hidden 143 = .ok (.ireturn, 1) := by decide +kernel
theorem dX1_hasCompany_0 : decode cX1_hasCompany 0 = .ok (.iconst 0, 1) := by decide +kernel
theorem dX1_hasCompany_1 : decode cX1_hasCompany 1 = .ok (.istore_n 3, 1) := by decide +kernel
theorem dX1_hasCompany_2 : decode cX1_hasCompany 2 = .ok (.iload_n 3, 1) := by decide +kernel
theorem dX1_hasCompany_3 : decode cX1_hasCompany 3 = .ok (.aload_n 0, 1) := by decide +kernel
theorem dX1_hasCompany_4 : decode cX1_hasCompany 4 = .ok (.getfield 57, 3) := by decide +kernel
theorem dX1_hasCompany_7 : decode cX1_hasCompany 7 = .ok (.if_icmp .ge 40, 3) := by decide +kernel
theorem dX1_hasCompany_10 : decode cX1_hasCompany 10 = .ok (.iload_n 3, 1) := by decide +kernel
theorem dX1_hasCompany_11 : decode cX1_hasCompany 11 = .ok (.iload_n 2, 1) := by decide +kernel
theorem dX1_hasCompany_12 : decode cX1_hasCompany 12 = .ok (.if_icmp .eq 29, 3) := by decide +kernel
theorem dX1_hasCompany_15 : decode cX1_hasCompany 15 = .ok (.aload_n 1, 1) := by decide +kernel
theorem dX1_hasCompany_16 : decode cX1_hasCompany 16 = .ok (.getfield 98, 3) := by decide +kernel
theorem dX1_hasCompany_19 : decode cX1_hasCompany 19 = .ok (.iload_n 3, 1) := by decide +kernel
theorem dX1_hasCompany_20 : decode cX1_hasCompany 20 = .ok (.iaload, 1) := by decide +kernel
theorem dX1_hasCompany_21 : decode cX1_hasCompany 21 = .ok (.ifCond .ne 20, 3) := by decide +kernel
theorem dX1_hasCompany_24 : decode cX1_hasCompany 24 = .ok (.aload_n 1, 1) := by decide +kernel
theorem dX1_hasCompany_25 : decode cX1_hasCompany 25 = .ok (.getfield 82, 3) := by decide +kernel
theorem dX1_hasCompany_28 : decode cX1_hasCompany 28 = .ok (.iload_n 3, 1) := by decide +kernel
theorem dX1_hasCompany_29 : decode cX1_hasCompany 29 = .ok (.iaload, 1) := by decide +kernel
theorem dX1_hasCompany_30 : decode cX1_hasCompany 30 = .ok (.aload_n 1, 1) := by decide +kernel
theorem dX1_hasCompany_31 : decode cX1_hasCompany 31 = .ok (.getfield 82, 3) := by decide +kernel
theorem dX1_hasCompany_34 : decode cX1_hasCompany 34 = .ok (.iload_n 2, 1) := by decide +kernel
theorem dX1_hasCompany_35 : decode cX1_hasCompany 35 = .ok (.iaload, 1) := by decide +kernel
theorem dX1_hasCompany_36 : decode cX1_hasCompany 36 = .ok (.if_icmp .ne 5, 3) := by decide +kernel
theorem dX1_hasCompany_39 : decode cX1_hasCompany 39 = .ok (.iconst 1, 1) := by decide +kernel
theorem dX1_hasCompany_40 : decode cX1_hasCompany 40 = .ok (.ireturn, 1) := by decide +kernel
theorem dX1_hasCompany_41 : decode cX1_hasCompany 41 = .ok (.iinc 3 1, 3) := by decide +kernel
theorem dX1_hasCompany_44 : decode cX1_hasCompany 44 = .ok (.goto (-42), 3) := by decide +kernel
theorem dX1_hasCompany_47 : decode cX1_hasCompany 47 = .ok (.iconst 0, 1) := by decide +kernel
theorem dX1_hasCompany_48 : decode cX1_hasCompany 48 = .ok (.ireturn, 1) := by decide +kernel
theorem dX1_heirsThat_0 : decode cX1_heirsThat 0 = .ok (.iconst 0, 1) := by decide +kernel
theorem dX1_heirsThat_1 : decode cX1_heirsThat 1 = .ok (.istore_n 3, 1) := by decide +kernel
theorem dX1_heirsThat_2 : decode cX1_heirsThat 2 = .ok (.iconst 0, 1) := by decide +kernel
theorem dX1_heirsThat_3 : decode cX1_heirsThat 3 = .ok (.istore 4, 2) := by decide +kernel
theorem dX1_heirsThat_5 : decode cX1_heirsThat 5 = .ok (.iload 4, 2) := by decide +kernel
theorem dX1_heirsThat_7 : decode cX1_heirsThat 7 = .ok (.aload_n 0, 1) := by decide +kernel
theorem dX1_heirsThat_8 : decode cX1_heirsThat 8 = .ok (.getfield 57, 3) := by decide +kernel
theorem dX1_heirsThat_11 : decode cX1_heirsThat 11 = .ok (.if_icmp .ge 23, 3) := by decide +kernel
theorem dX1_heirsThat_14 : decode cX1_heirsThat 14 = .ok (.aload_n 1, 1) := by decide +kernel
theorem dX1_heirsThat_15 : decode cX1_heirsThat 15 = .ok (.getfield 98, 3) := by decide +kernel
theorem dX1_heirsThat_18 : decode cX1_heirsThat 18 = .ok (.iload 4, 2) := by decide +kernel
theorem dX1_heirsThat_20 : decode cX1_heirsThat 20 = .ok (.iaload, 1) := by decide +kernel
theorem dX1_heirsThat_21 : decode cX1_heirsThat 21 = .ok (.iload_n 2, 1) := by decide +kernel
theorem dX1_heirsThat_22 : decode cX1_heirsThat 22 = .ok (.if_icmp .ne 6, 3) := by decide +kernel
theorem dX1_heirsThat_25 : decode cX1_heirsThat 25 = .ok (.iinc 3 1, 3) := by decide +kernel
theorem dX1_heirsThat_28 : decode cX1_heirsThat 28 = .ok (.iinc 4 1, 3) := by decide +kernel
theorem dX1_heirsThat_31 : decode cX1_heirsThat 31 = .ok (.goto (-26), 3) := by decide +kernel
theorem dX1_heirsThat_34 : decode cX1_heirsThat 34 = .ok (.iload_n 3, 1) := by decide +kernel
theorem dX1_heirsThat_35 : decode cX1_heirsThat 35 = .ok (.ireturn, 1) := by decide +kernel
theorem dX1_goingOut_0 : decode cX1_goingOut 0 = .ok (.iconst 0, 1) := by decide +kernel
theorem dX1_goingOut_1 : decode cX1_goingOut 1 = .ok (.istore_n 2, 1) := by decide +kernel
theorem dX1_goingOut_2 : decode cX1_goingOut 2 = .ok (.iconst 0, 1) := by decide +kernel
theorem dX1_goingOut_3 : decode cX1_goingOut 3 = .ok (.istore_n 3, 1) := by decide +kernel
theorem dX1_goingOut_4 : decode cX1_goingOut 4 = .ok (.iload_n 3, 1) := by decide +kernel
theorem dX1_goingOut_5 : decode cX1_goingOut 5 = .ok (.aload_n 0, 1) := by decide +kernel
theorem dX1_goingOut_6 : decode cX1_goingOut 6 = .ok (.getfield 57, 3) := by decide +kernel
theorem dX1_goingOut_9 : decode cX1_goingOut 9 = .ok (.if_icmp .ge 37, 3) := by decide +kernel
theorem dX1_goingOut_12 : decode cX1_goingOut 12 = .ok (.aload_n 1, 1) := by decide +kernel
theorem dX1_goingOut_13 : decode cX1_goingOut 13 = .ok (.getfield 98, 3) := by decide +kernel
theorem dX1_goingOut_16 : decode cX1_goingOut 16 = .ok (.iload_n 3, 1) := by decide +kernel
theorem dX1_goingOut_17 : decode cX1_goingOut 17 = .ok (.iaload, 1) := by decide +kernel
theorem dX1_goingOut_18 : decode cX1_goingOut 18 = .ok (.ifCond .ne 22, 3) := by decide +kernel
theorem dX1_goingOut_21 : decode cX1_goingOut 21 = .ok (.aload_n 0, 1) := by decide +kernel
theorem dX1_goingOut_22 : decode cX1_goingOut 22 = .ok (.aload_n 1, 1) := by decide +kernel
theorem dX1_goingOut_23 : decode cX1_goingOut 23 = .ok (.iload_n 3, 1) := by decide +kernel
theorem dX1_goingOut_24 : decode cX1_goingOut 24 = .ok (.invokevirtual 101, 3) := by decide +kernel
theorem dX1_goingOut_27 : decode cX1_goingOut 27 = .ok (.aload_n 0, 1) := by decide +kernel
theorem dX1_goingOut_28 : decode cX1_goingOut 28 = .ok (.getfield 51, 3) := by decide +kernel
theorem dX1_goingOut_31 : decode cX1_goingOut 31 = .ok (.if_icmp .ge 9, 3) := by decide +kernel
theorem dX1_goingOut_34 : decode cX1_goingOut 34 = .ok (.iload_n 2, 1) := by decide +kernel
theorem dX1_goingOut_35 : decode cX1_goingOut 35 = .ok (.iconst 1, 1) := by decide +kernel
theorem dX1_goingOut_36 : decode cX1_goingOut 36 = .ok (.iload_n 3, 1) := by decide +kernel
theorem dX1_goingOut_37 : decode cX1_goingOut 37 = .ok (.ishl, 1) := by decide +kernel
theorem dX1_goingOut_38 : decode cX1_goingOut 38 = .ok (.ior, 1) := by decide +kernel
theorem dX1_goingOut_39 : decode cX1_goingOut 39 = .ok (.istore_n 2, 1) := by decide +kernel
theorem dX1_goingOut_40 : decode cX1_goingOut 40 = .ok (.iinc 3 1, 3) := by decide +kernel
theorem dX1_goingOut_43 : decode cX1_goingOut 43 = .ok (.goto (-39), 3) := by decide +kernel
theorem dX1_goingOut_46 : decode cX1_goingOut 46 = .ok (.iload_n 2, 1) := by decide +kernel
theorem dX1_goingOut_47 : decode cX1_goingOut 47 = .ok (.ireturn, 1) := by decide +kernel
theorem dX1_inSight_0 : decode cX1_inSight 0 = .ok (.aload_n 0, 1) := by decide +kernel
theorem dX1_inSight_1 : decode cX1_inSight 1 = .ok (.aload_n 1, 1) := by decide +kernel
theorem dX1_inSight_2 : decode cX1_inSight 2 = .ok (.getfield 60, 3) := by decide +kernel
theorem dX1_inSight_5 : decode cX1_inSight 5 = .ok (.invokevirtual 105, 3) := by decide +kernel
theorem dX1_inSight_8 : decode cX1_inSight 8 = .ok (.istore_n 3, 1) := by decide +kernel
theorem dX1_inSight_9 : decode cX1_inSight 9 = .ok (.iconst 0, 1) := by decide +kernel
theorem dX1_inSight_10 : decode cX1_inSight 10 = .ok (.istore 4, 2) := by decide +kernel
theorem dX1_inSight_12 : decode cX1_inSight 12 = .ok (.iconst 0, 1) := by decide +kernel
theorem dX1_inSight_13 : decode cX1_inSight 13 = .ok (.istore 5, 2) := by decide +kernel
theorem dX1_inSight_15 : decode cX1_inSight 15 = .ok (.iload 5, 2) := by decide +kernel
theorem dX1_inSight_17 : decode cX1_inSight 17 = .ok (.aload_n 0, 1) := by decide +kernel
theorem dX1_inSight_18 : decode cX1_inSight 18 = .ok (.getfield 57, 3) := by decide +kernel
theorem dX1_inSight_21 : decode cX1_inSight 21 = .ok (.if_icmp .ge 39, 3) := by decide +kernel
theorem dX1_inSight_24 : decode cX1_inSight 24 = .ok (.aload_n 1, 1) := by decide +kernel
theorem dX1_inSight_25 : decode cX1_inSight 25 = .ok (.getfield 98, 3) := by decide +kernel
theorem dX1_inSight_28 : decode cX1_inSight 28 = .ok (.iload 5, 2) := by decide +kernel
theorem dX1_inSight_30 : decode cX1_inSight 30 = .ok (.iaload, 1) := by decide +kernel
theorem dX1_inSight_31 : decode cX1_inSight 31 = .ok (.ifCond .ne 23, 3) := by decide +kernel
theorem dX1_inSight_34 : decode cX1_inSight 34 = .ok (.aload_n 1, 1) := by decide +kernel
theorem dX1_inSight_35 : decode cX1_inSight 35 = .ok (.getfield 82, 3) := by decide +kernel
theorem dX1_inSight_38 : decode cX1_inSight 38 = .ok (.iload 5, 2) := by decide +kernel
theorem dX1_inSight_40 : decode cX1_inSight 40 = .ok (.iaload, 1) := by decide +kernel
theorem dX1_inSight_41 : decode cX1_inSight 41 = .ok (.iload_n 3, 1) := by decide +kernel
theorem dX1_inSight_42 : decode cX1_inSight 42 = .ok (.if_icmp .ne 12, 3) := by decide +kernel
theorem dX1_inSight_45 : decode cX1_inSight 45 = .ok (.iload 4, 2) := by decide +kernel
theorem dX1_inSight_47 : decode cX1_inSight 47 = .ok (.iconst 1, 1) := by decide +kernel
theorem dX1_inSight_48 : decode cX1_inSight 48 = .ok (.iload 5, 2) := by decide +kernel
theorem dX1_inSight_50 : decode cX1_inSight 50 = .ok (.ishl, 1) := by decide +kernel
theorem dX1_inSight_51 : decode cX1_inSight 51 = .ok (.ior, 1) := by decide +kernel
theorem dX1_inSight_52 : decode cX1_inSight 52 = .ok (.istore 4, 2) := by decide +kernel
theorem dX1_inSight_54 : decode cX1_inSight 54 = .ok (.iinc 5 1, 3) := by decide +kernel
theorem dX1_inSight_57 : decode cX1_inSight 57 = .ok (.goto (-42), 3) := by decide +kernel
theorem dX1_inSight_60 : decode cX1_inSight 60 = .ok (.iload 4, 2) := by decide +kernel
theorem dX1_inSight_62 : decode cX1_inSight 62 = .ok (.iload_n 2, 1) := by decide +kernel
theorem dX1_inSight_63 : decode cX1_inSight 63 = .ok (.iconst (-1), 1) := by decide +kernel
theorem dX1_inSight_64 : decode cX1_inSight 64 = .ok (.ixor, 1) := by decide +kernel
theorem dX1_inSight_65 : decode cX1_inSight 65 = .ok (.iand, 1) := by decide +kernel
theorem dX1_inSight_66 : decode cX1_inSight 66 = .ok (.ireturn, 1) := by decide +kernel
theorem dX1_beingFound_0 : decode cX1_beingFound 0 = .ok (.aload_n 0, 1) := by decide +kernel
theorem dX1_beingFound_1 : decode cX1_beingFound 1 = .ok (.aload_n 1, 1) := by decide +kernel
theorem dX1_beingFound_2 : decode cX1_beingFound 2 = .ok (.iload_n 2, 1) := by decide +kernel
theorem dX1_beingFound_3 : decode cX1_beingFound 3 = .ok (.invokevirtual 109, 3) := by decide +kernel
theorem dX1_beingFound_6 : decode cX1_beingFound 6 = .ok (.istore 4, 2) := by decide +kernel
theorem dX1_beingFound_8 : decode cX1_beingFound 8 = .ok (.iconst 0, 1) := by decide +kernel
theorem dX1_beingFound_9 : decode cX1_beingFound 9 = .ok (.istore 5, 2) := by decide +kernel
theorem dX1_beingFound_11 : decode cX1_beingFound 11 = .ok (.iconst 0, 1) := by decide +kernel
theorem dX1_beingFound_12 : decode cX1_beingFound 12 = .ok (.istore 6, 2) := by decide +kernel
theorem dX1_beingFound_14 : decode cX1_beingFound 14 = .ok (.iload 6, 2) := by decide +kernel
theorem dX1_beingFound_16 : decode cX1_beingFound 16 = .ok (.aload_n 0, 1) := by decide +kernel
theorem dX1_beingFound_17 : decode cX1_beingFound 17 = .ok (.getfield 57, 3) := by decide +kernel
theorem dX1_beingFound_20 : decode cX1_beingFound 20 = .ok (.if_icmp .ge 40, 3) := by decide +kernel
theorem dX1_beingFound_23 : decode cX1_beingFound 23 = .ok (.iload 4, 2) := by decide +kernel
theorem dX1_beingFound_25 : decode cX1_beingFound 25 = .ok (.iload 6, 2) := by decide +kernel
theorem dX1_beingFound_27 : decode cX1_beingFound 27 = .ok (.ishr, 1) := by decide +kernel
theorem dX1_beingFound_28 : decode cX1_beingFound 28 = .ok (.iconst 1, 1) := by decide +kernel
theorem dX1_beingFound_29 : decode cX1_beingFound 29 = .ok (.iand, 1) := by decide +kernel
theorem dX1_beingFound_30 : decode cX1_beingFound 30 = .ok (.iconst 1, 1) := by decide +kernel
theorem dX1_beingFound_31 : decode cX1_beingFound 31 = .ok (.if_icmp .ne 23, 3) := by decide +kernel
theorem dX1_beingFound_34 : decode cX1_beingFound 34 = .ok (.aload_n 0, 1) := by decide +kernel
theorem dX1_beingFound_35 : decode cX1_beingFound 35 = .ok (.aload_n 1, 1) := by decide +kernel
theorem dX1_beingFound_36 : decode cX1_beingFound 36 = .ok (.iload 6, 2) := by decide +kernel
theorem dX1_beingFound_38 : decode cX1_beingFound 38 = .ok (.invokevirtual 101, 3) := by decide +kernel
theorem dX1_beingFound_41 : decode cX1_beingFound 41 = .ok (.iload_n 3, 1) := by decide +kernel
theorem dX1_beingFound_42 : decode cX1_beingFound 42 = .ok (.if_icmp .ge 12, 3) := by decide +kernel
theorem dX1_beingFound_45 : decode cX1_beingFound 45 = .ok (.iload 5, 2) := by decide +kernel
theorem dX1_beingFound_47 : decode cX1_beingFound 47 = .ok (.iconst 1, 1) := by decide +kernel
theorem dX1_beingFound_48 : decode cX1_beingFound 48 = .ok (.iload 6, 2) := by decide +kernel
theorem dX1_beingFound_50 : decode cX1_beingFound 50 = .ok (.ishl, 1) := by decide +kernel
theorem dX1_beingFound_51 : decode cX1_beingFound 51 = .ok (.ior, 1) := by decide +kernel
theorem dX1_beingFound_52 : decode cX1_beingFound 52 = .ok (.istore 5, 2) := by decide +kernel
theorem dX1_beingFound_54 : decode cX1_beingFound 54 = .ok (.iinc 6 1, 3) := by decide +kernel
theorem dX1_beingFound_57 : decode cX1_beingFound 57 = .ok (.goto (-43), 3) := by decide +kernel
theorem dX1_beingFound_60 : decode cX1_beingFound 60 = .ok (.iload 5, 2) := by decide +kernel
theorem dX1_beingFound_62 : decode cX1_beingFound 62 = .ok (.ireturn, 1) := by decide +kernel
theorem dX1_runNight_0 : decode cX1_runNight 0 = .ok (.aload_n 0, 1) := by decide +kernel
theorem dX1_runNight_1 : decode cX1_runNight 1 = .ok (.aload_n 1, 1) := by decide +kernel
theorem dX1_runNight_2 : decode cX1_runNight 2 = .ok (.invokevirtual 112, 3) := by decide +kernel
theorem dX1_runNight_5 : decode cX1_runNight 5 = .ok (.istore_n 3, 1) := by decide +kernel
theorem dX1_runNight_6 : decode cX1_runNight 6 = .ok (.aload_n 0, 1) := by decide +kernel
theorem dX1_runNight_7 : decode cX1_runNight 7 = .ok (.aload_n 1, 1) := by decide +kernel
theorem dX1_runNight_8 : decode cX1_runNight 8 = .ok (.iload_n 3, 1) := by decide +kernel
theorem dX1_runNight_9 : decode cX1_runNight 9 = .ok (.iload_n 2, 1) := by decide +kernel
theorem dX1_runNight_10 : decode cX1_runNight 10 = .ok (.invokevirtual 116, 3) := by decide +kernel
theorem dX1_runNight_13 : decode cX1_runNight 13 = .ok (.istore 4, 2) := by decide +kernel
theorem dX1_runNight_15 : decode cX1_runNight 15 = .ok (.aload_n 1, 1) := by decide +kernel
theorem dX1_runNight_16 : decode cX1_runNight 16 = .ok (.aload_n 0, 1) := by decide +kernel
theorem dX1_runNight_17 : decode cX1_runNight 17 = .ok (.getfield 57, 3) := by decide +kernel
theorem dX1_runNight_20 : decode cX1_runNight 20 = .ok (.iload_n 3, 1) := by decide +kernel
theorem dX1_runNight_21 : decode cX1_runNight 21 = .ok (.iload 4, 2) := by decide +kernel
theorem dX1_runNight_23 : decode cX1_runNight 23 = .ok (.invokevirtual 120, 3) := by decide +kernel
theorem dX1_runNight_26 : decode cX1_runNight 26 = .ok (.iload 4, 2) := by decide +kernel
theorem dX1_runNight_28 : decode cX1_runNight 28 = .ok (.ireturn, 1) := by decide +kernel
theorem dX1_digestRooms_0 : decode cX1_digestRooms 0 = .ok (.lload_n 1, 1) := by decide +kernel
theorem dX1_digestRooms_1 : decode cX1_digestRooms 1 = .ok (.lstore_n 3, 1) := by decide +kernel
theorem dX1_digestRooms_2 : decode cX1_digestRooms 2 = .ok (.iconst 0, 1) := by decide +kernel
theorem dX1_digestRooms_3 : decode cX1_digestRooms 3 = .ok (.istore 5, 2) := by decide +kernel
theorem dX1_digestRooms_5 : decode cX1_digestRooms 5 = .ok (.iload 5, 2) := by decide +kernel
theorem dX1_digestRooms_7 : decode cX1_digestRooms 7 = .ok (.bipush 8, 2) := by decide +kernel
theorem dX1_digestRooms_9 : decode cX1_digestRooms 9 = .ok (.if_icmp .ge 24, 3) := by decide +kernel
theorem dX1_digestRooms_12 : decode cX1_digestRooms 12 = .ok (.ldc2_w 124, 3) := by decide +kernel
theorem dX1_digestRooms_15 : decode cX1_digestRooms 15 = .ok (.lload_n 3, 1) := by decide +kernel
theorem dX1_digestRooms_16 : decode cX1_digestRooms 16 = .ok (.lmul, 1) := by decide +kernel
theorem dX1_digestRooms_17 : decode cX1_digestRooms 17 = .ok (.aload_n 0, 1) := by decide +kernel
theorem dX1_digestRooms_18 : decode cX1_digestRooms 18 = .ok (.getfield 9, 3) := by decide +kernel
theorem dX1_digestRooms_21 : decode cX1_digestRooms 21 = .ok (.iload 5, 2) := by decide +kernel
theorem dX1_digestRooms_23 : decode cX1_digestRooms 23 = .ok (.iaload, 1) := by decide +kernel
theorem dX1_digestRooms_24 : decode cX1_digestRooms 24 = .ok (.i2l, 1) := by decide +kernel
theorem dX1_digestRooms_25 : decode cX1_digestRooms 25 = .ok (.ladd, 1) := by decide +kernel
theorem dX1_digestRooms_26 : decode cX1_digestRooms 26 = .ok (.lstore_n 3, 1) := by decide +kernel
theorem dX1_digestRooms_27 : decode cX1_digestRooms 27 = .ok (.iinc 5 1, 3) := by decide +kernel
theorem dX1_digestRooms_30 : decode cX1_digestRooms 30 = .ok (.goto (-25), 3) := by decide +kernel
theorem dX1_digestRooms_33 : decode cX1_digestRooms 33 = .ok (.iconst 0, 1) := by decide +kernel
theorem dX1_digestRooms_34 : decode cX1_digestRooms 34 = .ok (.istore 5, 2) := by decide +kernel
theorem dX1_digestRooms_36 : decode cX1_digestRooms 36 = .ok (.iload 5, 2) := by decide +kernel
theorem dX1_digestRooms_38 : decode cX1_digestRooms 38 = .ok (.bipush 8, 2) := by decide +kernel
theorem dX1_digestRooms_40 : decode cX1_digestRooms 40 = .ok (.if_icmp .ge 44, 3) := by decide +kernel
theorem dX1_digestRooms_43 : decode cX1_digestRooms 43 = .ok (.iload 5, 2) := by decide +kernel
theorem dX1_digestRooms_45 : decode cX1_digestRooms 45 = .ok (.iconst 1, 1) := by decide +kernel
theorem dX1_digestRooms_46 : decode cX1_digestRooms 46 = .ok (.iadd, 1) := by decide +kernel
theorem dX1_digestRooms_47 : decode cX1_digestRooms 47 = .ok (.istore 6, 2) := by decide +kernel
theorem dX1_digestRooms_49 : decode cX1_digestRooms 49 = .ok (.iload 6, 2) := by decide +kernel
theorem dX1_digestRooms_51 : decode cX1_digestRooms 51 = .ok (.bipush 8, 2) := by decide +kernel
theorem dX1_digestRooms_53 : decode cX1_digestRooms 53 = .ok (.if_icmp .ge 25, 3) := by decide +kernel
theorem dX1_digestRooms_56 : decode cX1_digestRooms 56 = .ok (.ldc2_w 124, 3) := by decide +kernel
theorem dX1_digestRooms_59 : decode cX1_digestRooms 59 = .ok (.lload_n 3, 1) := by decide +kernel
theorem dX1_digestRooms_60 : decode cX1_digestRooms 60 = .ok (.lmul, 1) := by decide +kernel
theorem dX1_digestRooms_61 : decode cX1_digestRooms 61 = .ok (.aload_n 0, 1) := by decide +kernel
theorem dX1_digestRooms_62 : decode cX1_digestRooms 62 = .ok (.iload 5, 2) := by decide +kernel
theorem dX1_digestRooms_64 : decode cX1_digestRooms 64 = .ok (.iload 6, 2) := by decide +kernel
theorem dX1_digestRooms_66 : decode cX1_digestRooms 66 = .ok (.invokevirtual 126, 3) := by decide +kernel
theorem dX1_digestRooms_69 : decode cX1_digestRooms 69 = .ok (.i2l, 1) := by decide +kernel
theorem dX1_digestRooms_70 : decode cX1_digestRooms 70 = .ok (.ladd, 1) := by decide +kernel
theorem dX1_digestRooms_71 : decode cX1_digestRooms 71 = .ok (.lstore_n 3, 1) := by decide +kernel
theorem dX1_digestRooms_72 : decode cX1_digestRooms 72 = .ok (.iinc 6 1, 3) := by decide +kernel
theorem dX1_digestRooms_75 : decode cX1_digestRooms 75 = .ok (.goto (-26), 3) := by decide +kernel
theorem dX1_digestRooms_78 : decode cX1_digestRooms 78 = .ok (.iinc 5 1, 3) := by decide +kernel
theorem dX1_digestRooms_81 : decode cX1_digestRooms 81 = .ok (.goto (-45), 3) := by decide +kernel
theorem dX1_digestRooms_84 : decode cX1_digestRooms 84 = .ok (.iconst 0, 1) := by decide +kernel
theorem dX1_digestRooms_85 : decode cX1_digestRooms 85 = .ok (.istore 5, 2) := by decide +kernel
theorem dX1_digestRooms_87 : decode cX1_digestRooms 87 = .ok (.iload 5, 2) := by decide +kernel
theorem dX1_digestRooms_89 : decode cX1_digestRooms 89 = .ok (.aload_n 0, 1) := by decide +kernel
theorem dX1_digestRooms_90 : decode cX1_digestRooms 90 = .ok (.getfield 54, 3) := by decide +kernel
theorem dX1_digestRooms_93 : decode cX1_digestRooms 93 = .ok (.if_icmp .ge 24, 3) := by decide +kernel
theorem dX1_digestRooms_96 : decode cX1_digestRooms 96 = .ok (.ldc2_w 124, 3) := by decide +kernel
theorem dX1_digestRooms_99 : decode cX1_digestRooms 99 = .ok (.lload_n 3, 1) := by decide +kernel
theorem dX1_digestRooms_100 : decode cX1_digestRooms 100 = .ok (.lmul, 1) := by decide +kernel
theorem dX1_digestRooms_101 : decode cX1_digestRooms 101 = .ok (.aload_n 0, 1) := by decide +kernel
theorem dX1_digestRooms_102 : decode cX1_digestRooms 102 = .ok (.getfield 18, 3) := by decide +kernel
theorem dX1_digestRooms_105 : decode cX1_digestRooms 105 = .ok (.iload 5, 2) := by decide +kernel
theorem dX1_digestRooms_107 : decode cX1_digestRooms 107 = .ok (.iaload, 1) := by decide +kernel
theorem dX1_digestRooms_108 : decode cX1_digestRooms 108 = .ok (.i2l, 1) := by decide +kernel
theorem dX1_digestRooms_109 : decode cX1_digestRooms 109 = .ok (.ladd, 1) := by decide +kernel
theorem dX1_digestRooms_110 : decode cX1_digestRooms 110 = .ok (.lstore_n 3, 1) := by decide +kernel
theorem dX1_digestRooms_111 : decode cX1_digestRooms 111 = .ok (.iinc 5 1, 3) := by decide +kernel
theorem dX1_digestRooms_114 : decode cX1_digestRooms 114 = .ok (.goto (-27), 3) := by decide +kernel
theorem dX1_digestRooms_117 : decode cX1_digestRooms 117 = .ok (.lload_n 3, 1) := by decide +kernel
theorem dX1_digestRooms_118 : decode cX1_digestRooms 118 = .ok (.lreturn, 1) := by decide +kernel
theorem dX1_digestHeirs_0 : decode cX1_digestHeirs 0 = .ok (.lload_n 1, 1) := by decide +kernel
theorem dX1_digestHeirs_1 : decode cX1_digestHeirs 1 = .ok (.lstore_n 3, 1) := by decide +kernel
theorem dX1_digestHeirs_2 : decode cX1_digestHeirs 2 = .ok (.iconst 0, 1) := by decide +kernel
theorem dX1_digestHeirs_3 : decode cX1_digestHeirs 3 = .ok (.istore 5, 2) := by decide +kernel
theorem dX1_digestHeirs_5 : decode cX1_digestHeirs 5 = .ok (.iload 5, 2) := by decide +kernel
theorem dX1_digestHeirs_7 : decode cX1_digestHeirs 7 = .ok (.aload_n 0, 1) := by decide +kernel
theorem dX1_digestHeirs_8 : decode cX1_digestHeirs 8 = .ok (.getfield 57, 3) := by decide +kernel
theorem dX1_digestHeirs_11 : decode cX1_digestHeirs 11 = .ok (.if_icmp .ge 129, 3) := by decide +kernel
theorem dX1_digestHeirs_14 : decode cX1_digestHeirs 14 = .ok (.ldc2_w 124, 3) := by decide +kernel
theorem dX1_digestHeirs_17 : decode cX1_digestHeirs 17 = .ok (.lload_n 3, 1) := by decide +kernel
theorem dX1_digestHeirs_18 : decode cX1_digestHeirs 18 = .ok (.lmul, 1) := by decide +kernel
theorem dX1_digestHeirs_19 : decode cX1_digestHeirs 19 = .ok (.aload_n 0, 1) := by decide +kernel
theorem dX1_digestHeirs_20 : decode cX1_digestHeirs 20 = .ok (.getfield 21, 3) := by decide +kernel
theorem dX1_digestHeirs_23 : decode cX1_digestHeirs 23 = .ok (.iload 5, 2) := by decide +kernel
theorem dX1_digestHeirs_25 : decode cX1_digestHeirs 25 = .ok (.iaload, 1) := by decide +kernel
theorem dX1_digestHeirs_26 : decode cX1_digestHeirs 26 = .ok (.i2l, 1) := by decide +kernel
theorem dX1_digestHeirs_27 : decode cX1_digestHeirs 27 = .ok (.ladd, 1) := by decide +kernel
theorem dX1_digestHeirs_28 : decode cX1_digestHeirs 28 = .ok (.lstore_n 3, 1) := by decide +kernel
theorem dX1_digestHeirs_29 : decode cX1_digestHeirs 29 = .ok (.ldc2_w 124, 3) := by decide +kernel
theorem dX1_digestHeirs_32 : decode cX1_digestHeirs 32 = .ok (.lload_n 3, 1) := by decide +kernel
theorem dX1_digestHeirs_33 : decode cX1_digestHeirs 33 = .ok (.lmul, 1) := by decide +kernel
theorem dX1_digestHeirs_34 : decode cX1_digestHeirs 34 = .ok (.aload_n 0, 1) := by decide +kernel
theorem dX1_digestHeirs_35 : decode cX1_digestHeirs 35 = .ok (.getfield 30, 3) := by decide +kernel
theorem dX1_digestHeirs_38 : decode cX1_digestHeirs 38 = .ok (.getfield 82, 3) := by decide +kernel
theorem dX1_digestHeirs_41 : decode cX1_digestHeirs 41 = .ok (.iload 5, 2) := by decide +kernel
theorem dX1_digestHeirs_43 : decode cX1_digestHeirs 43 = .ok (.iaload, 1) := by decide +kernel
theorem dX1_digestHeirs_44 : decode cX1_digestHeirs 44 = .ok (.i2l, 1) := by decide +kernel
theorem dX1_digestHeirs_45 : decode cX1_digestHeirs 45 = .ok (.ladd, 1) := by decide +kernel
theorem dX1_digestHeirs_46 : decode cX1_digestHeirs 46 = .ok (.lstore_n 3, 1) := by decide +kernel
theorem dX1_digestHeirs_47 : decode cX1_digestHeirs 47 = .ok (.ldc2_w 124, 3) := by decide +kernel
theorem dX1_digestHeirs_50 : decode cX1_digestHeirs 50 = .ok (.lload_n 3, 1) := by decide +kernel
theorem dX1_digestHeirs_51 : decode cX1_digestHeirs 51 = .ok (.lmul, 1) := by decide +kernel
theorem dX1_digestHeirs_52 : decode cX1_digestHeirs 52 = .ok (.aload_n 0, 1) := by decide +kernel
theorem dX1_digestHeirs_53 : decode cX1_digestHeirs 53 = .ok (.getfield 24, 3) := by decide +kernel
theorem dX1_digestHeirs_56 : decode cX1_digestHeirs 56 = .ok (.iload 5, 2) := by decide +kernel
theorem dX1_digestHeirs_58 : decode cX1_digestHeirs 58 = .ok (.iaload, 1) := by decide +kernel
theorem dX1_digestHeirs_59 : decode cX1_digestHeirs 59 = .ok (.i2l, 1) := by decide +kernel
theorem dX1_digestHeirs_60 : decode cX1_digestHeirs 60 = .ok (.ladd, 1) := by decide +kernel
theorem dX1_digestHeirs_61 : decode cX1_digestHeirs 61 = .ok (.lstore_n 3, 1) := by decide +kernel
theorem dX1_digestHeirs_62 : decode cX1_digestHeirs 62 = .ok (.ldc2_w 124, 3) := by decide +kernel
theorem dX1_digestHeirs_65 : decode cX1_digestHeirs 65 = .ok (.lload_n 3, 1) := by decide +kernel
theorem dX1_digestHeirs_66 : decode cX1_digestHeirs 66 = .ok (.lmul, 1) := by decide +kernel
theorem dX1_digestHeirs_67 : decode cX1_digestHeirs 67 = .ok (.aload_n 0, 1) := by decide +kernel
theorem dX1_digestHeirs_68 : decode cX1_digestHeirs 68 = .ok (.getfield 30, 3) := by decide +kernel
theorem dX1_digestHeirs_71 : decode cX1_digestHeirs 71 = .ok (.getfield 79, 3) := by decide +kernel
theorem dX1_digestHeirs_74 : decode cX1_digestHeirs 74 = .ok (.iload 5, 2) := by decide +kernel
theorem dX1_digestHeirs_76 : decode cX1_digestHeirs 76 = .ok (.iaload, 1) := by decide +kernel
theorem dX1_digestHeirs_77 : decode cX1_digestHeirs 77 = .ok (.i2l, 1) := by decide +kernel
theorem dX1_digestHeirs_78 : decode cX1_digestHeirs 78 = .ok (.ladd, 1) := by decide +kernel
theorem dX1_digestHeirs_79 : decode cX1_digestHeirs 79 = .ok (.lstore_n 3, 1) := by decide +kernel
theorem dX1_digestHeirs_80 : decode cX1_digestHeirs 80 = .ok (.ldc2_w 124, 3) := by decide +kernel
theorem dX1_digestHeirs_83 : decode cX1_digestHeirs 83 = .ok (.lload_n 3, 1) := by decide +kernel
theorem dX1_digestHeirs_84 : decode cX1_digestHeirs 84 = .ok (.lmul, 1) := by decide +kernel
theorem dX1_digestHeirs_85 : decode cX1_digestHeirs 85 = .ok (.aload_n 0, 1) := by decide +kernel
theorem dX1_digestHeirs_86 : decode cX1_digestHeirs 86 = .ok (.getfield 30, 3) := by decide +kernel
theorem dX1_digestHeirs_89 : decode cX1_digestHeirs 89 = .ok (.getfield 98, 3) := by decide +kernel
theorem dX1_digestHeirs_92 : decode cX1_digestHeirs 92 = .ok (.iload 5, 2) := by decide +kernel
theorem dX1_digestHeirs_94 : decode cX1_digestHeirs 94 = .ok (.iaload, 1) := by decide +kernel
theorem dX1_digestHeirs_95 : decode cX1_digestHeirs 95 = .ok (.i2l, 1) := by decide +kernel
theorem dX1_digestHeirs_96 : decode cX1_digestHeirs 96 = .ok (.ladd, 1) := by decide +kernel
theorem dX1_digestHeirs_97 : decode cX1_digestHeirs 97 = .ok (.lstore_n 3, 1) := by decide +kernel
theorem dX1_digestHeirs_98 : decode cX1_digestHeirs 98 = .ok (.ldc2_w 124, 3) := by decide +kernel
theorem dX1_digestHeirs_101 : decode cX1_digestHeirs 101 = .ok (.lload_n 3, 1) := by decide +kernel
theorem dX1_digestHeirs_102 : decode cX1_digestHeirs 102 = .ok (.lmul, 1) := by decide +kernel
theorem dX1_digestHeirs_103 : decode cX1_digestHeirs 103 = .ok (.aload_n 0, 1) := by decide +kernel
theorem dX1_digestHeirs_104 : decode cX1_digestHeirs 104 = .ok (.getfield 30, 3) := by decide +kernel
theorem dX1_digestHeirs_107 : decode cX1_digestHeirs 107 = .ok (.getfield 129, 3) := by decide +kernel
theorem dX1_digestHeirs_110 : decode cX1_digestHeirs 110 = .ok (.iload 5, 2) := by decide +kernel
theorem dX1_digestHeirs_112 : decode cX1_digestHeirs 112 = .ok (.iaload, 1) := by decide +kernel
theorem dX1_digestHeirs_113 : decode cX1_digestHeirs 113 = .ok (.i2l, 1) := by decide +kernel
theorem dX1_digestHeirs_114 : decode cX1_digestHeirs 114 = .ok (.ladd, 1) := by decide +kernel
theorem dX1_digestHeirs_115 : decode cX1_digestHeirs 115 = .ok (.lstore_n 3, 1) := by decide +kernel
theorem dX1_digestHeirs_116 : decode cX1_digestHeirs 116 = .ok (.ldc2_w 124, 3) := by decide +kernel
theorem dX1_digestHeirs_119 : decode cX1_digestHeirs 119 = .ok (.lload_n 3, 1) := by decide +kernel
theorem dX1_digestHeirs_120 : decode cX1_digestHeirs 120 = .ok (.lmul, 1) := by decide +kernel
theorem dX1_digestHeirs_121 : decode cX1_digestHeirs 121 = .ok (.aload_n 0, 1) := by decide +kernel
theorem dX1_digestHeirs_122 : decode cX1_digestHeirs 122 = .ok (.getfield 30, 3) := by decide +kernel
theorem dX1_digestHeirs_125 : decode cX1_digestHeirs 125 = .ok (.getfield 132, 3) := by decide +kernel
theorem dX1_digestHeirs_128 : decode cX1_digestHeirs 128 = .ok (.iload 5, 2) := by decide +kernel
theorem dX1_digestHeirs_130 : decode cX1_digestHeirs 130 = .ok (.iaload, 1) := by decide +kernel
theorem dX1_digestHeirs_131 : decode cX1_digestHeirs 131 = .ok (.i2l, 1) := by decide +kernel
theorem dX1_digestHeirs_132 : decode cX1_digestHeirs 132 = .ok (.ladd, 1) := by decide +kernel
theorem dX1_digestHeirs_133 : decode cX1_digestHeirs 133 = .ok (.lstore_n 3, 1) := by decide +kernel
theorem dX1_digestHeirs_134 : decode cX1_digestHeirs 134 = .ok (.iinc 5 1, 3) := by decide +kernel
theorem dX1_digestHeirs_137 : decode cX1_digestHeirs 137 = .ok (.goto (-132), 3) := by decide +kernel
theorem dX1_digestHeirs_140 : decode cX1_digestHeirs 140 = .ok (.lload_n 3, 1) := by decide +kernel
theorem dX1_digestHeirs_141 : decode cX1_digestHeirs 141 = .ok (.lreturn, 1) := by decide +kernel
theorem dX1_digestSeen_0 : decode cX1_digestSeen 0 = .ok (.lload_n 1, 1) := by decide +kernel
theorem dX1_digestSeen_1 : decode cX1_digestSeen 1 = .ok (.lstore_n 3, 1) := by decide +kernel
theorem dX1_digestSeen_2 : decode cX1_digestSeen 2 = .ok (.iconst 0, 1) := by decide +kernel
theorem dX1_digestSeen_3 : decode cX1_digestSeen 3 = .ok (.istore 5, 2) := by decide +kernel
theorem dX1_digestSeen_5 : decode cX1_digestSeen 5 = .ok (.iload 5, 2) := by decide +kernel
theorem dX1_digestSeen_7 : decode cX1_digestSeen 7 = .ok (.aload_n 0, 1) := by decide +kernel
theorem dX1_digestSeen_8 : decode cX1_digestSeen 8 = .ok (.getfield 63, 3) := by decide +kernel
theorem dX1_digestSeen_11 : decode cX1_digestSeen 11 = .ok (.if_icmp .ge 54, 3) := by decide +kernel
theorem dX1_digestSeen_14 : decode cX1_digestSeen 14 = .ok (.ldc2_w 124, 3) := by decide +kernel
theorem dX1_digestSeen_17 : decode cX1_digestSeen 17 = .ok (.lload_n 3, 1) := by decide +kernel
theorem dX1_digestSeen_18 : decode cX1_digestSeen 18 = .ok (.lmul, 1) := by decide +kernel
theorem dX1_digestSeen_19 : decode cX1_digestSeen 19 = .ok (.aload_n 0, 1) := by decide +kernel
theorem dX1_digestSeen_20 : decode cX1_digestSeen 20 = .ok (.getfield 34, 3) := by decide +kernel
theorem dX1_digestSeen_23 : decode cX1_digestSeen 23 = .ok (.iload 5, 2) := by decide +kernel
theorem dX1_digestSeen_25 : decode cX1_digestSeen 25 = .ok (.iaload, 1) := by decide +kernel
theorem dX1_digestSeen_26 : decode cX1_digestSeen 26 = .ok (.i2l, 1) := by decide +kernel
theorem dX1_digestSeen_27 : decode cX1_digestSeen 27 = .ok (.ladd, 1) := by decide +kernel
theorem dX1_digestSeen_28 : decode cX1_digestSeen 28 = .ok (.lstore_n 3, 1) := by decide +kernel
theorem dX1_digestSeen_29 : decode cX1_digestSeen 29 = .ok (.ldc2_w 124, 3) := by decide +kernel
theorem dX1_digestSeen_32 : decode cX1_digestSeen 32 = .ok (.lload_n 3, 1) := by decide +kernel
theorem dX1_digestSeen_33 : decode cX1_digestSeen 33 = .ok (.lmul, 1) := by decide +kernel
theorem dX1_digestSeen_34 : decode cX1_digestSeen 34 = .ok (.aload_n 0, 1) := by decide +kernel
theorem dX1_digestSeen_35 : decode cX1_digestSeen 35 = .ok (.getfield 37, 3) := by decide +kernel
theorem dX1_digestSeen_38 : decode cX1_digestSeen 38 = .ok (.iload 5, 2) := by decide +kernel
theorem dX1_digestSeen_40 : decode cX1_digestSeen 40 = .ok (.iaload, 1) := by decide +kernel
theorem dX1_digestSeen_41 : decode cX1_digestSeen 41 = .ok (.i2l, 1) := by decide +kernel
theorem dX1_digestSeen_42 : decode cX1_digestSeen 42 = .ok (.ladd, 1) := by decide +kernel
theorem dX1_digestSeen_43 : decode cX1_digestSeen 43 = .ok (.lstore_n 3, 1) := by decide +kernel
theorem dX1_digestSeen_44 : decode cX1_digestSeen 44 = .ok (.ldc2_w 124, 3) := by decide +kernel
theorem dX1_digestSeen_47 : decode cX1_digestSeen 47 = .ok (.lload_n 3, 1) := by decide +kernel
theorem dX1_digestSeen_48 : decode cX1_digestSeen 48 = .ok (.lmul, 1) := by decide +kernel
theorem dX1_digestSeen_49 : decode cX1_digestSeen 49 = .ok (.aload_n 0, 1) := by decide +kernel
theorem dX1_digestSeen_50 : decode cX1_digestSeen 50 = .ok (.getfield 40, 3) := by decide +kernel
theorem dX1_digestSeen_53 : decode cX1_digestSeen 53 = .ok (.iload 5, 2) := by decide +kernel
theorem dX1_digestSeen_55 : decode cX1_digestSeen 55 = .ok (.iaload, 1) := by decide +kernel
theorem dX1_digestSeen_56 : decode cX1_digestSeen 56 = .ok (.i2l, 1) := by decide +kernel
theorem dX1_digestSeen_57 : decode cX1_digestSeen 57 = .ok (.ladd, 1) := by decide +kernel
theorem dX1_digestSeen_58 : decode cX1_digestSeen 58 = .ok (.lstore_n 3, 1) := by decide +kernel
theorem dX1_digestSeen_59 : decode cX1_digestSeen 59 = .ok (.iinc 5 1, 3) := by decide +kernel
theorem dX1_digestSeen_62 : decode cX1_digestSeen 62 = .ok (.goto (-57), 3) := by decide +kernel
theorem dX1_digestSeen_65 : decode cX1_digestSeen 65 = .ok (.lload_n 3, 1) := by decide +kernel
theorem dX1_digestSeen_66 : decode cX1_digestSeen 66 = .ok (.lreturn, 1) := by decide +kernel
theorem dX2_init_0 : decode cX2_init 0 = .ok (.aload_n 0, 1) := by decide +kernel
theorem dX2_init_1 : decode cX2_init 1 = .ok (.invokespecial 3, 3) := by decide +kernel
theorem dX2_init_4 : decode cX2_init 4 = .ok (.aload_n 0, 1) := by decide +kernel
theorem dX2_init_5 : decode cX2_init 5 = .ok (.bipush 8, 2) := by decide +kernel
theorem dX2_init_7 : decode cX2_init 7 = .ok (.anewarray 9, 3) := by decide +kernel
theorem dX2_init_10 : decode cX2_init 10 = .ok (.putfield 11, 3) := by decide +kernel
theorem dX2_init_13 : decode cX2_init 13 = .ok (.aload_n 0, 1) := by decide +kernel
theorem dX2_init_14 : decode cX2_init 14 = .ok (.iconst 0, 1) := by decide +kernel
theorem dX2_init_15 : decode cX2_init 15 = .ok (.putfield 17, 3) := by decide +kernel
theorem dX2_init_18 : decode cX2_init 18 = .ok (.iconst 0, 1) := by decide +kernel
theorem dX2_init_19 : decode cX2_init 19 = .ok (.istore_n 1, 1) := by decide +kernel
theorem dX2_init_20 : decode cX2_init 20 = .ok (.iload_n 1, 1) := by decide +kernel
theorem dX2_init_21 : decode cX2_init 21 = .ok (.bipush 8, 2) := by decide +kernel
theorem dX2_init_23 : decode cX2_init 23 = .ok (.if_icmp .ge 22, 3) := by decide +kernel
theorem dX2_init_26 : decode cX2_init 26 = .ok (.aload_n 0, 1) := by decide +kernel
theorem dX2_init_27 : decode cX2_init 27 = .ok (.getfield 11, 3) := by decide +kernel
theorem dX2_init_30 : decode cX2_init 30 = .ok (.iload_n 1, 1) := by decide +kernel
theorem dX2_init_31 : decode cX2_init 31 = .ok (.new 9, 3) := by decide +kernel
theorem dX2_init_34 : decode cX2_init 34 = .ok (.dup, 1) := by decide +kernel
theorem dX2_init_35 : decode cX2_init 35 = .ok (.invokespecial 21, 3) := by decide +kernel
theorem dX2_init_38 : decode cX2_init 38 = .ok (.aastore, 1) := by decide +kernel
theorem dX2_init_39 : decode cX2_init 39 = .ok (.iinc 1 1, 3) := by decide +kernel
theorem dX2_init_42 : decode cX2_init 42 = .ok (.goto (-22), 3) := by decide +kernel
theorem dX2_init_45 : decode cX2_init 45 = .ok (.return_, 1) := by decide +kernel
theorem dX2_keep_0 : decode cX2_keep 0 = .ok (.aload_n 0, 1) := by decide +kernel
theorem dX2_keep_1 : decode cX2_keep 1 = .ok (.getfield 17, 3) := by decide +kernel
theorem dX2_keep_4 : decode cX2_keep 4 = .ok (.bipush 8, 2) := by decide +kernel
theorem dX2_keep_6 : decode cX2_keep 6 = .ok (.if_icmp .lt 7, 3) := by decide +kernel
theorem dX2_keep_9 : decode cX2_keep 9 = .ok (.aload_n 0, 1) := by decide +kernel
theorem dX2_keep_10 : decode cX2_keep 10 = .ok (.invokevirtual 22, 3) := by decide +kernel
theorem dX2_keep_13 : decode cX2_keep 13 = .ok (.aload_n 0, 1) := by decide +kernel
theorem dX2_keep_14 : decode cX2_keep 14 = .ok (.getfield 11, 3) := by decide +kernel
theorem dX2_keep_17 : decode cX2_keep 17 = .ok (.aload_n 0, 1) := by decide +kernel
theorem dX2_keep_18 : decode cX2_keep 18 = .ok (.getfield 17, 3) := by decide +kernel
theorem dX2_keep_21 : decode cX2_keep 21 = .ok (.aaload, 1) := by decide +kernel
theorem dX2_keep_22 : decode cX2_keep 22 = .ok (.aload_n 1, 1) := by decide +kernel
theorem dX2_keep_23 : decode cX2_keep 23 = .ok (.invokevirtual 25, 3) := by decide +kernel
theorem dX2_keep_26 : decode cX2_keep 26 = .ok (.aload_n 0, 1) := by decide +kernel
theorem dX2_keep_27 : decode cX2_keep 27 = .ok (.dup, 1) := by decide +kernel
theorem dX2_keep_28 : decode cX2_keep 28 = .ok (.getfield 17, 3) := by decide +kernel
theorem dX2_keep_31 : decode cX2_keep 31 = .ok (.iconst 1, 1) := by decide +kernel
theorem dX2_keep_32 : decode cX2_keep 32 = .ok (.iadd, 1) := by decide +kernel
theorem dX2_keep_33 : decode cX2_keep 33 = .ok (.putfield 17, 3) := by decide +kernel
theorem dX2_keep_36 : decode cX2_keep 36 = .ok (.return_, 1) := by decide +kernel
theorem dX2_dropOldest_0 : decode cX2_dropOldest 0 = .ok (.aload_n 0, 1) := by decide +kernel
theorem dX2_dropOldest_1 : decode cX2_dropOldest 1 = .ok (.getfield 11, 3) := by decide +kernel
theorem dX2_dropOldest_4 : decode cX2_dropOldest 4 = .ok (.iconst 0, 1) := by decide +kernel
theorem dX2_dropOldest_5 : decode cX2_dropOldest 5 = .ok (.aaload, 1) := by decide +kernel
theorem dX2_dropOldest_6 : decode cX2_dropOldest 6 = .ok (.astore_n 1, 1) := by decide +kernel
theorem dX2_dropOldest_7 : decode cX2_dropOldest 7 = .ok (.iconst 1, 1) := by decide +kernel
theorem dX2_dropOldest_8 : decode cX2_dropOldest 8 = .ok (.istore_n 2, 1) := by decide +kernel
theorem dX2_dropOldest_9 : decode cX2_dropOldest 9 = .ok (.iload_n 2, 1) := by decide +kernel
theorem dX2_dropOldest_10 : decode cX2_dropOldest 10 = .ok (.bipush 8, 2) := by decide +kernel
theorem dX2_dropOldest_12 : decode cX2_dropOldest 12 = .ok (.if_icmp .ge 23, 3) := by decide +kernel
theorem dX2_dropOldest_15 : decode cX2_dropOldest 15 = .ok (.aload_n 0, 1) := by decide +kernel
theorem dX2_dropOldest_16 : decode cX2_dropOldest 16 = .ok (.getfield 11, 3) := by decide +kernel
theorem dX2_dropOldest_19 : decode cX2_dropOldest 19 = .ok (.iload_n 2, 1) := by decide +kernel
theorem dX2_dropOldest_20 : decode cX2_dropOldest 20 = .ok (.iconst 1, 1) := by decide +kernel
theorem dX2_dropOldest_21 : decode cX2_dropOldest 21 = .ok (.isub, 1) := by decide +kernel
theorem dX2_dropOldest_22 : decode cX2_dropOldest 22 = .ok (.aload_n 0, 1) := by decide +kernel
theorem dX2_dropOldest_23 : decode cX2_dropOldest 23 = .ok (.getfield 11, 3) := by decide +kernel
theorem dX2_dropOldest_26 : decode cX2_dropOldest 26 = .ok (.iload_n 2, 1) := by decide +kernel
theorem dX2_dropOldest_27 : decode cX2_dropOldest 27 = .ok (.aaload, 1) := by decide +kernel
theorem dX2_dropOldest_28 : decode cX2_dropOldest 28 = .ok (.aastore, 1) := by decide +kernel
theorem dX2_dropOldest_29 : decode cX2_dropOldest 29 = .ok (.iinc 2 1, 3) := by decide +kernel
theorem dX2_dropOldest_32 : decode cX2_dropOldest 32 = .ok (.goto (-23), 3) := by decide +kernel
theorem dX2_dropOldest_35 : decode cX2_dropOldest 35 = .ok (.aload_n 0, 1) := by decide +kernel
theorem dX2_dropOldest_36 : decode cX2_dropOldest 36 = .ok (.getfield 11, 3) := by decide +kernel
theorem dX2_dropOldest_39 : decode cX2_dropOldest 39 = .ok (.bipush 7, 2) := by decide +kernel
theorem dX2_dropOldest_41 : decode cX2_dropOldest 41 = .ok (.aload_n 1, 1) := by decide +kernel
theorem dX2_dropOldest_42 : decode cX2_dropOldest 42 = .ok (.aastore, 1) := by decide +kernel
theorem dX2_dropOldest_43 : decode cX2_dropOldest 43 = .ok (.aload_n 0, 1) := by decide +kernel
theorem dX2_dropOldest_44 : decode cX2_dropOldest 44 = .ok (.bipush 7, 2) := by decide +kernel
theorem dX2_dropOldest_46 : decode cX2_dropOldest 46 = .ok (.putfield 17, 3) := by decide +kernel
theorem dX2_dropOldest_49 : decode cX2_dropOldest 49 = .ok (.return_, 1) := by decide +kernel
theorem dX2_bringBack_0 : decode cX2_bringBack 0 = .ok (.aload_n 0, 1) := by decide +kernel
theorem dX2_bringBack_1 : decode cX2_bringBack 1 = .ok (.getfield 17, 3) := by decide +kernel
theorem dX2_bringBack_4 : decode cX2_bringBack 4 = .ok (.ifCond .le 26, 3) := by decide +kernel
theorem dX2_bringBack_7 : decode cX2_bringBack 7 = .ok (.aload_n 0, 1) := by decide +kernel
theorem dX2_bringBack_8 : decode cX2_bringBack 8 = .ok (.dup, 1) := by decide +kernel
theorem dX2_bringBack_9 : decode cX2_bringBack 9 = .ok (.getfield 17, 3) := by decide +kernel
theorem dX2_bringBack_12 : decode cX2_bringBack 12 = .ok (.iconst 1, 1) := by decide +kernel
theorem dX2_bringBack_13 : decode cX2_bringBack 13 = .ok (.isub, 1) := by decide +kernel
theorem dX2_bringBack_14 : decode cX2_bringBack 14 = .ok (.putfield 17, 3) := by decide +kernel
theorem dX2_bringBack_17 : decode cX2_bringBack 17 = .ok (.aload_n 1, 1) := by decide +kernel
theorem dX2_bringBack_18 : decode cX2_bringBack 18 = .ok (.aload_n 0, 1) := by decide +kernel
theorem dX2_bringBack_19 : decode cX2_bringBack 19 = .ok (.getfield 11, 3) := by decide +kernel
theorem dX2_bringBack_22 : decode cX2_bringBack 22 = .ok (.aload_n 0, 1) := by decide +kernel
theorem dX2_bringBack_23 : decode cX2_bringBack 23 = .ok (.getfield 17, 3) := by decide +kernel
theorem dX2_bringBack_26 : decode cX2_bringBack 26 = .ok (.aaload, 1) := by decide +kernel
theorem dX2_bringBack_27 : decode cX2_bringBack 27 = .ok (.invokevirtual 25, 3) := by decide +kernel
theorem dX2_bringBack_30 : decode cX2_bringBack 30 = .ok (.return_, 1) := by decide +kernel
theorem dX2_take_0 : decode cX2_take 0 = .ok (.aload_n 0, 1) := by decide +kernel
theorem dX2_take_1 : decode cX2_take 1 = .ok (.aload_n 1, 1) := by decide +kernel
theorem dX2_take_2 : decode cX2_take 2 = .ok (.getfield 17, 3) := by decide +kernel
theorem dX2_take_5 : decode cX2_take 5 = .ok (.putfield 17, 3) := by decide +kernel
theorem dX2_take_8 : decode cX2_take 8 = .ok (.iconst 0, 1) := by decide +kernel
theorem dX2_take_9 : decode cX2_take 9 = .ok (.istore_n 2, 1) := by decide +kernel
theorem dX2_take_10 : decode cX2_take 10 = .ok (.iload_n 2, 1) := by decide +kernel
theorem dX2_take_11 : decode cX2_take 11 = .ok (.aload_n 0, 1) := by decide +kernel
theorem dX2_take_12 : decode cX2_take 12 = .ok (.getfield 17, 3) := by decide +kernel
theorem dX2_take_15 : decode cX2_take 15 = .ok (.if_icmp .ge 24, 3) := by decide +kernel
theorem dX2_take_18 : decode cX2_take 18 = .ok (.aload_n 0, 1) := by decide +kernel
theorem dX2_take_19 : decode cX2_take 19 = .ok (.getfield 11, 3) := by decide +kernel
theorem dX2_take_22 : decode cX2_take 22 = .ok (.iload_n 2, 1) := by decide +kernel
theorem dX2_take_23 : decode cX2_take 23 = .ok (.aaload, 1) := by decide +kernel
theorem dX2_take_24 : decode cX2_take 24 = .ok (.aload_n 1, 1) := by decide +kernel
theorem dX2_take_25 : decode cX2_take 25 = .ok (.getfield 11, 3) := by decide +kernel
theorem dX2_take_28 : decode cX2_take 28 = .ok (.iload_n 2, 1) := by decide +kernel
theorem dX2_take_29 : decode cX2_take 29 = .ok (.aaload, 1) := by decide +kernel
theorem dX2_take_30 : decode cX2_take 30 = .ok (.invokevirtual 25, 3) := by decide +kernel
theorem dX2_take_33 : decode cX2_take 33 = .ok (.iinc 2 1, 3) := by decide +kernel
theorem dX2_take_36 : decode cX2_take 36 = .ok (.goto (-26), 3) := by decide +kernel
theorem dX2_take_39 : decode cX2_take 39 = .ok (.return_, 1) := by decide +kernel
theorem dX3_init_0 : decode cX3_init 0 = .ok (.aload_n 0, 1) := by decide +kernel
theorem dX3_init_1 : decode cX3_init 1 = .ok (.invokespecial 3, 3) := by decide +kernel
theorem dX3_init_4 : decode cX3_init 4 = .ok (.aload_n 0, 1) := by decide +kernel
theorem dX3_init_5 : decode cX3_init 5 = .ok (.iconst 0, 1) := by decide +kernel
theorem dX3_init_6 : decode cX3_init 6 = .ok (.putfield 9, 3) := by decide +kernel
theorem dX3_init_9 : decode cX3_init 9 = .ok (.aload_n 0, 1) := by decide +kernel
theorem dX3_init_10 : decode cX3_init 10 = .ok (.bipush 6, 2) := by decide +kernel
theorem dX3_init_12 : decode cX3_init 12 = .ok (.newarray .int, 2) := by decide +kernel
theorem dX3_init_14 : decode cX3_init 14 = .ok (.putfield 15, 3) := by decide +kernel
theorem dX3_init_17 : decode cX3_init 17 = .ok (.aload_n 0, 1) := by decide +kernel
theorem dX3_init_18 : decode cX3_init 18 = .ok (.bipush 6, 2) := by decide +kernel
theorem dX3_init_20 : decode cX3_init 20 = .ok (.newarray .int, 2) := by decide +kernel
theorem dX3_init_22 : decode cX3_init 22 = .ok (.putfield 19, 3) := by decide +kernel
theorem dX3_init_25 : decode cX3_init 25 = .ok (.aload_n 0, 1) := by decide +kernel
theorem dX3_init_26 : decode cX3_init 26 = .ok (.bipush 6, 2) := by decide +kernel
theorem dX3_init_28 : decode cX3_init 28 = .ok (.newarray .int, 2) := by decide +kernel
theorem dX3_init_30 : decode cX3_init 30 = .ok (.putfield 22, 3) := by decide +kernel
theorem dX3_init_33 : decode cX3_init 33 = .ok (.aload_n 0, 1) := by decide +kernel
theorem dX3_init_34 : decode cX3_init 34 = .ok (.bipush 6, 2) := by decide +kernel
theorem dX3_init_36 : decode cX3_init 36 = .ok (.newarray .int, 2) := by decide +kernel
theorem dX3_init_38 : decode cX3_init 38 = .ok (.putfield 25, 3) := by decide +kernel
theorem dX3_init_41 : decode cX3_init 41 = .ok (.aload_n 0, 1) := by decide +kernel
theorem dX3_init_42 : decode cX3_init 42 = .ok (.bipush 6, 2) := by decide +kernel
theorem dX3_init_44 : decode cX3_init 44 = .ok (.newarray .int, 2) := by decide +kernel
theorem dX3_init_46 : decode cX3_init 46 = .ok (.putfield 28, 3) := by decide +kernel
theorem dX3_init_49 : decode cX3_init 49 = .ok (.return_, 1) := by decide +kernel
theorem dX3_place_0 : decode cX3_place 0 = .ok (.aload_n 0, 1) := by decide +kernel
theorem dX3_place_1 : decode cX3_place 1 = .ok (.getfield 15, 3) := by decide +kernel
theorem dX3_place_4 : decode cX3_place 4 = .ok (.iload_n 1, 1) := by decide +kernel
theorem dX3_place_5 : decode cX3_place 5 = .ok (.iload_n 2, 1) := by decide +kernel
theorem dX3_place_6 : decode cX3_place 6 = .ok (.iastore, 1) := by decide +kernel
theorem dX3_place_7 : decode cX3_place 7 = .ok (.aload_n 0, 1) := by decide +kernel
theorem dX3_place_8 : decode cX3_place 8 = .ok (.getfield 19, 3) := by decide +kernel
theorem dX3_place_11 : decode cX3_place 11 = .ok (.iload_n 1, 1) := by decide +kernel
theorem dX3_place_12 : decode cX3_place 12 = .ok (.iconst 0, 1) := by decide +kernel
theorem dX3_place_13 : decode cX3_place 13 = .ok (.iastore, 1) := by decide +kernel
theorem dX3_place_14 : decode cX3_place 14 = .ok (.aload_n 0, 1) := by decide +kernel
theorem dX3_place_15 : decode cX3_place 15 = .ok (.getfield 22, 3) := by decide +kernel
theorem dX3_place_18 : decode cX3_place 18 = .ok (.iload_n 1, 1) := by decide +kernel
theorem dX3_place_19 : decode cX3_place 19 = .ok (.iconst 0, 1) := by decide +kernel
theorem dX3_place_20 : decode cX3_place 20 = .ok (.iastore, 1) := by decide +kernel
theorem dX3_place_21 : decode cX3_place 21 = .ok (.aload_n 0, 1) := by decide +kernel
theorem dX3_place_22 : decode cX3_place 22 = .ok (.getfield 25, 3) := by decide +kernel
theorem dX3_place_25 : decode cX3_place 25 = .ok (.iload_n 1, 1) := by decide +kernel
theorem dX3_place_26 : decode cX3_place 26 = .ok (.iconst (-1), 1) := by decide +kernel
theorem dX3_place_27 : decode cX3_place 27 = .ok (.iastore, 1) := by decide +kernel
theorem dX3_place_28 : decode cX3_place 28 = .ok (.aload_n 0, 1) := by decide +kernel
theorem dX3_place_29 : decode cX3_place 29 = .ok (.getfield 28, 3) := by decide +kernel
theorem dX3_place_32 : decode cX3_place 32 = .ok (.iload_n 1, 1) := by decide +kernel
theorem dX3_place_33 : decode cX3_place 33 = .ok (.iconst 0, 1) := by decide +kernel
theorem dX3_place_34 : decode cX3_place 34 = .ok (.iastore, 1) := by decide +kernel
theorem dX3_place_35 : decode cX3_place 35 = .ok (.return_, 1) := by decide +kernel
theorem dX3_go_0 : decode cX3_go 0 = .ok (.aload_n 0, 1) := by decide +kernel
theorem dX3_go_1 : decode cX3_go 1 = .ok (.getfield 15, 3) := by decide +kernel
theorem dX3_go_4 : decode cX3_go 4 = .ok (.iload_n 1, 1) := by decide +kernel
theorem dX3_go_5 : decode cX3_go 5 = .ok (.iload_n 2, 1) := by decide +kernel
theorem dX3_go_6 : decode cX3_go 6 = .ok (.iastore, 1) := by decide +kernel
theorem dX3_go_7 : decode cX3_go 7 = .ok (.aload_n 0, 1) := by decide +kernel
theorem dX3_go_8 : decode cX3_go 8 = .ok (.getfield 19, 3) := by decide +kernel
theorem dX3_go_11 : decode cX3_go 11 = .ok (.iload_n 1, 1) := by decide +kernel
theorem dX3_go_12 : decode cX3_go 12 = .ok (.iconst 0, 1) := by decide +kernel
theorem dX3_go_13 : decode cX3_go 13 = .ok (.iastore, 1) := by decide +kernel
theorem dX3_go_14 : decode cX3_go 14 = .ok (.aload_n 0, 1) := by decide +kernel
theorem dX3_go_15 : decode cX3_go 15 = .ok (.getfield 28, 3) := by decide +kernel
theorem dX3_go_18 : decode cX3_go 18 = .ok (.iload_n 1, 1) := by decide +kernel
theorem dX3_go_19 : decode cX3_go 19 = .ok (.iconst 1, 1) := by decide +kernel
theorem dX3_go_20 : decode cX3_go 20 = .ok (.iastore, 1) := by decide +kernel
theorem dX3_go_21 : decode cX3_go 21 = .ok (.return_, 1) := by decide +kernel
theorem dX3_close_0 : decode cX3_close 0 = .ok (.iconst 0, 1) := by decide +kernel
theorem dX3_close_1 : decode cX3_close 1 = .ok (.istore 4, 2) := by decide +kernel
theorem dX3_close_3 : decode cX3_close 3 = .ok (.iload 4, 2) := by decide +kernel
theorem dX3_close_5 : decode cX3_close 5 = .ok (.iload_n 1, 1) := by decide +kernel
theorem dX3_close_6 : decode cX3_close 6 = .ok (.if_icmp .ge 78, 3) := by decide +kernel
theorem dX3_close_9 : decode cX3_close 9 = .ok (.iload_n 2, 1) := by decide +kernel
theorem dX3_close_10 : decode cX3_close 10 = .ok (.iload 4, 2) := by decide +kernel
theorem dX3_close_12 : decode cX3_close 12 = .ok (.ishr, 1) := by decide +kernel
theorem dX3_close_13 : decode cX3_close 13 = .ok (.iconst 1, 1) := by decide +kernel
theorem dX3_close_14 : decode cX3_close 14 = .ok (.iand, 1) := by decide +kernel
theorem dX3_close_15 : decode cX3_close 15 = .ok (.iconst 1, 1) := by decide +kernel
theorem dX3_close_16 : decode cX3_close 16 = .ok (.if_icmp .ne 13, 3) := by decide +kernel
theorem dX3_close_19 : decode cX3_close 19 = .ok (.aload_n 0, 1) := by decide +kernel
theorem dX3_close_20 : decode cX3_close 20 = .ok (.iload 4, 2) := by decide +kernel
theorem dX3_close_22 : decode cX3_close 22 = .ok (.iconst 1, 1) := by decide +kernel
theorem dX3_close_23 : decode cX3_close 23 = .ok (.invokevirtual 31, 3) := by decide +kernel
theorem dX3_close_26 : decode cX3_close 26 = .ok (.goto 44, 3) := by decide +kernel
theorem dX3_close_29 : decode cX3_close 29 = .ok (.iload_n 3, 1) := by decide +kernel
theorem dX3_close_30 : decode cX3_close 30 = .ok (.iload 4, 2) := by decide +kernel
theorem dX3_close_32 : decode cX3_close 32 = .ok (.ishr, 1) := by decide +kernel
theorem dX3_close_33 : decode cX3_close 33 = .ok (.iconst 1, 1) := by decide +kernel
theorem dX3_close_34 : decode cX3_close 34 = .ok (.iand, 1) := by decide +kernel
theorem dX3_close_35 : decode cX3_close 35 = .ok (.iconst 1, 1) := by decide +kernel
theorem dX3_close_36 : decode cX3_close 36 = .ok (.if_icmp .ne 13, 3) := by decide +kernel
theorem dX3_close_39 : decode cX3_close 39 = .ok (.aload_n 0, 1) := by decide +kernel
theorem dX3_close_40 : decode cX3_close 40 = .ok (.iload 4, 2) := by decide +kernel
theorem dX3_close_42 : decode cX3_close 42 = .ok (.iconst 2, 1) := by decide +kernel
theorem dX3_close_43 : decode cX3_close 43 = .ok (.invokevirtual 31, 3) := by decide +kernel
theorem dX3_close_46 : decode cX3_close 46 = .ok (.goto 24, 3) := by decide +kernel
theorem dX3_close_49 : decode cX3_close 49 = .ok (.aload_n 0, 1) := by decide +kernel
theorem dX3_close_50 : decode cX3_close 50 = .ok (.getfield 22, 3) := by decide +kernel
theorem dX3_close_53 : decode cX3_close 53 = .ok (.iload 4, 2) := by decide +kernel
theorem dX3_close_55 : decode cX3_close 55 = .ok (.iaload, 1) := by decide +kernel
theorem dX3_close_56 : decode cX3_close 56 = .ok (.ifCond .ne 14, 3) := by decide +kernel
theorem dX3_close_59 : decode cX3_close 59 = .ok (.aload_n 0, 1) := by decide +kernel
theorem dX3_close_60 : decode cX3_close 60 = .ok (.getfield 19, 3) := by decide +kernel
theorem dX3_close_63 : decode cX3_close 63 = .ok (.iload 4, 2) := by decide +kernel
theorem dX3_close_65 : decode cX3_close 65 = .ok (.dup2, 1) := by decide +kernel
theorem dX3_close_66 : decode cX3_close 66 = .ok (.iaload, 1) := by decide +kernel
theorem dX3_close_67 : decode cX3_close 67 = .ok (.iconst 1, 1) := by decide +kernel
theorem dX3_close_68 : decode cX3_close 68 = .ok (.iadd, 1) := by decide +kernel
theorem dX3_close_69 : decode cX3_close 69 = .ok (.iastore, 1) := by decide +kernel
theorem dX3_close_70 : decode cX3_close 70 = .ok (.aload_n 0, 1) := by decide +kernel
theorem dX3_close_71 : decode cX3_close 71 = .ok (.getfield 28, 3) := by decide +kernel
theorem dX3_close_74 : decode cX3_close 74 = .ok (.iload 4, 2) := by decide +kernel
theorem dX3_close_76 : decode cX3_close 76 = .ok (.iconst 0, 1) := by decide +kernel
theorem dX3_close_77 : decode cX3_close 77 = .ok (.iastore, 1) := by decide +kernel
theorem dX3_close_78 : decode cX3_close 78 = .ok (.iinc 4 1, 3) := by decide +kernel
theorem dX3_close_81 : decode cX3_close 81 = .ok (.goto (-78), 3) := by decide +kernel
theorem dX3_close_84 : decode cX3_close 84 = .ok (.aload_n 0, 1) := by decide +kernel
theorem dX3_close_85 : decode cX3_close 85 = .ok (.dup, 1) := by decide +kernel
theorem dX3_close_86 : decode cX3_close 86 = .ok (.getfield 9, 3) := by decide +kernel
theorem dX3_close_89 : decode cX3_close 89 = .ok (.iconst 1, 1) := by decide +kernel
theorem dX3_close_90 : decode cX3_close 90 = .ok (.iadd, 1) := by decide +kernel
theorem dX3_close_91 : decode cX3_close 91 = .ok (.putfield 9, 3) := by decide +kernel
theorem dX3_close_94 : decode cX3_close 94 = .ok (.return_, 1) := by decide +kernel
theorem dX3_leave_0 : decode cX3_leave 0 = .ok (.aload_n 0, 1) := by decide +kernel
theorem dX3_leave_1 : decode cX3_leave 1 = .ok (.getfield 22, 3) := by decide +kernel
theorem dX3_leave_4 : decode cX3_leave 4 = .ok (.iload_n 1, 1) := by decide +kernel
theorem dX3_leave_5 : decode cX3_leave 5 = .ok (.iload_n 2, 1) := by decide +kernel
theorem dX3_leave_6 : decode cX3_leave 6 = .ok (.iastore, 1) := by decide +kernel
theorem dX3_leave_7 : decode cX3_leave 7 = .ok (.aload_n 0, 1) := by decide +kernel
theorem dX3_leave_8 : decode cX3_leave 8 = .ok (.getfield 25, 3) := by decide +kernel
theorem dX3_leave_11 : decode cX3_leave 11 = .ok (.iload_n 1, 1) := by decide +kernel
theorem dX3_leave_12 : decode cX3_leave 12 = .ok (.aload_n 0, 1) := by decide +kernel
theorem dX3_leave_13 : decode cX3_leave 13 = .ok (.getfield 9, 3) := by decide +kernel
theorem dX3_leave_16 : decode cX3_leave 16 = .ok (.iastore, 1) := by decide +kernel
theorem dX3_leave_17 : decode cX3_leave 17 = .ok (.return_, 1) := by decide +kernel
theorem dX3_take_0 : decode cX3_take 0 = .ok (.aload_n 0, 1) := by decide +kernel
theorem dX3_take_1 : decode cX3_take 1 = .ok (.aload_n 1, 1) := by decide +kernel
theorem dX3_take_2 : decode cX3_take 2 = .ok (.getfield 9, 3) := by decide +kernel
theorem dX3_take_5 : decode cX3_take 5 = .ok (.putfield 9, 3) := by decide +kernel
theorem dX3_take_8 : decode cX3_take 8 = .ok (.aload_n 1, 1) := by decide +kernel
theorem dX3_take_9 : decode cX3_take 9 = .ok (.getfield 15, 3) := by decide +kernel
theorem dX3_take_12 : decode cX3_take 12 = .ok (.iconst 0, 1) := by decide +kernel
theorem dX3_take_13 : decode cX3_take 13 = .ok (.aload_n 0, 1) := by decide +kernel
theorem dX3_take_14 : decode cX3_take 14 = .ok (.getfield 15, 3) := by decide +kernel
theorem dX3_take_17 : decode cX3_take 17 = .ok (.iconst 0, 1) := by decide +kernel
theorem dX3_take_18 : decode cX3_take 18 = .ok (.bipush 6, 2) := by decide +kernel
theorem dX3_take_20 : decode cX3_take 20 = .ok (.invokestatic 35, 3) := by decide +kernel
theorem dX3_take_23 : decode cX3_take 23 = .ok (.aload_n 1, 1) := by decide +kernel
theorem dX3_take_24 : decode cX3_take 24 = .ok (.getfield 19, 3) := by decide +kernel
theorem dX3_take_27 : decode cX3_take 27 = .ok (.iconst 0, 1) := by decide +kernel
theorem dX3_take_28 : decode cX3_take 28 = .ok (.aload_n 0, 1) := by decide +kernel
theorem dX3_take_29 : decode cX3_take 29 = .ok (.getfield 19, 3) := by decide +kernel
theorem dX3_take_32 : decode cX3_take 32 = .ok (.iconst 0, 1) := by decide +kernel
theorem dX3_take_33 : decode cX3_take 33 = .ok (.bipush 6, 2) := by decide +kernel
theorem dX3_take_35 : decode cX3_take 35 = .ok (.invokestatic 35, 3) := by decide +kernel
theorem dX3_take_38 : decode cX3_take 38 = .ok (.aload_n 1, 1) := by decide +kernel
theorem dX3_take_39 : decode cX3_take 39 = .ok (.getfield 22, 3) := by decide +kernel
theorem dX3_take_42 : decode cX3_take 42 = .ok (.iconst 0, 1) := by decide +kernel
theorem dX3_take_43 : decode cX3_take 43 = .ok (.aload_n 0, 1) := by decide +kernel
theorem dX3_take_44 : decode cX3_take 44 = .ok (.getfield 22, 3) := by decide +kernel
theorem dX3_take_47 : decode cX3_take 47 = .ok (.iconst 0, 1) := by decide +kernel
theorem dX3_take_48 : decode cX3_take 48 = .ok (.bipush 6, 2) := by decide +kernel
theorem dX3_take_50 : decode cX3_take 50 = .ok (.invokestatic 35, 3) := by decide +kernel
theorem dX3_take_53 : decode cX3_take 53 = .ok (.aload_n 1, 1) := by decide +kernel
theorem dX3_take_54 : decode cX3_take 54 = .ok (.getfield 25, 3) := by decide +kernel
theorem dX3_take_57 : decode cX3_take 57 = .ok (.iconst 0, 1) := by decide +kernel
theorem dX3_take_58 : decode cX3_take 58 = .ok (.aload_n 0, 1) := by decide +kernel
theorem dX3_take_59 : decode cX3_take 59 = .ok (.getfield 25, 3) := by decide +kernel
theorem dX3_take_62 : decode cX3_take 62 = .ok (.iconst 0, 1) := by decide +kernel
theorem dX3_take_63 : decode cX3_take 63 = .ok (.bipush 6, 2) := by decide +kernel
theorem dX3_take_65 : decode cX3_take 65 = .ok (.invokestatic 35, 3) := by decide +kernel
theorem dX3_take_68 : decode cX3_take 68 = .ok (.aload_n 1, 1) := by decide +kernel
theorem dX3_take_69 : decode cX3_take 69 = .ok (.getfield 28, 3) := by decide +kernel
theorem dX3_take_72 : decode cX3_take 72 = .ok (.iconst 0, 1) := by decide +kernel
theorem dX3_take_73 : decode cX3_take 73 = .ok (.aload_n 0, 1) := by decide +kernel
theorem dX3_take_74 : decode cX3_take 74 = .ok (.getfield 28, 3) := by decide +kernel
theorem dX3_take_77 : decode cX3_take 77 = .ok (.iconst 0, 1) := by decide +kernel
theorem dX3_take_78 : decode cX3_take 78 = .ok (.bipush 6, 2) := by decide +kernel
theorem dX3_take_80 : decode cX3_take 80 = .ok (.invokestatic 35, 3) := by decide +kernel
theorem dX3_take_83 : decode cX3_take 83 = .ok (.return_, 1) := by decide +kernel
theorem dX4_init_0 : decode cX4_init 0 = .ok (.aload_n 0, 1) := by decide +kernel
theorem dX4_init_1 : decode cX4_init 1 = .ok (.invokespecial 3, 3) := by decide +kernel
theorem dX4_init_4 : decode cX4_init 4 = .ok (.aload_n 0, 1) := by decide +kernel
theorem dX4_init_5 : decode cX4_init 5 = .ok (.iconst 0, 1) := by decide +kernel
theorem dX4_init_6 : decode cX4_init 6 = .ok (.newarray .byte, 2) := by decide +kernel
theorem dX4_init_8 : decode cX4_init 8 = .ok (.putfield 9, 3) := by decide +kernel
theorem dX4_init_11 : decode cX4_init 11 = .ok (.aload_n 0, 1) := by decide +kernel
theorem dX4_init_12 : decode cX4_init 12 = .ok (.iconst 0, 1) := by decide +kernel
theorem dX4_init_13 : decode cX4_init 13 = .ok (.putfield 15, 3) := by decide +kernel
theorem dX4_init_16 : decode cX4_init 16 = .ok (.aload_n 0, 1) := by decide +kernel
theorem dX4_init_17 : decode cX4_init 17 = .ok (.iconst 0, 1) := by decide +kernel
theorem dX4_init_18 : decode cX4_init 18 = .ok (.putfield 19, 3) := by decide +kernel
theorem dX4_init_21 : decode cX4_init 21 = .ok (.aload_n 0, 1) := by decide +kernel
theorem dX4_init_22 : decode cX4_init 22 = .ok (.iconst 0, 1) := by decide +kernel
theorem dX4_init_23 : decode cX4_init 23 = .ok (.putfield 22, 3) := by decide +kernel
theorem dX4_init_26 : decode cX4_init 26 = .ok (.aload_n 0, 1) := by decide +kernel
theorem dX4_init_27 : decode cX4_init 27 = .ok (.iconst 0, 1) := by decide +kernel
theorem dX4_init_28 : decode cX4_init 28 = .ok (.putfield 25, 3) := by decide +kernel
theorem dX4_init_31 : decode cX4_init 31 = .ok (.aload_n 0, 1) := by decide +kernel
theorem dX4_init_32 : decode cX4_init 32 = .ok (.iconst 0, 1) := by decide +kernel
theorem dX4_init_33 : decode cX4_init 33 = .ok (.putfield 28, 3) := by decide +kernel
theorem dX4_init_36 : decode cX4_init 36 = .ok (.aload_n 0, 1) := by decide +kernel
theorem dX4_init_37 : decode cX4_init 37 = .ok (.iconst (-1), 1) := by decide +kernel
theorem dX4_init_38 : decode cX4_init 38 = .ok (.putfield 31, 3) := by decide +kernel
theorem dX4_init_41 : decode cX4_init 41 = .ok (.aload_n 0, 1) := by decide +kernel
theorem dX4_init_42 : decode cX4_init 42 = .ok (.iconst 0, 1) := by decide +kernel
theorem dX4_init_43 : decode cX4_init 43 = .ok (.putfield 34, 3) := by decide +kernel
theorem dX4_init_46 : decode cX4_init 46 = .ok (.return_, 1) := by decide +kernel
theorem dX4_readInto_0 : decode cX4_readInto 0 = .ok (.aload_n 0, 1) := by decide +kernel
theorem dX4_readInto_1 : decode cX4_readInto 1 = .ok (.aload_n 2, 1) := by decide +kernel
theorem dX4_readInto_2 : decode cX4_readInto 2 = .ok (.putfield 9, 3) := by decide +kernel
theorem dX4_readInto_5 : decode cX4_readInto 5 = .ok (.aload_n 0, 1) := by decide +kernel
theorem dX4_readInto_6 : decode cX4_readInto 6 = .ok (.iload_n 3, 1) := by decide +kernel
theorem dX4_readInto_7 : decode cX4_readInto 7 = .ok (.aload_n 2, 1) := by decide +kernel
theorem dX4_readInto_8 : decode cX4_readInto 8 = .ok (.arraylength, 1) := by decide +kernel
theorem dX4_readInto_9 : decode cX4_readInto 9 = .ok (.invokestatic 37, 3) := by decide +kernel
theorem dX4_readInto_12 : decode cX4_readInto 12 = .ok (.putfield 15, 3) := by decide +kernel
theorem dX4_readInto_15 : decode cX4_readInto 15 = .ok (.aload_n 0, 1) := by decide +kernel
theorem dX4_readInto_16 : decode cX4_readInto 16 = .ok (.iconst 0, 1) := by decide +kernel
theorem dX4_readInto_17 : decode cX4_readInto 17 = .ok (.putfield 19, 3) := by decide +kernel
theorem dX4_readInto_20 : decode cX4_readInto 20 = .ok (.aload_n 0, 1) := by decide +kernel
theorem dX4_readInto_21 : decode cX4_readInto 21 = .ok (.iconst (-1), 1) := by decide +kernel
theorem dX4_readInto_22 : decode cX4_readInto 22 = .ok (.putfield 31, 3) := by decide +kernel
theorem dX4_readInto_25 : decode cX4_readInto 25 = .ok (.aload_n 0, 1) := by decide +kernel
theorem dX4_readInto_26 : decode cX4_readInto 26 = .ok (.iconst 0, 1) := by decide +kernel
theorem dX4_readInto_27 : decode cX4_readInto 27 = .ok (.putfield 34, 3) := by decide +kernel
theorem dX4_readInto_30 : decode cX4_readInto 30 = .ok (.aload_n 0, 1) := by decide +kernel
theorem dX4_readInto_31 : decode cX4_readInto 31 = .ok (.invokevirtual 43, 3) := by decide +kernel
theorem dX4_readInto_34 : decode cX4_readInto 34 = .ok (.iconst 0, 1) := by decide +kernel
theorem dX4_readInto_35 : decode cX4_readInto 35 = .ok (.istore 4, 2) := by decide +kernel
theorem dX4_readInto_37 : decode cX4_readInto 37 = .ok (.iload 4, 2) := by decide +kernel
theorem dX4_readInto_39 : decode cX4_readInto 39 = .ok (.sipush 150, 3) := by decide +kernel
theorem dX4_readInto_42 : decode cX4_readInto 42 = .ok (.if_icmp .ge 21, 3) := by decide +kernel
theorem dX4_readInto_45 : decode cX4_readInto 45 = .ok (.aload_n 0, 1) := by decide +kernel
theorem dX4_readInto_46 : decode cX4_readInto 46 = .ok (.invokevirtual 46, 3) := by decide +kernel
theorem dX4_readInto_49 : decode cX4_readInto 49 = .ok (.ifCond .eq 14, 3) := by decide +kernel
theorem dX4_readInto_52 : decode cX4_readInto 52 = .ok (.aload_n 0, 1) := by decide +kernel
theorem dX4_readInto_53 : decode cX4_readInto 53 = .ok (.aload_n 1, 1) := by decide +kernel
theorem dX4_readInto_54 : decode cX4_readInto 54 = .ok (.invokevirtual 50, 3) := by decide +kernel
theorem dX4_readInto_57 : decode cX4_readInto 57 = .ok (.iinc 4 1, 3) := by decide +kernel
theorem dX4_readInto_60 : decode cX4_readInto 60 = .ok (.goto (-23), 3) := by decide +kernel
theorem dX4_readInto_63 : decode cX4_readInto 63 = .ok (.aload_n 0, 1) := by decide +kernel
theorem dX4_readInto_64 : decode cX4_readInto 64 = .ok (.getfield 31, 3) := by decide +kernel
theorem dX4_readInto_67 : decode cX4_readInto 67 = .ok (.iconst (-1), 1) := by decide +kernel
theorem dX4_readInto_68 : decode cX4_readInto 68 = .ok (.if_icmp .ne 10, 3) := by decide +kernel
theorem dX4_readInto_71 : decode cX4_readInto 71 = .ok (.aload_n 0, 1) := by decide +kernel
theorem dX4_readInto_72 : decode cX4_readInto 72 = .ok (.getfield 34, 3) := by decide +kernel
theorem dX4_readInto_75 : decode cX4_readInto 75 = .ok (.goto 10, 3) := by decide +kernel
theorem dX4_readInto_78 : decode cX4_readInto 78 = .ok (.bipush (-10), 2) := by decide +kernel
theorem dX4_readInto_80 : decode cX4_readInto 80 = .ok (.aload_n 0, 1) := by decide +kernel
theorem dX4_readInto_81 : decode cX4_readInto 81 = .ok (.getfield 31, 3) := by decide +kernel
theorem dX4_readInto_84 : decode cX4_readInto 84 = .ok (.isub, 1) := by decide +kernel
theorem dX4_readInto_85 : decode cX4_readInto 85 = .ok (.ireturn, 1) := by decide +kernel
theorem dX4_goesOn_0 : decode cX4_goesOn 0 = .ok (.aload_n 0, 1) := by decide +kernel
theorem dX4_goesOn_1 : decode cX4_goesOn 1 = .ok (.getfield 31, 3) := by decide +kernel
theorem dX4_goesOn_4 : decode cX4_goesOn 4 = .ok (.iconst (-1), 1) := by decide +kernel
theorem dX4_goesOn_5 : decode cX4_goesOn 5 = .ok (.if_icmp .ne 21, 3) := by decide +kernel
theorem dX4_goesOn_8 : decode cX4_goesOn 8 = .ok (.aload_n 0, 1) := by decide +kernel
theorem dX4_goesOn_9 : decode cX4_goesOn 9 = .ok (.getfield 34, 3) := by decide +kernel
theorem dX4_goesOn_12 : decode cX4_goesOn 12 = .ok (.ifCond .eq 10, 3) := by decide +kernel
theorem dX4_goesOn_15 : decode cX4_goesOn 15 = .ok (.aload_n 0, 1) := by decide +kernel
theorem dX4_goesOn_16 : decode cX4_goesOn 16 = .ok (.getfield 25, 3) := by decide +kernel
theorem dX4_goesOn_19 : decode cX4_goesOn 19 = .ok (.ifCond .eq 7, 3) := by decide +kernel
theorem dX4_goesOn_22 : decode cX4_goesOn 22 = .ok (.iconst 1, 1) := by decide +kernel
theorem dX4_goesOn_23 : decode cX4_goesOn 23 = .ok (.goto 4, 3) := by decide +kernel
theorem dX4_goesOn_26 : decode cX4_goesOn 26 = .ok (.iconst 0, 1) := by decide +kernel
theorem dX4_goesOn_27 : decode cX4_goesOn 27 = .ok (.ireturn, 1) := by decide +kernel
theorem dX4_takeItem_0 : decode cX4_takeItem 0 = .ok (.aload_n 0, 1) := by decide +kernel
theorem dX4_takeItem_1 : decode cX4_takeItem 1 = .ok (.getfield 34, 3) := by decide +kernel
theorem dX4_takeItem_4 : decode cX4_takeItem 4 = .ok (.ifCond .ne 11, 3) := by decide +kernel
theorem dX4_takeItem_7 : decode cX4_takeItem 7 = .ok (.aload_n 0, 1) := by decide +kernel
theorem dX4_takeItem_8 : decode cX4_takeItem 8 = .ok (.aload_n 1, 1) := by decide +kernel
theorem dX4_takeItem_9 : decode cX4_takeItem 9 = .ok (.invokevirtual 54, 3) := by decide +kernel
theorem dX4_takeItem_12 : decode cX4_takeItem 12 = .ok (.goto 88, 3) := by decide +kernel
theorem dX4_takeItem_15 : decode cX4_takeItem 15 = .ok (.aload_n 0, 1) := by decide +kernel
theorem dX4_takeItem_16 : decode cX4_takeItem 16 = .ok (.ldc 57, 2) := by decide +kernel
theorem dX4_takeItem_18 : decode cX4_takeItem 18 = .ok (.invokevirtual 59, 3) := by decide +kernel
theorem dX4_takeItem_21 : decode cX4_takeItem 21 = .ok (.ifCond .eq 11, 3) := by decide +kernel
theorem dX4_takeItem_24 : decode cX4_takeItem 24 = .ok (.aload_n 0, 1) := by decide +kernel
theorem dX4_takeItem_25 : decode cX4_takeItem 25 = .ok (.aload_n 1, 1) := by decide +kernel
theorem dX4_takeItem_26 : decode cX4_takeItem 26 = .ok (.invokevirtual 63, 3) := by decide +kernel
theorem dX4_takeItem_29 : decode cX4_takeItem 29 = .ok (.goto 71, 3) := by decide +kernel
theorem dX4_takeItem_32 : decode cX4_takeItem 32 = .ok (.aload_n 0, 1) := by decide +kernel
theorem dX4_takeItem_33 : decode cX4_takeItem 33 = .ok (.ldc 66, 2) := by decide +kernel
theorem dX4_takeItem_35 : decode cX4_takeItem 35 = .ok (.invokevirtual 59, 3) := by decide +kernel
theorem dX4_takeItem_38 : decode cX4_takeItem 38 = .ok (.ifCond .eq 11, 3) := by decide +kernel
theorem dX4_takeItem_41 : decode cX4_takeItem 41 = .ok (.aload_n 0, 1) := by decide +kernel
theorem dX4_takeItem_42 : decode cX4_takeItem 42 = .ok (.aload_n 1, 1) := by decide +kernel
theorem dX4_takeItem_43 : decode cX4_takeItem 43 = .ok (.invokevirtual 68, 3) := by decide +kernel
theorem dX4_takeItem_46 : decode cX4_takeItem 46 = .ok (.goto 54, 3) := by decide +kernel
theorem dX4_takeItem_49 : decode cX4_takeItem 49 = .ok (.aload_n 0, 1) := by decide +kernel
theorem dX4_takeItem_50 : decode cX4_takeItem 50 = .ok (.ldc 71, 2) := by decide +kernel
theorem dX4_takeItem_52 : decode cX4_takeItem 52 = .ok (.invokevirtual 59, 3) := by decide +kernel
theorem dX4_takeItem_55 : decode cX4_takeItem 55 = .ok (.ifCond .eq 11, 3) := by decide +kernel
theorem dX4_takeItem_58 : decode cX4_takeItem 58 = .ok (.aload_n 0, 1) := by decide +kernel
theorem dX4_takeItem_59 : decode cX4_takeItem 59 = .ok (.aload_n 1, 1) := by decide +kernel
theorem dX4_takeItem_60 : decode cX4_takeItem 60 = .ok (.invokevirtual 73, 3) := by decide +kernel
theorem dX4_takeItem_63 : decode cX4_takeItem 63 = .ok (.goto 37, 3) := by decide +kernel
theorem dX4_takeItem_66 : decode cX4_takeItem 66 = .ok (.aload_n 0, 1) := by decide +kernel
theorem dX4_takeItem_67 : decode cX4_takeItem 67 = .ok (.ldc 76, 2) := by decide +kernel
theorem dX4_takeItem_69 : decode cX4_takeItem 69 = .ok (.invokevirtual 59, 3) := by decide +kernel
theorem dX4_takeItem_72 : decode cX4_takeItem 72 = .ok (.ifCond .eq 20, 3) := by decide +kernel
theorem dX4_takeItem_75 : decode cX4_takeItem 75 = .ok (.aload_n 1, 1) := by decide +kernel
theorem dX4_takeItem_76 : decode cX4_takeItem 76 = .ok (.getfield 78, 3) := by decide +kernel
theorem dX4_takeItem_79 : decode cX4_takeItem 79 = .ok (.bipush 6, 2) := by decide +kernel
theorem dX4_takeItem_81 : decode cX4_takeItem 81 = .ok (.if_icmp .ge 11, 3) := by decide +kernel
theorem dX4_takeItem_84 : decode cX4_takeItem 84 = .ok (.aload_n 0, 1) := by decide +kernel
theorem dX4_takeItem_85 : decode cX4_takeItem 85 = .ok (.aload_n 1, 1) := by decide +kernel
theorem dX4_takeItem_86 : decode cX4_takeItem 86 = .ok (.invokevirtual 83, 3) := by decide +kernel
theorem dX4_takeItem_89 : decode cX4_takeItem 89 = .ok (.goto 11, 3) := by decide +kernel
theorem dX4_takeItem_92 : decode cX4_takeItem 92 = .ok (.aload_n 0, 1) := by decide +kernel
theorem dX4_takeItem_93 : decode cX4_takeItem 93 = .ok (.aload_n 0, 1) := by decide +kernel
theorem dX4_takeItem_94 : decode cX4_takeItem 94 = .ok (.getfield 22, 3) := by decide +kernel
theorem dX4_takeItem_97 : decode cX4_takeItem 97 = .ok (.putfield 31, 3) := by decide +kernel
theorem dX4_takeItem_100 : decode cX4_takeItem 100 = .ok (.aload_n 0, 1) := by decide +kernel
theorem dX4_takeItem_101 : decode cX4_takeItem 101 = .ok (.invokevirtual 86, 3) := by decide +kernel
theorem dX4_takeItem_104 : decode cX4_takeItem 104 = .ok (.aload_n 0, 1) := by decide +kernel
theorem dX4_takeItem_105 : decode cX4_takeItem 105 = .ok (.dup, 1) := by decide +kernel
theorem dX4_takeItem_106 : decode cX4_takeItem 106 = .ok (.getfield 34, 3) := by decide +kernel
theorem dX4_takeItem_109 : decode cX4_takeItem 109 = .ok (.iconst 1, 1) := by decide +kernel
theorem dX4_takeItem_110 : decode cX4_takeItem 110 = .ok (.iadd, 1) := by decide +kernel
theorem dX4_takeItem_111 : decode cX4_takeItem 111 = .ok (.putfield 34, 3) := by decide +kernel
theorem dX4_takeItem_114 : decode cX4_takeItem 114 = .ok (.return_, 1) := by decide +kernel
theorem dX4_takeHouse_0 : decode cX4_takeHouse 0 = .ok (.aload_n 0, 1) := by decide +kernel
theorem dX4_takeHouse_1 : decode cX4_takeHouse 1 = .ok (.ldc 89, 2) := by decide +kernel
theorem dX4_takeHouse_3 : decode cX4_takeHouse 3 = .ok (.invokevirtual 59, 3) := by decide +kernel
theorem dX4_takeHouse_6 : decode cX4_takeHouse 6 = .ok (.ifCond .ne 12, 3) := by decide +kernel
theorem dX4_takeHouse_9 : decode cX4_takeHouse 9 = .ok (.aload_n 0, 1) := by decide +kernel
theorem dX4_takeHouse_10 : decode cX4_takeHouse 10 = .ok (.aload_n 0, 1) := by decide +kernel
theorem dX4_takeHouse_11 : decode cX4_takeHouse 11 = .ok (.getfield 22, 3) := by decide +kernel
theorem dX4_takeHouse_14 : decode cX4_takeHouse 14 = .ok (.putfield 31, 3) := by decide +kernel
theorem dX4_takeHouse_17 : decode cX4_takeHouse 17 = .ok (.return_, 1) := by decide +kernel
theorem dX4_takeHouse_18 : decode cX4_takeHouse 18 = .ok (.aload_n 0, 1) := by decide +kernel
theorem dX4_takeHouse_19 : decode cX4_takeHouse 19 = .ok (.invokevirtual 43, 3) := by decide +kernel
theorem dX4_takeHouse_22 : decode cX4_takeHouse 22 = .ok (.aload_n 0, 1) := by decide +kernel
theorem dX4_takeHouse_23 : decode cX4_takeHouse 23 = .ok (.iconst 0, 1) := by decide +kernel
theorem dX4_takeHouse_24 : decode cX4_takeHouse 24 = .ok (.bipush 25, 2) := by decide +kernel
theorem dX4_takeHouse_26 : decode cX4_takeHouse 26 = .ok (.invokevirtual 91, 3) := by decide +kernel
theorem dX4_takeHouse_29 : decode cX4_takeHouse 29 = .ok (.istore_n 2, 1) := by decide +kernel
theorem dX4_takeHouse_30 : decode cX4_takeHouse 30 = .ok (.aload_n 0, 1) := by decide +kernel
theorem dX4_takeHouse_31 : decode cX4_takeHouse 31 = .ok (.iconst 0, 1) := by decide +kernel
theorem dX4_takeHouse_32 : decode cX4_takeHouse 32 = .ok (.bipush 25, 2) := by decide +kernel
theorem dX4_takeHouse_34 : decode cX4_takeHouse 34 = .ok (.invokevirtual 91, 3) := by decide +kernel
theorem dX4_takeHouse_37 : decode cX4_takeHouse 37 = .ok (.istore_n 3, 1) := by decide +kernel
theorem dX4_takeHouse_38 : decode cX4_takeHouse 38 = .ok (.aload_n 0, 1) := by decide +kernel
theorem dX4_takeHouse_39 : decode cX4_takeHouse 39 = .ok (.getfield 31, 3) := by decide +kernel
theorem dX4_takeHouse_42 : decode cX4_takeHouse 42 = .ok (.iconst (-1), 1) := by decide +kernel
theorem dX4_takeHouse_43 : decode cX4_takeHouse 43 = .ok (.if_icmp .ne 9, 3) := by decide +kernel
theorem dX4_takeHouse_46 : decode cX4_takeHouse 46 = .ok (.aload_n 1, 1) := by decide +kernel
theorem dX4_takeHouse_47 : decode cX4_takeHouse 47 = .ok (.iload_n 2, 1) := by decide +kernel
theorem dX4_takeHouse_48 : decode cX4_takeHouse 48 = .ok (.iload_n 3, 1) := by decide +kernel
theorem dX4_takeHouse_49 : decode cX4_takeHouse 49 = .ok (.invokevirtual 94, 3) := by decide +kernel
theorem dX4_takeHouse_52 : decode cX4_takeHouse 52 = .ok (.return_, 1) := by decide +kernel
theorem dX4_takeRoom_0 : decode cX4_takeRoom 0 = .ok (.aload_n 0, 1) := by decide +kernel
theorem dX4_takeRoom_1 : decode cX4_takeRoom 1 = .ok (.invokevirtual 43, 3) := by decide +kernel
theorem dX4_takeRoom_4 : decode cX4_takeRoom 4 = .ok (.aload_n 0, 1) := by decide +kernel
theorem dX4_takeRoom_5 : decode cX4_takeRoom 5 = .ok (.iconst 0, 1) := by decide +kernel
theorem dX4_takeRoom_6 : decode cX4_takeRoom 6 = .ok (.bipush 7, 2) := by decide +kernel
theorem dX4_takeRoom_8 : decode cX4_takeRoom 8 = .ok (.invokevirtual 91, 3) := by decide +kernel
theorem dX4_takeRoom_11 : decode cX4_takeRoom 11 = .ok (.istore_n 2, 1) := by decide +kernel
theorem dX4_takeRoom_12 : decode cX4_takeRoom 12 = .ok (.aload_n 0, 1) := by decide +kernel
theorem dX4_takeRoom_13 : decode cX4_takeRoom 13 = .ok (.iconst 0, 1) := by decide +kernel
theorem dX4_takeRoom_14 : decode cX4_takeRoom 14 = .ok (.bipush 9, 2) := by decide +kernel
theorem dX4_takeRoom_16 : decode cX4_takeRoom 16 = .ok (.invokevirtual 91, 3) := by decide +kernel
theorem dX4_takeRoom_19 : decode cX4_takeRoom 19 = .ok (.istore_n 3, 1) := by decide +kernel
theorem dX4_takeRoom_20 : decode cX4_takeRoom 20 = .ok (.aload_n 0, 1) := by decide +kernel
theorem dX4_takeRoom_21 : decode cX4_takeRoom 21 = .ok (.getfield 31, 3) := by decide +kernel
theorem dX4_takeRoom_24 : decode cX4_takeRoom 24 = .ok (.iconst (-1), 1) := by decide +kernel
theorem dX4_takeRoom_25 : decode cX4_takeRoom 25 = .ok (.if_icmp .ne 10, 3) := by decide +kernel
theorem dX4_takeRoom_28 : decode cX4_takeRoom 28 = .ok (.aload_n 1, 1) := by decide +kernel
theorem dX4_takeRoom_29 : decode cX4_takeRoom 29 = .ok (.getfield 98, 3) := by decide +kernel
theorem dX4_takeRoom_32 : decode cX4_takeRoom 32 = .ok (.iload_n 2, 1) := by decide +kernel
theorem dX4_takeRoom_33 : decode cX4_takeRoom 33 = .ok (.iload_n 3, 1) := by decide +kernel
theorem dX4_takeRoom_34 : decode cX4_takeRoom 34 = .ok (.iastore, 1) := by decide +kernel
theorem dX4_takeRoom_35 : decode cX4_takeRoom 35 = .ok (.return_, 1) := by decide +kernel
theorem dX4_takeDoor_0 : decode cX4_takeDoor 0 = .ok (.aload_n 0, 1) := by decide +kernel
theorem dX4_takeDoor_1 : decode cX4_takeDoor 1 = .ok (.invokevirtual 43, 3) := by decide +kernel
theorem dX4_takeDoor_4 : decode cX4_takeDoor 4 = .ok (.aload_n 0, 1) := by decide +kernel
theorem dX4_takeDoor_5 : decode cX4_takeDoor 5 = .ok (.iconst 0, 1) := by decide +kernel
theorem dX4_takeDoor_6 : decode cX4_takeDoor 6 = .ok (.bipush 7, 2) := by decide +kernel
theorem dX4_takeDoor_8 : decode cX4_takeDoor 8 = .ok (.invokevirtual 91, 3) := by decide +kernel
theorem dX4_takeDoor_11 : decode cX4_takeDoor 11 = .ok (.istore_n 2, 1) := by decide +kernel
theorem dX4_takeDoor_12 : decode cX4_takeDoor 12 = .ok (.aload_n 0, 1) := by decide +kernel
theorem dX4_takeDoor_13 : decode cX4_takeDoor 13 = .ok (.getfield 22, 3) := by decide +kernel
theorem dX4_takeDoor_16 : decode cX4_takeDoor 16 = .ok (.istore_n 3, 1) := by decide +kernel
theorem dX4_takeDoor_17 : decode cX4_takeDoor 17 = .ok (.aload_n 0, 1) := by decide +kernel
theorem dX4_takeDoor_18 : decode cX4_takeDoor 18 = .ok (.iconst 0, 1) := by decide +kernel
theorem dX4_takeDoor_19 : decode cX4_takeDoor 19 = .ok (.bipush 7, 2) := by decide +kernel
theorem dX4_takeDoor_21 : decode cX4_takeDoor 21 = .ok (.invokevirtual 91, 3) := by decide +kernel
theorem dX4_takeDoor_24 : decode cX4_takeDoor 24 = .ok (.istore 4, 2) := by decide +kernel
theorem dX4_takeDoor_26 : decode cX4_takeDoor 26 = .ok (.aload_n 0, 1) := by decide +kernel
theorem dX4_takeDoor_27 : decode cX4_takeDoor 27 = .ok (.getfield 31, 3) := by decide +kernel
theorem dX4_takeDoor_30 : decode cX4_takeDoor 30 = .ok (.iconst (-1), 1) := by decide +kernel
theorem dX4_takeDoor_31 : decode cX4_takeDoor 31 = .ok (.if_icmp .ne 14, 3) := by decide +kernel
theorem dX4_takeDoor_34 : decode cX4_takeDoor 34 = .ok (.iload_n 2, 1) := by decide +kernel
theorem dX4_takeDoor_35 : decode cX4_takeDoor 35 = .ok (.iload 4, 2) := by decide +kernel
theorem dX4_takeDoor_37 : decode cX4_takeDoor 37 = .ok (.if_icmp .ne 8, 3) := by decide +kernel
theorem dX4_takeDoor_40 : decode cX4_takeDoor 40 = .ok (.aload_n 0, 1) := by decide +kernel
theorem dX4_takeDoor_41 : decode cX4_takeDoor 41 = .ok (.iload_n 3, 1) := by decide +kernel
theorem dX4_takeDoor_42 : decode cX4_takeDoor 42 = .ok (.putfield 31, 3) := by decide +kernel
theorem dX4_takeDoor_45 : decode cX4_takeDoor 45 = .ok (.aload_n 0, 1) := by decide +kernel
theorem dX4_takeDoor_46 : decode cX4_takeDoor 46 = .ok (.iconst 1, 1) := by decide +kernel
theorem dX4_takeDoor_47 : decode cX4_takeDoor 47 = .ok (.bipush 9, 2) := by decide +kernel
theorem dX4_takeDoor_49 : decode cX4_takeDoor 49 = .ok (.invokevirtual 91, 3) := by decide +kernel
theorem dX4_takeDoor_52 : decode cX4_takeDoor 52 = .ok (.istore 5, 2) := by decide +kernel
theorem dX4_takeDoor_54 : decode cX4_takeDoor 54 = .ok (.aload_n 0, 1) := by decide +kernel
theorem dX4_takeDoor_55 : decode cX4_takeDoor 55 = .ok (.getfield 31, 3) := by decide +kernel
theorem dX4_takeDoor_58 : decode cX4_takeDoor 58 = .ok (.iconst (-1), 1) := by decide +kernel
theorem dX4_takeDoor_59 : decode cX4_takeDoor 59 = .ok (.if_icmp .ne 12, 3) := by decide +kernel
theorem dX4_takeDoor_62 : decode cX4_takeDoor 62 = .ok (.aload_n 1, 1) := by decide +kernel
theorem dX4_takeDoor_63 : decode cX4_takeDoor 63 = .ok (.iload_n 2, 1) := by decide +kernel
theorem dX4_takeDoor_64 : decode cX4_takeDoor 64 = .ok (.iload 4, 2) := by decide +kernel
theorem dX4_takeDoor_66 : decode cX4_takeDoor 66 = .ok (.iload 5, 2) := by decide +kernel
theorem dX4_takeDoor_68 : decode cX4_takeDoor 68 = .ok (.invokevirtual 102, 3) := by decide +kernel
theorem dX4_takeDoor_71 : decode cX4_takeDoor 71 = .ok (.return_, 1) := by decide +kernel
theorem dX4_takeList_0 : decode cX4_takeList 0 = .ok (.aload_n 0, 1) := by decide +kernel
theorem dX4_takeList_1 : decode cX4_takeList 1 = .ok (.invokevirtual 43, 3) := by decide +kernel
theorem dX4_takeList_4 : decode cX4_takeList 4 = .ok (.iconst 0, 1) := by decide +kernel
theorem dX4_takeList_5 : decode cX4_takeList 5 = .ok (.istore_n 2, 1) := by decide +kernel
theorem dX4_takeList_6 : decode cX4_takeList 6 = .ok (.iload_n 2, 1) := by decide +kernel
theorem dX4_takeList_7 : decode cX4_takeList 7 = .ok (.bipush 12, 2) := by decide +kernel
theorem dX4_takeList_9 : decode cX4_takeList 9 = .ok (.if_icmp .ge 52, 3) := by decide +kernel
theorem dX4_takeList_12 : decode cX4_takeList 12 = .ok (.iload_n 2, 1) := by decide +kernel
theorem dX4_takeList_13 : decode cX4_takeList 13 = .ok (.ifCond .eq 11, 3) := by decide +kernel
theorem dX4_takeList_16 : decode cX4_takeList 16 = .ok (.aload_n 0, 1) := by decide +kernel
theorem dX4_takeList_17 : decode cX4_takeList 17 = .ok (.getfield 25, 3) := by decide +kernel
theorem dX4_takeList_20 : decode cX4_takeList 20 = .ok (.iconst 2, 1) := by decide +kernel
theorem dX4_takeList_21 : decode cX4_takeList 21 = .ok (.if_icmp .ne 40, 3) := by decide +kernel
theorem dX4_takeList_24 : decode cX4_takeList 24 = .ok (.aload_n 0, 1) := by decide +kernel
theorem dX4_takeList_25 : decode cX4_takeList 25 = .ok (.iconst 0, 1) := by decide +kernel
theorem dX4_takeList_26 : decode cX4_takeList 26 = .ok (.bipush 7, 2) := by decide +kernel
theorem dX4_takeList_28 : decode cX4_takeList 28 = .ok (.invokevirtual 91, 3) := by decide +kernel
theorem dX4_takeList_31 : decode cX4_takeList 31 = .ok (.istore_n 3, 1) := by decide +kernel
theorem dX4_takeList_32 : decode cX4_takeList 32 = .ok (.aload_n 0, 1) := by decide +kernel
theorem dX4_takeList_33 : decode cX4_takeList 33 = .ok (.getfield 31, 3) := by decide +kernel
theorem dX4_takeList_36 : decode cX4_takeList 36 = .ok (.iconst (-1), 1) := by decide +kernel
theorem dX4_takeList_37 : decode cX4_takeList 37 = .ok (.if_icmp .eq 4, 3) := by decide +kernel
theorem dX4_takeList_40 : decode cX4_takeList 40 = .ok (.return_, 1) := by decide +kernel
theorem dX4_takeList_41 : decode cX4_takeList 41 = .ok (.aload_n 1, 1) := by decide +kernel
theorem dX4_takeList_42 : decode cX4_takeList 42 = .ok (.getfield 106, 3) := by decide +kernel
theorem dX4_takeList_45 : decode cX4_takeList 45 = .ok (.iload_n 2, 1) := by decide +kernel
theorem dX4_takeList_46 : decode cX4_takeList 46 = .ok (.iload_n 3, 1) := by decide +kernel
theorem dX4_takeList_47 : decode cX4_takeList 47 = .ok (.iastore, 1) := by decide +kernel
theorem dX4_takeList_48 : decode cX4_takeList 48 = .ok (.aload_n 1, 1) := by decide +kernel
theorem dX4_takeList_49 : decode cX4_takeList 49 = .ok (.iload_n 2, 1) := by decide +kernel
theorem dX4_takeList_50 : decode cX4_takeList 50 = .ok (.iconst 1, 1) := by decide +kernel
theorem dX4_takeList_51 : decode cX4_takeList 51 = .ok (.iadd, 1) := by decide +kernel
theorem dX4_takeList_52 : decode cX4_takeList 52 = .ok (.putfield 109, 3) := by decide +kernel
theorem dX4_takeList_55 : decode cX4_takeList 55 = .ok (.iinc 2 1, 3) := by decide +kernel
theorem dX4_takeList_58 : decode cX4_takeList 58 = .ok (.goto (-52), 3) := by decide +kernel
theorem dX4_takeList_61 : decode cX4_takeList 61 = .ok (.return_, 1) := by decide +kernel
theorem dX4_takeHeir_0 : decode cX4_takeHeir 0 = .ok (.aload_n 0, 1) := by decide +kernel
theorem dX4_takeHeir_1 : decode cX4_takeHeir 1 = .ok (.invokevirtual 43, 3) := by decide +kernel
theorem dX4_takeHeir_4 : decode cX4_takeHeir 4 = .ok (.aload_n 0, 1) := by decide +kernel
theorem dX4_takeHeir_5 : decode cX4_takeHeir 5 = .ok (.iconst 0, 1) := by decide +kernel
theorem dX4_takeHeir_6 : decode cX4_takeHeir 6 = .ok (.iconst 5, 1) := by decide +kernel
theorem dX4_takeHeir_7 : decode cX4_takeHeir 7 = .ok (.invokevirtual 91, 3) := by decide +kernel
theorem dX4_takeHeir_10 : decode cX4_takeHeir 10 = .ok (.istore_n 2, 1) := by decide +kernel
theorem dX4_takeHeir_11 : decode cX4_takeHeir 11 = .ok (.aload_n 0, 1) := by decide +kernel
theorem dX4_takeHeir_12 : decode cX4_takeHeir 12 = .ok (.iconst 0, 1) := by decide +kernel
theorem dX4_takeHeir_13 : decode cX4_takeHeir 13 = .ok (.bipush 7, 2) := by decide +kernel
theorem dX4_takeHeir_15 : decode cX4_takeHeir 15 = .ok (.invokevirtual 91, 3) := by decide +kernel
theorem dX4_takeHeir_18 : decode cX4_takeHeir 18 = .ok (.istore_n 3, 1) := by decide +kernel
theorem dX4_takeHeir_19 : decode cX4_takeHeir 19 = .ok (.aload_n 0, 1) := by decide +kernel
theorem dX4_takeHeir_20 : decode cX4_takeHeir 20 = .ok (.iconst 0, 1) := by decide +kernel
theorem dX4_takeHeir_21 : decode cX4_takeHeir 21 = .ok (.bipush 9, 2) := by decide +kernel
theorem dX4_takeHeir_23 : decode cX4_takeHeir 23 = .ok (.invokevirtual 91, 3) := by decide +kernel
theorem dX4_takeHeir_26 : decode cX4_takeHeir 26 = .ok (.istore 4, 2) := by decide +kernel
theorem dX4_takeHeir_28 : decode cX4_takeHeir 28 = .ok (.aload_n 0, 1) := by decide +kernel
theorem dX4_takeHeir_29 : decode cX4_takeHeir 29 = .ok (.getfield 31, 3) := by decide +kernel
theorem dX4_takeHeir_32 : decode cX4_takeHeir 32 = .ok (.iconst (-1), 1) := by decide +kernel
theorem dX4_takeHeir_33 : decode cX4_takeHeir 33 = .ok (.if_icmp .ne 12, 3) := by decide +kernel
theorem dX4_takeHeir_36 : decode cX4_takeHeir 36 = .ok (.aload_n 1, 1) := by decide +kernel
theorem dX4_takeHeir_37 : decode cX4_takeHeir 37 = .ok (.iload_n 2, 1) := by decide +kernel
theorem dX4_takeHeir_38 : decode cX4_takeHeir 38 = .ok (.iload_n 3, 1) := by decide +kernel
theorem dX4_takeHeir_39 : decode cX4_takeHeir 39 = .ok (.iload 4, 2) := by decide +kernel
theorem dX4_takeHeir_41 : decode cX4_takeHeir 41 = .ok (.invokevirtual 112, 3) := by decide +kernel
theorem dX4_takeHeir_44 : decode cX4_takeHeir 44 = .ok (.pop, 1) := by decide +kernel
theorem dX4_takeHeir_45 : decode cX4_takeHeir 45 = .ok (.return_, 1) := by decide +kernel
theorem dX4_takeStop_0 : decode cX4_takeStop 0 = .ok (.aload_n 0, 1) := by decide +kernel
theorem dX4_takeStop_1 : decode cX4_takeStop 1 = .ok (.getfield 31, 3) := by decide +kernel
theorem dX4_takeStop_4 : decode cX4_takeStop 4 = .ok (.iconst (-1), 1) := by decide +kernel
theorem dX4_takeStop_5 : decode cX4_takeStop 5 = .ok (.if_icmp .ne 19, 3) := by decide +kernel
theorem dX4_takeStop_8 : decode cX4_takeStop 8 = .ok (.aload_n 0, 1) := by decide +kernel
theorem dX4_takeStop_9 : decode cX4_takeStop 9 = .ok (.getfield 25, 3) := by decide +kernel
theorem dX4_takeStop_12 : decode cX4_takeStop 12 = .ok (.iconst 3, 1) := by decide +kernel
theorem dX4_takeStop_13 : decode cX4_takeStop 13 = .ok (.if_icmp .eq 11, 3) := by decide +kernel
theorem dX4_takeStop_16 : decode cX4_takeStop 16 = .ok (.aload_n 0, 1) := by decide +kernel
theorem dX4_takeStop_17 : decode cX4_takeStop 17 = .ok (.aload_n 0, 1) := by decide +kernel
theorem dX4_takeStop_18 : decode cX4_takeStop 18 = .ok (.getfield 22, 3) := by decide +kernel
theorem dX4_takeStop_21 : decode cX4_takeStop 21 = .ok (.putfield 31, 3) := by decide +kernel
theorem dX4_takeStop_24 : decode cX4_takeStop 24 = .ok (.aload_n 0, 1) := by decide +kernel
theorem dX4_takeStop_25 : decode cX4_takeStop 25 = .ok (.getfield 31, 3) := by decide +kernel
theorem dX4_takeStop_28 : decode cX4_takeStop 28 = .ok (.iconst (-1), 1) := by decide +kernel
theorem dX4_takeStop_29 : decode cX4_takeStop 29 = .ok (.if_icmp .ne 7, 3) := by decide +kernel
theorem dX4_takeStop_32 : decode cX4_takeStop 32 = .ok (.aload_n 0, 1) := by decide +kernel
theorem dX4_takeStop_33 : decode cX4_takeStop 33 = .ok (.invokevirtual 43, 3) := by decide +kernel
theorem dX4_takeStop_36 : decode cX4_takeStop 36 = .ok (.return_, 1) := by decide +kernel
theorem dX4_number_0 : decode cX4_number 0 = .ok (.aload_n 0, 1) := by decide +kernel
theorem dX4_number_1 : decode cX4_number 1 = .ok (.getfield 31, 3) := by decide +kernel
theorem dX4_number_4 : decode cX4_number 4 = .ok (.iconst (-1), 1) := by decide +kernel
theorem dX4_number_5 : decode cX4_number 5 = .ok (.if_icmp .eq 5, 3) := by decide +kernel
theorem dX4_number_8 : decode cX4_number 8 = .ok (.iconst (-1), 1) := by decide +kernel
theorem dX4_number_9 : decode cX4_number 9 = .ok (.ireturn, 1) := by decide +kernel
theorem dX4_number_10 : decode cX4_number 10 = .ok (.aload_n 0, 1) := by decide +kernel
theorem dX4_number_11 : decode cX4_number 11 = .ok (.getfield 25, 3) := by decide +kernel
theorem dX4_number_14 : decode cX4_number 14 = .ok (.iconst 2, 1) := by decide +kernel
theorem dX4_number_15 : decode cX4_number 15 = .ok (.if_icmp .ne 15, 3) := by decide +kernel
theorem dX4_number_18 : decode cX4_number 18 = .ok (.aload_n 0, 1) := by decide +kernel
theorem dX4_number_19 : decode cX4_number 19 = .ok (.getfield 28, 3) := by decide +kernel
theorem dX4_number_22 : decode cX4_number 22 = .ok (.iload_n 1, 1) := by decide +kernel
theorem dX4_number_23 : decode cX4_number 23 = .ok (.iload_n 2, 1) := by decide +kernel
theorem dX4_number_24 : decode cX4_number 24 = .ok (.invokestatic 116, 3) := by decide +kernel
theorem dX4_number_27 : decode cX4_number 27 = .ok (.ifCond .ne 13, 3) := by decide +kernel
theorem dX4_number_30 : decode cX4_number 30 = .ok (.aload_n 0, 1) := by decide +kernel
theorem dX4_number_31 : decode cX4_number 31 = .ok (.aload_n 0, 1) := by decide +kernel
theorem dX4_number_32 : decode cX4_number 32 = .ok (.getfield 22, 3) := by decide +kernel
theorem dX4_number_35 : decode cX4_number 35 = .ok (.putfield 31, 3) := by decide +kernel
theorem dX4_number_38 : decode cX4_number 38 = .ok (.iconst (-1), 1) := by decide +kernel
theorem dX4_number_39 : decode cX4_number 39 = .ok (.ireturn, 1) := by decide +kernel
theorem dX4_number_40 : decode cX4_number 40 = .ok (.aload_n 0, 1) := by decide +kernel
theorem dX4_number_41 : decode cX4_number 41 = .ok (.getfield 28, 3) := by decide +kernel
theorem dX4_number_44 : decode cX4_number 44 = .ok (.istore_n 3, 1) := by decide +kernel
theorem dX4_number_45 : decode cX4_number 45 = .ok (.aload_n 0, 1) := by decide +kernel
theorem dX4_number_46 : decode cX4_number 46 = .ok (.invokevirtual 43, 3) := by decide +kernel
theorem dX4_number_49 : decode cX4_number 49 = .ok (.iload_n 3, 1) := by decide +kernel
theorem dX4_number_50 : decode cX4_number 50 = .ok (.ireturn, 1) := by decide +kernel
theorem dX4_isWord_0 : decode cX4_isWord 0 = .ok (.aload_n 0, 1) := by decide +kernel
theorem dX4_isWord_1 : decode cX4_isWord 1 = .ok (.getfield 25, 3) := by decide +kernel
theorem dX4_isWord_4 : decode cX4_isWord 4 = .ok (.iconst 1, 1) := by decide +kernel
theorem dX4_isWord_5 : decode cX4_isWord 5 = .ok (.if_icmp .ne 19, 3) := by decide +kernel
theorem dX4_isWord_8 : decode cX4_isWord 8 = .ok (.aload_n 0, 1) := by decide +kernel
theorem dX4_isWord_9 : decode cX4_isWord 9 = .ok (.getfield 19, 3) := by decide +kernel
theorem dX4_isWord_12 : decode cX4_isWord 12 = .ok (.aload_n 0, 1) := by decide +kernel
theorem dX4_isWord_13 : decode cX4_isWord 13 = .ok (.getfield 22, 3) := by decide +kernel
theorem dX4_isWord_16 : decode cX4_isWord 16 = .ok (.isub, 1) := by decide +kernel
theorem dX4_isWord_17 : decode cX4_isWord 17 = .ok (.aload_n 1, 1) := by decide +kernel
theorem dX4_isWord_18 : decode cX4_isWord 18 = .ok (.invokevirtual 120, 3) := by decide +kernel
theorem dX4_isWord_21 : decode cX4_isWord 21 = .ok (.if_icmp .eq 5, 3) := by decide +kernel
theorem dX4_isWord_24 : decode cX4_isWord 24 = .ok (.iconst 0, 1) := by decide +kernel
theorem dX4_isWord_25 : decode cX4_isWord 25 = .ok (.ireturn, 1) := by decide +kernel
theorem dX4_isWord_26 : decode cX4_isWord 26 = .ok (.iconst 0, 1) := by decide +kernel
theorem dX4_isWord_27 : decode cX4_isWord 27 = .ok (.istore_n 2, 1) := by decide +kernel
theorem dX4_isWord_28 : decode cX4_isWord 28 = .ok (.iload_n 2, 1) := by decide +kernel
theorem dX4_isWord_29 : decode cX4_isWord 29 = .ok (.aload_n 1, 1) := by decide +kernel
theorem dX4_isWord_30 : decode cX4_isWord 30 = .ok (.invokevirtual 120, 3) := by decide +kernel
theorem dX4_isWord_33 : decode cX4_isWord 33 = .ok (.if_icmp .ge 30, 3) := by decide +kernel
theorem dX4_isWord_36 : decode cX4_isWord 36 = .ok (.aload_n 0, 1) := by decide +kernel
theorem dX4_isWord_37 : decode cX4_isWord 37 = .ok (.getfield 9, 3) := by decide +kernel
theorem dX4_isWord_40 : decode cX4_isWord 40 = .ok (.aload_n 0, 1) := by decide +kernel
theorem dX4_isWord_41 : decode cX4_isWord 41 = .ok (.getfield 22, 3) := by decide +kernel
theorem dX4_isWord_44 : decode cX4_isWord 44 = .ok (.iload_n 2, 1) := by decide +kernel
theorem dX4_isWord_45 : decode cX4_isWord 45 = .ok (.iadd, 1) := by decide +kernel
theorem dX4_isWord_46 : decode cX4_isWord 46 = .ok (.baload, 1) := by decide +kernel
theorem dX4_isWord_47 : decode cX4_isWord 47 = .ok (.aload_n 1, 1) := by decide +kernel
theorem dX4_isWord_48 : decode cX4_isWord 48 = .ok (.iload_n 2, 1) := by decide +kernel
theorem dX4_isWord_49 : decode cX4_isWord 49 = .ok (.invokevirtual 126, 3) := by decide +kernel
theorem dX4_isWord_52 : decode cX4_isWord 52 = .ok (.if_icmp .eq 5, 3) := by decide +kernel
theorem dX4_isWord_55 : decode cX4_isWord 55 = .ok (.iconst 0, 1) := by decide +kernel
theorem dX4_isWord_56 : decode cX4_isWord 56 = .ok (.ireturn, 1) := by decide +kernel
theorem dX4_isWord_57 : decode cX4_isWord 57 = .ok (.iinc 2 1, 3) := by decide +kernel
theorem dX4_isWord_60 : decode cX4_isWord 60 = .ok (.goto (-32), 3) := by decide +kernel
theorem dX4_isWord_63 : decode cX4_isWord 63 = .ok (.iconst 1, 1) := by decide +kernel
theorem dX4_isWord_64 : decode cX4_isWord 64 = .ok (.ireturn, 1) := by decide +kernel
theorem dX4_advance_0 : decode cX4_advance 0 = .ok (.aload_n 0, 1) := by decide +kernel
theorem dX4_advance_1 : decode cX4_advance 1 = .ok (.getfield 19, 3) := by decide +kernel
theorem dX4_advance_4 : decode cX4_advance 4 = .ok (.aload_n 0, 1) := by decide +kernel
theorem dX4_advance_5 : decode cX4_advance 5 = .ok (.getfield 15, 3) := by decide +kernel
theorem dX4_advance_8 : decode cX4_advance 8 = .ok (.if_icmp .ge 30, 3) := by decide +kernel
theorem dX4_advance_11 : decode cX4_advance 11 = .ok (.aload_n 0, 1) := by decide +kernel
theorem dX4_advance_12 : decode cX4_advance 12 = .ok (.getfield 9, 3) := by decide +kernel
theorem dX4_advance_15 : decode cX4_advance 15 = .ok (.aload_n 0, 1) := by decide +kernel
theorem dX4_advance_16 : decode cX4_advance 16 = .ok (.getfield 19, 3) := by decide +kernel
theorem dX4_advance_19 : decode cX4_advance 19 = .ok (.baload, 1) := by decide +kernel
theorem dX4_advance_20 : decode cX4_advance 20 = .ok (.bipush 32, 2) := by decide +kernel
theorem dX4_advance_22 : decode cX4_advance 22 = .ok (.if_icmp .ne 16, 3) := by decide +kernel
theorem dX4_advance_25 : decode cX4_advance 25 = .ok (.aload_n 0, 1) := by decide +kernel
theorem dX4_advance_26 : decode cX4_advance 26 = .ok (.dup, 1) := by decide +kernel
theorem dX4_advance_27 : decode cX4_advance 27 = .ok (.getfield 19, 3) := by decide +kernel
theorem dX4_advance_30 : decode cX4_advance 30 = .ok (.iconst 1, 1) := by decide +kernel
theorem dX4_advance_31 : decode cX4_advance 31 = .ok (.iadd, 1) := by decide +kernel
theorem dX4_advance_32 : decode cX4_advance 32 = .ok (.putfield 19, 3) := by decide +kernel
theorem dX4_advance_35 : decode cX4_advance 35 = .ok (.goto (-35), 3) := by decide +kernel
theorem dX4_advance_38 : decode cX4_advance 38 = .ok (.aload_n 0, 1) := by decide +kernel
theorem dX4_advance_39 : decode cX4_advance 39 = .ok (.aload_n 0, 1) := by decide +kernel
theorem dX4_advance_40 : decode cX4_advance 40 = .ok (.getfield 19, 3) := by decide +kernel
theorem dX4_advance_43 : decode cX4_advance 43 = .ok (.putfield 22, 3) := by decide +kernel
theorem dX4_advance_46 : decode cX4_advance 46 = .ok (.aload_n 0, 1) := by decide +kernel
theorem dX4_advance_47 : decode cX4_advance 47 = .ok (.getfield 19, 3) := by decide +kernel
theorem dX4_advance_50 : decode cX4_advance 50 = .ok (.aload_n 0, 1) := by decide +kernel
theorem dX4_advance_51 : decode cX4_advance 51 = .ok (.getfield 15, 3) := by decide +kernel
theorem dX4_advance_54 : decode cX4_advance 54 = .ok (.if_icmp .lt 11, 3) := by decide +kernel
theorem dX4_advance_57 : decode cX4_advance 57 = .ok (.aload_n 0, 1) := by decide +kernel
theorem dX4_advance_58 : decode cX4_advance 58 = .ok (.iconst 0, 1) := by decide +kernel
theorem dX4_advance_59 : decode cX4_advance 59 = .ok (.putfield 25, 3) := by decide +kernel
theorem dX4_advance_62 : decode cX4_advance 62 = .ok (.goto 203, 3) := by decide +kernel
theorem dX4_advance_65 : decode cX4_advance 65 = .ok (.aload_n 0, 1) := by decide +kernel
theorem dX4_advance_66 : decode cX4_advance 66 = .ok (.getfield 9, 3) := by decide +kernel
theorem dX4_advance_69 : decode cX4_advance 69 = .ok (.aload_n 0, 1) := by decide +kernel
theorem dX4_advance_70 : decode cX4_advance 70 = .ok (.getfield 19, 3) := by decide +kernel
theorem dX4_advance_73 : decode cX4_advance 73 = .ok (.baload, 1) := by decide +kernel
theorem dX4_advance_74 : decode cX4_advance 74 = .ok (.invokestatic 130, 3) := by decide +kernel
theorem dX4_advance_77 : decode cX4_advance 77 = .ok (.ifCond .eq 47, 3) := by decide +kernel
theorem dX4_advance_80 : decode cX4_advance 80 = .ok (.aload_n 0, 1) := by decide +kernel
theorem dX4_advance_81 : decode cX4_advance 81 = .ok (.iconst 1, 1) := by decide +kernel
theorem dX4_advance_82 : decode cX4_advance 82 = .ok (.putfield 25, 3) := by decide +kernel
theorem dX4_advance_85 : decode cX4_advance 85 = .ok (.aload_n 0, 1) := by decide +kernel
theorem dX4_advance_86 : decode cX4_advance 86 = .ok (.getfield 19, 3) := by decide +kernel
theorem dX4_advance_89 : decode cX4_advance 89 = .ok (.aload_n 0, 1) := by decide +kernel
theorem dX4_advance_90 : decode cX4_advance 90 = .ok (.getfield 15, 3) := by decide +kernel
theorem dX4_advance_93 : decode cX4_advance 93 = .ok (.if_icmp .ge 172, 3) := by decide +kernel
theorem dX4_advance_96 : decode cX4_advance 96 = .ok (.aload_n 0, 1) := by decide +kernel
theorem dX4_advance_97 : decode cX4_advance 97 = .ok (.getfield 9, 3) := by decide +kernel
theorem dX4_advance_100 : decode cX4_advance 100 = .ok (.aload_n 0, 1) := by decide +kernel
theorem dX4_advance_101 : decode cX4_advance 101 = .ok (.getfield 19, 3) := by decide +kernel
theorem dX4_advance_104 : decode cX4_advance 104 = .ok (.baload, 1) := by decide +kernel
theorem dX4_advance_105 : decode cX4_advance 105 = .ok (.invokestatic 130, 3) := by decide +kernel
theorem dX4_advance_108 : decode cX4_advance 108 = .ok (.ifCond .eq 157, 3) := by decide +kernel
theorem dX4_advance_111 : decode cX4_advance 111 = .ok (.aload_n 0, 1) := by decide +kernel
theorem dX4_advance_112 : decode cX4_advance 112 = .ok (.dup, 1) := by decide +kernel
theorem dX4_advance_113 : decode cX4_advance 113 = .ok (.getfield 19, 3) := by decide +kernel
theorem dX4_advance_116 : decode cX4_advance 116 = .ok (.iconst 1, 1) := by decide +kernel
theorem dX4_advance_117 : decode cX4_advance 117 = .ok (.iadd, 1) := by decide +kernel
theorem dX4_advance_118 : decode cX4_advance 118 = .ok (.putfield 19, 3) := by decide +kernel
theorem dX4_advance_121 : decode cX4_advance 121 = .ok (.goto (-36), 3) := by decide +kernel
theorem dX4_advance_124 : decode cX4_advance 124 = .ok (.aload_n 0, 1) := by decide +kernel
theorem dX4_advance_125 : decode cX4_advance 125 = .ok (.getfield 9, 3) := by decide +kernel
theorem dX4_advance_128 : decode cX4_advance 128 = .ok (.aload_n 0, 1) := by decide +kernel
theorem dX4_advance_129 : decode cX4_advance 129 = .ok (.getfield 19, 3) := by decide +kernel
theorem dX4_advance_132 : decode cX4_advance 132 = .ok (.baload, 1) := by decide +kernel
theorem dX4_advance_133 : decode cX4_advance 133 = .ok (.invokestatic 134, 3) := by decide +kernel
theorem dX4_advance_136 : decode cX4_advance 136 = .ok (.ifCond .eq 96, 3) := by decide +kernel
theorem dX4_advance_139 : decode cX4_advance 139 = .ok (.aload_n 0, 1) := by decide +kernel
theorem dX4_advance_140 : decode cX4_advance 140 = .ok (.iconst 0, 1) := by decide +kernel
theorem dX4_advance_141 : decode cX4_advance 141 = .ok (.putfield 28, 3) := by decide +kernel
theorem dX4_advance_144 : decode cX4_advance 144 = .ok (.aload_n 0, 1) := by decide +kernel
theorem dX4_advance_145 : decode cX4_advance 145 = .ok (.getfield 19, 3) := by decide +kernel
theorem dX4_advance_148 : decode cX4_advance 148 = .ok (.aload_n 0, 1) := by decide +kernel
theorem dX4_advance_149 : decode cX4_advance 149 = .ok (.getfield 15, 3) := by decide +kernel
theorem dX4_advance_152 : decode cX4_advance 152 = .ok (.if_icmp .ge 55, 3) := by decide +kernel
theorem dX4_advance_155 : decode cX4_advance 155 = .ok (.aload_n 0, 1) := by decide +kernel
theorem dX4_advance_156 : decode cX4_advance 156 = .ok (.getfield 9, 3) := by decide +kernel
theorem dX4_advance_159 : decode cX4_advance 159 = .ok (.aload_n 0, 1) := by decide +kernel
theorem dX4_advance_160 : decode cX4_advance 160 = .ok (.getfield 19, 3) := by decide +kernel
theorem dX4_advance_163 : decode cX4_advance 163 = .ok (.baload, 1) := by decide +kernel
theorem dX4_advance_164 : decode cX4_advance 164 = .ok (.invokestatic 134, 3) := by decide +kernel
theorem dX4_advance_167 : decode cX4_advance 167 = .ok (.ifCond .eq 40, 3) := by decide +kernel
theorem dX4_advance_170 : decode cX4_advance 170 = .ok (.aload_n 0, 1) := by decide +kernel
theorem dX4_advance_171 : decode cX4_advance 171 = .ok (.aload_n 0, 1) := by decide +kernel
theorem dX4_advance_172 : decode cX4_advance 172 = .ok (.getfield 28, 3) := by decide +kernel
theorem dX4_advance_175 : decode cX4_advance 175 = .ok (.bipush 10, 2) := by decide +kernel
theorem dX4_advance_177 : decode cX4_advance 177 = .ok (.imul, 1) := by decide +kernel
theorem dX4_advance_178 : decode cX4_advance 178 = .ok (.aload_n 0, 1) := by decide +kernel
theorem dX4_advance_179 : decode cX4_advance 179 = .ok (.getfield 9, 3) := by decide +kernel
theorem dX4_advance_182 : decode cX4_advance 182 = .ok (.aload_n 0, 1) := by decide +kernel
theorem dX4_advance_183 : decode cX4_advance 183 = .ok (.getfield 19, 3) := by decide +kernel
theorem dX4_advance_186 : decode cX4_advance 186 = .ok (.baload, 1) := by decide +kernel
theorem dX4_advance_187 : decode cX4_advance 187 = .ok (.bipush 48, 2) := by decide +kernel
theorem dX4_advance_189 : decode cX4_advance 189 = .ok (.isub, 1) := by decide +kernel
theorem dX4_advance_190 : decode cX4_advance 190 = .ok (.iadd, 1) := by decide +kernel
theorem dX4_advance_191 : decode cX4_advance 191 = .ok (.putfield 28, 3) := by decide +kernel
theorem dX4_advance_194 : decode cX4_advance 194 = .ok (.aload_n 0, 1) := by decide +kernel
theorem dX4_advance_195 : decode cX4_advance 195 = .ok (.dup, 1) := by decide +kernel
theorem dX4_advance_196 : decode cX4_advance 196 = .ok (.getfield 19, 3) := by decide +kernel
theorem dX4_advance_199 : decode cX4_advance 199 = .ok (.iconst 1, 1) := by decide +kernel
theorem dX4_advance_200 : decode cX4_advance 200 = .ok (.iadd, 1) := by decide +kernel
theorem dX4_advance_201 : decode cX4_advance 201 = .ok (.putfield 19, 3) := by decide +kernel
theorem dX4_advance_204 : decode cX4_advance 204 = .ok (.goto (-60), 3) := by decide +kernel
theorem dX4_advance_207 : decode cX4_advance 207 = .ok (.aload_n 0, 1) := by decide +kernel
theorem dX4_advance_208 : decode cX4_advance 208 = .ok (.aload_n 0, 1) := by decide +kernel
theorem dX4_advance_209 : decode cX4_advance 209 = .ok (.getfield 19, 3) := by decide +kernel
theorem dX4_advance_212 : decode cX4_advance 212 = .ok (.aload_n 0, 1) := by decide +kernel
theorem dX4_advance_213 : decode cX4_advance 213 = .ok (.getfield 22, 3) := by decide +kernel
theorem dX4_advance_216 : decode cX4_advance 216 = .ok (.isub, 1) := by decide +kernel
theorem dX4_advance_217 : decode cX4_advance 217 = .ok (.iconst 2, 1) := by decide +kernel
theorem dX4_advance_218 : decode cX4_advance 218 = .ok (.if_icmp .gt 7, 3) := by decide +kernel
theorem dX4_advance_221 : decode cX4_advance 221 = .ok (.iconst 2, 1) := by decide +kernel
theorem dX4_advance_222 : decode cX4_advance 222 = .ok (.goto 4, 3) := by decide +kernel
theorem dX4_advance_225 : decode cX4_advance 225 = .ok (.iconst 4, 1) := by decide +kernel
theorem dX4_advance_226 : decode cX4_advance 226 = .ok (.putfield 25, 3) := by decide +kernel
theorem dX4_advance_229 : decode cX4_advance 229 = .ok (.goto 36, 3) := by decide +kernel
theorem dX4_advance_232 : decode cX4_advance 232 = .ok (.aload_n 0, 1) := by decide +kernel
theorem dX4_advance_233 : decode cX4_advance 233 = .ok (.aload_n 0, 1) := by decide +kernel
theorem dX4_advance_234 : decode cX4_advance 234 = .ok (.getfield 9, 3) := by decide +kernel
theorem dX4_advance_237 : decode cX4_advance 237 = .ok (.aload_n 0, 1) := by decide +kernel
theorem dX4_advance_238 : decode cX4_advance 238 = .ok (.getfield 19, 3) := by decide +kernel
theorem dX4_advance_241 : decode cX4_advance 241 = .ok (.baload, 1) := by decide +kernel
theorem dX4_advance_242 : decode cX4_advance 242 = .ok (.bipush 59, 2) := by decide +kernel
theorem dX4_advance_244 : decode cX4_advance 244 = .ok (.if_icmp .ne 7, 3) := by decide +kernel
theorem dX4_advance_247 : decode cX4_advance 247 = .ok (.iconst 3, 1) := by decide +kernel
theorem dX4_advance_248 : decode cX4_advance 248 = .ok (.goto 4, 3) := by decide +kernel
theorem dX4_advance_251 : decode cX4_advance 251 = .ok (.iconst 4, 1) := by decide +kernel
theorem dX4_advance_252 : decode cX4_advance 252 = .ok (.putfield 25, 3) := by decide +kernel
theorem dX4_advance_255 : decode cX4_advance 255 = .ok (.aload_n 0, 1) := by decide +kernel
theorem dX4_advance_256 : decode cX4_advance 256 = .ok (.dup, 1) := by decide +kernel
theorem dX4_advance_257 : decode cX4_advance 257 = .ok (.getfield 19, 3) := by decide +kernel
theorem dX4_advance_260 : decode cX4_advance 260 = .ok (.iconst 1, 1) := by decide +kernel
theorem dX4_advance_261 : decode cX4_advance 261 = .ok (.iadd, 1) := by decide +kernel
theorem dX4_advance_262 : decode cX4_advance 262 = .ok (.putfield 19, 3) := by decide +kernel
theorem dX4_advance_265 : decode cX4_advance 265 = .ok (.return_, 1) := by decide +kernel
theorem dX4_isLetter_0 : decode cX4_isLetter 0 = .ok (.iload_n 0, 1) := by decide +kernel
theorem dX4_isLetter_1 : decode cX4_isLetter 1 = .ok (.bipush 97, 2) := by decide +kernel
theorem dX4_isLetter_3 : decode cX4_isLetter 3 = .ok (.if_icmp .lt 13, 3) := by decide +kernel
theorem dX4_isLetter_6 : decode cX4_isLetter 6 = .ok (.iload_n 0, 1) := by decide +kernel
theorem dX4_isLetter_7 : decode cX4_isLetter 7 = .ok (.bipush 122, 2) := by decide +kernel
theorem dX4_isLetter_9 : decode cX4_isLetter 9 = .ok (.if_icmp .gt 7, 3) := by decide +kernel
theorem dX4_isLetter_12 : decode cX4_isLetter 12 = .ok (.iconst 1, 1) := by decide +kernel
theorem dX4_isLetter_13 : decode cX4_isLetter 13 = .ok (.goto 4, 3) := by decide +kernel
theorem dX4_isLetter_16 : decode cX4_isLetter 16 = .ok (.iconst 0, 1) := by decide +kernel
theorem dX4_isLetter_17 : decode cX4_isLetter 17 = .ok (.ireturn, 1) := by decide +kernel
theorem dX4_isFigure_0 : decode cX4_isFigure 0 = .ok (.iload_n 0, 1) := by decide +kernel
theorem dX4_isFigure_1 : decode cX4_isFigure 1 = .ok (.bipush 48, 2) := by decide +kernel
theorem dX4_isFigure_3 : decode cX4_isFigure 3 = .ok (.if_icmp .lt 13, 3) := by decide +kernel
theorem dX4_isFigure_6 : decode cX4_isFigure 6 = .ok (.iload_n 0, 1) := by decide +kernel
theorem dX4_isFigure_7 : decode cX4_isFigure 7 = .ok (.bipush 57, 2) := by decide +kernel
theorem dX4_isFigure_9 : decode cX4_isFigure 9 = .ok (.if_icmp .gt 7, 3) := by decide +kernel
theorem dX4_isFigure_12 : decode cX4_isFigure 12 = .ok (.iconst 1, 1) := by decide +kernel
theorem dX4_isFigure_13 : decode cX4_isFigure 13 = .ok (.goto 4, 3) := by decide +kernel
theorem dX4_isFigure_16 : decode cX4_isFigure 16 = .ok (.iconst 0, 1) := by decide +kernel
theorem dX4_isFigure_17 : decode cX4_isFigure 17 = .ok (.ireturn, 1) := by decide +kernel
theorem dX5_init_0 : decode cX5_init 0 = .ok (.aload_n 0, 1) := by decide +kernel
theorem dX5_init_1 : decode cX5_init 1 = .ok (.invokespecial 3, 3) := by decide +kernel
theorem dX5_init_4 : decode cX5_init 4 = .ok (.aload_n 0, 1) := by decide +kernel
theorem dX5_init_5 : decode cX5_init 5 = .ok (.bipush 8, 2) := by decide +kernel
theorem dX5_init_7 : decode cX5_init 7 = .ok (.newarray .long, 2) := by decide +kernel
theorem dX5_init_9 : decode cX5_init 9 = .ok (.putfield 9, 3) := by decide +kernel
theorem dX5_init_12 : decode cX5_init 12 = .ok (.aload_n 0, 1) := by decide +kernel
theorem dX5_init_13 : decode cX5_init 13 = .ok (.bipush 8, 2) := by decide +kernel
theorem dX5_init_15 : decode cX5_init 15 = .ok (.newarray .long, 2) := by decide +kernel
theorem dX5_init_17 : decode cX5_init 17 = .ok (.putfield 15, 3) := by decide +kernel
theorem dX5_init_20 : decode cX5_init 20 = .ok (.aload_n 0, 1) := by decide +kernel
theorem dX5_init_21 : decode cX5_init 21 = .ok (.bipush 8, 2) := by decide +kernel
theorem dX5_init_23 : decode cX5_init 23 = .ok (.newarray .long, 2) := by decide +kernel
theorem dX5_init_25 : decode cX5_init 25 = .ok (.putfield 18, 3) := by decide +kernel
theorem dX5_init_28 : decode cX5_init 28 = .ok (.aload_n 0, 1) := by decide +kernel
theorem dX5_init_29 : decode cX5_init 29 = .ok (.bipush 8, 2) := by decide +kernel
theorem dX5_init_31 : decode cX5_init 31 = .ok (.newarray .long, 2) := by decide +kernel
theorem dX5_init_33 : decode cX5_init 33 = .ok (.putfield 21, 3) := by decide +kernel
theorem dX5_init_36 : decode cX5_init 36 = .ok (.return_, 1) := by decide +kernel
theorem dX5_countThrough_0 : decode cX5_countThrough 0 = .ok (.aload_n 1, 1) := by decide +kernel
theorem dX5_countThrough_1 : decode cX5_countThrough 1 = .ok (.iconst 0, 1) := by decide +kernel
theorem dX5_countThrough_2 : decode cX5_countThrough 2 = .ok (.aload_n 0, 1) := by decide +kernel
theorem dX5_countThrough_3 : decode cX5_countThrough 3 = .ok (.getfield 15, 3) := by decide +kernel
theorem dX5_countThrough_6 : decode cX5_countThrough 6 = .ok (.invokestatic 24, 3) := by decide +kernel
theorem dX5_countThrough_9 : decode cX5_countThrough 9 = .ok (.iconst 1, 1) := by decide +kernel
theorem dX5_countThrough_10 : decode cX5_countThrough 10 = .ok (.istore_n 3, 1) := by decide +kernel
theorem dX5_countThrough_11 : decode cX5_countThrough 11 = .ok (.iload_n 3, 1) := by decide +kernel
theorem dX5_countThrough_12 : decode cX5_countThrough 12 = .ok (.iload_n 2, 1) := by decide +kernel
theorem dX5_countThrough_13 : decode cX5_countThrough 13 = .ok (.if_icmp .gt 19, 3) := by decide +kernel
theorem dX5_countThrough_16 : decode cX5_countThrough 16 = .ok (.aload_n 0, 1) := by decide +kernel
theorem dX5_countThrough_17 : decode cX5_countThrough 17 = .ok (.aload_n 1, 1) := by decide +kernel
theorem dX5_countThrough_18 : decode cX5_countThrough 18 = .ok (.iload_n 3, 1) := by decide +kernel
theorem dX5_countThrough_19 : decode cX5_countThrough 19 = .ok (.aload_n 0, 1) := by decide +kernel
theorem dX5_countThrough_20 : decode cX5_countThrough 20 = .ok (.getfield 15, 3) := by decide +kernel
theorem dX5_countThrough_23 : decode cX5_countThrough 23 = .ok (.invokevirtual 28, 3) := by decide +kernel
theorem dX5_countThrough_26 : decode cX5_countThrough 26 = .ok (.iinc 3 1, 3) := by decide +kernel
theorem dX5_countThrough_29 : decode cX5_countThrough 29 = .ok (.goto (-18), 3) := by decide +kernel
theorem dX5_countThrough_32 : decode cX5_countThrough 32 = .ok (.aload_n 1, 1) := by decide +kernel
theorem dX5_countThrough_33 : decode cX5_countThrough 33 = .ok (.bipush 12, 2) := by decide +kernel
theorem dX5_countThrough_35 : decode cX5_countThrough 35 = .ok (.aload_n 0, 1) := by decide +kernel
theorem dX5_countThrough_36 : decode cX5_countThrough 36 = .ok (.getfield 18, 3) := by decide +kernel
theorem dX5_countThrough_39 : decode cX5_countThrough 39 = .ok (.invokestatic 24, 3) := by decide +kernel
theorem dX5_countThrough_42 : decode cX5_countThrough 42 = .ok (.bipush 11, 2) := by decide +kernel
theorem dX5_countThrough_44 : decode cX5_countThrough 44 = .ok (.istore_n 3, 1) := by decide +kernel
theorem dX5_countThrough_45 : decode cX5_countThrough 45 = .ok (.iload_n 3, 1) := by decide +kernel
theorem dX5_countThrough_46 : decode cX5_countThrough 46 = .ok (.iload_n 2, 1) := by decide +kernel
theorem dX5_countThrough_47 : decode cX5_countThrough 47 = .ok (.if_icmp .lt 19, 3) := by decide +kernel
theorem dX5_countThrough_50 : decode cX5_countThrough 50 = .ok (.aload_n 0, 1) := by decide +kernel
theorem dX5_countThrough_51 : decode cX5_countThrough 51 = .ok (.aload_n 1, 1) := by decide +kernel
theorem dX5_countThrough_52 : decode cX5_countThrough 52 = .ok (.iload_n 3, 1) := by decide +kernel
theorem dX5_countThrough_53 : decode cX5_countThrough 53 = .ok (.aload_n 0, 1) := by decide +kernel
theorem dX5_countThrough_54 : decode cX5_countThrough 54 = .ok (.getfield 18, 3) := by decide +kernel
theorem dX5_countThrough_57 : decode cX5_countThrough 57 = .ok (.invokevirtual 28, 3) := by decide +kernel
theorem dX5_countThrough_60 : decode cX5_countThrough 60 = .ok (.iinc 3 (-1), 3) := by decide +kernel
theorem dX5_countThrough_63 : decode cX5_countThrough 63 = .ok (.goto (-18), 3) := by decide +kernel
theorem dX5_countThrough_66 : decode cX5_countThrough 66 = .ok (.iconst 0, 1) := by decide +kernel
theorem dX5_countThrough_67 : decode cX5_countThrough 67 = .ok (.istore_n 3, 1) := by decide +kernel
theorem dX5_countThrough_68 : decode cX5_countThrough 68 = .ok (.iload_n 3, 1) := by decide +kernel
theorem dX5_countThrough_69 : decode cX5_countThrough 69 = .ok (.bipush 8, 2) := by decide +kernel
theorem dX5_countThrough_71 : decode cX5_countThrough 71 = .ok (.if_icmp .ge 28, 3) := by decide +kernel
theorem dX5_countThrough_74 : decode cX5_countThrough 74 = .ok (.aload_n 0, 1) := by decide +kernel
theorem dX5_countThrough_75 : decode cX5_countThrough 75 = .ok (.getfield 9, 3) := by decide +kernel
theorem dX5_countThrough_78 : decode cX5_countThrough 78 = .ok (.iload_n 3, 1) := by decide +kernel
theorem dX5_countThrough_79 : decode cX5_countThrough 79 = .ok (.aload_n 0, 1) := by decide +kernel
theorem dX5_countThrough_80 : decode cX5_countThrough 80 = .ok (.getfield 15, 3) := by decide +kernel
theorem dX5_countThrough_83 : decode cX5_countThrough 83 = .ok (.iload_n 3, 1) := by decide +kernel
theorem dX5_countThrough_84 : decode cX5_countThrough 84 = .ok (.laload, 1) := by decide +kernel
theorem dX5_countThrough_85 : decode cX5_countThrough 85 = .ok (.aload_n 0, 1) := by decide +kernel
theorem dX5_countThrough_86 : decode cX5_countThrough 86 = .ok (.getfield 18, 3) := by decide +kernel
theorem dX5_countThrough_89 : decode cX5_countThrough 89 = .ok (.iload_n 3, 1) := by decide +kernel
theorem dX5_countThrough_90 : decode cX5_countThrough 90 = .ok (.laload, 1) := by decide +kernel
theorem dX5_countThrough_91 : decode cX5_countThrough 91 = .ok (.lmul, 1) := by decide +kernel
theorem dX5_countThrough_92 : decode cX5_countThrough 92 = .ok (.lastore, 1) := by decide +kernel
theorem dX5_countThrough_93 : decode cX5_countThrough 93 = .ok (.iinc 3 1, 3) := by decide +kernel
theorem dX5_countThrough_96 : decode cX5_countThrough 96 = .ok (.goto (-28), 3) := by decide +kernel
theorem dX5_countThrough_99 : decode cX5_countThrough 99 = .ok (.return_, 1) := by decide +kernel
theorem dX5_begin_0 : decode cX5_begin 0 = .ok (.iconst 0, 1) := by decide +kernel
theorem dX5_begin_1 : decode cX5_begin 1 = .ok (.istore_n 3, 1) := by decide +kernel
theorem dX5_begin_2 : decode cX5_begin 2 = .ok (.iload_n 3, 1) := by decide +kernel
theorem dX5_begin_3 : decode cX5_begin 3 = .ok (.bipush 8, 2) := by decide +kernel
theorem dX5_begin_5 : decode cX5_begin 5 = .ok (.if_icmp .ge 26, 3) := by decide +kernel
theorem dX5_begin_8 : decode cX5_begin 8 = .ok (.aload_n 2, 1) := by decide +kernel
theorem dX5_begin_9 : decode cX5_begin 9 = .ok (.iload_n 3, 1) := by decide +kernel
theorem dX5_begin_10 : decode cX5_begin 10 = .ok (.aload_n 0, 1) := by decide +kernel
theorem dX5_begin_11 : decode cX5_begin 11 = .ok (.iload_n 1, 1) := by decide +kernel
theorem dX5_begin_12 : decode cX5_begin 12 = .ok (.iload_n 3, 1) := by decide +kernel
theorem dX5_begin_13 : decode cX5_begin 13 = .ok (.invokestatic 31, 3) := by decide +kernel
theorem dX5_begin_16 : decode cX5_begin 16 = .ok (.ifCond .eq 7, 3) := by decide +kernel
theorem dX5_begin_19 : decode cX5_begin 19 = .ok (.lconst 1, 1) := by decide +kernel
theorem dX5_begin_20 : decode cX5_begin 20 = .ok (.goto 4, 3) := by decide +kernel
theorem dX5_begin_23 : decode cX5_begin 23 = .ok (.lconst 0, 1) := by decide +kernel
theorem dX5_begin_24 : decode cX5_begin 24 = .ok (.lastore, 1) := by decide +kernel
theorem dX5_begin_25 : decode cX5_begin 25 = .ok (.iinc 3 1, 3) := by decide +kernel
theorem dX5_begin_28 : decode cX5_begin 28 = .ok (.goto (-26), 3) := by decide +kernel
theorem dX5_begin_31 : decode cX5_begin 31 = .ok (.return_, 1) := by decide +kernel
theorem dX5_extend_0 : decode cX5_extend 0 = .ok (.aload_n 3, 1) := by decide +kernel
theorem dX5_extend_1 : decode cX5_extend 1 = .ok (.iconst 0, 1) := by decide +kernel
theorem dX5_extend_2 : decode cX5_extend 2 = .ok (.aload_n 0, 1) := by decide +kernel
theorem dX5_extend_3 : decode cX5_extend 3 = .ok (.getfield 21, 3) := by decide +kernel
theorem dX5_extend_6 : decode cX5_extend 6 = .ok (.iconst 0, 1) := by decide +kernel
theorem dX5_extend_7 : decode cX5_extend 7 = .ok (.bipush 8, 2) := by decide +kernel
theorem dX5_extend_9 : decode cX5_extend 9 = .ok (.invokestatic 35, 3) := by decide +kernel
theorem dX5_extend_12 : decode cX5_extend 12 = .ok (.iconst 0, 1) := by decide +kernel
theorem dX5_extend_13 : decode cX5_extend 13 = .ok (.istore 4, 2) := by decide +kernel
theorem dX5_extend_15 : decode cX5_extend 15 = .ok (.iload 4, 2) := by decide +kernel
theorem dX5_extend_17 : decode cX5_extend 17 = .ok (.bipush 8, 2) := by decide +kernel
theorem dX5_extend_19 : decode cX5_extend 19 = .ok (.if_icmp .ge 34, 3) := by decide +kernel
theorem dX5_extend_22 : decode cX5_extend 22 = .ok (.aload_n 3, 1) := by decide +kernel
theorem dX5_extend_23 : decode cX5_extend 23 = .ok (.iload 4, 2) := by decide +kernel
theorem dX5_extend_25 : decode cX5_extend 25 = .ok (.aload_n 1, 1) := by decide +kernel
theorem dX5_extend_26 : decode cX5_extend 26 = .ok (.iload_n 2, 1) := by decide +kernel
theorem dX5_extend_27 : decode cX5_extend 27 = .ok (.iload 4, 2) := by decide +kernel
theorem dX5_extend_29 : decode cX5_extend 29 = .ok (.invokestatic 31, 3) := by decide +kernel
theorem dX5_extend_32 : decode cX5_extend 32 = .ok (.ifCond .eq 13, 3) := by decide +kernel
theorem dX5_extend_35 : decode cX5_extend 35 = .ok (.aload_n 0, 1) := by decide +kernel
theorem dX5_extend_36 : decode cX5_extend 36 = .ok (.aload_n 1, 1) := by decide +kernel
theorem dX5_extend_37 : decode cX5_extend 37 = .ok (.iload 4, 2) := by decide +kernel
theorem dX5_extend_39 : decode cX5_extend 39 = .ok (.invokevirtual 41, 3) := by decide +kernel
theorem dX5_extend_42 : decode cX5_extend 42 = .ok (.goto 4, 3) := by decide +kernel
theorem dX5_extend_45 : decode cX5_extend 45 = .ok (.lconst 0, 1) := by decide +kernel
theorem dX5_extend_46 : decode cX5_extend 46 = .ok (.lastore, 1) := by decide +kernel
theorem dX5_extend_47 : decode cX5_extend 47 = .ok (.iinc 4 1, 3) := by decide +kernel
theorem dX5_extend_50 : decode cX5_extend 50 = .ok (.goto (-35), 3) := by decide +kernel
theorem dX5_extend_53 : decode cX5_extend 53 = .ok (.return_, 1) := by decide +kernel
theorem dX5_arriving_0 : decode cX5_arriving 0 = .ok (.aload_n 0, 1) := by decide +kernel
theorem dX5_arriving_1 : decode cX5_arriving 1 = .ok (.getfield 21, 3) := by decide +kernel
theorem dX5_arriving_4 : decode cX5_arriving 4 = .ok (.iload_n 2, 1) := by decide +kernel
theorem dX5_arriving_5 : decode cX5_arriving 5 = .ok (.laload, 1) := by decide +kernel
theorem dX5_arriving_6 : decode cX5_arriving 6 = .ok (.lstore_n 3, 1) := by decide +kernel
theorem dX5_arriving_7 : decode cX5_arriving 7 = .ok (.iconst 0, 1) := by decide +kernel
theorem dX5_arriving_8 : decode cX5_arriving 8 = .ok (.istore 5, 2) := by decide +kernel
theorem dX5_arriving_10 : decode cX5_arriving 10 = .ok (.iload 5, 2) := by decide +kernel
theorem dX5_arriving_12 : decode cX5_arriving 12 = .ok (.bipush 8, 2) := by decide +kernel
theorem dX5_arriving_14 : decode cX5_arriving 14 = .ok (.if_icmp .ge 29, 3) := by decide +kernel
theorem dX5_arriving_17 : decode cX5_arriving 17 = .ok (.aload_n 1, 1) := by decide +kernel
theorem dX5_arriving_18 : decode cX5_arriving 18 = .ok (.iload 5, 2) := by decide +kernel
theorem dX5_arriving_20 : decode cX5_arriving 20 = .ok (.iload_n 2, 1) := by decide +kernel
theorem dX5_arriving_21 : decode cX5_arriving 21 = .ok (.invokevirtual 45, 3) := by decide +kernel
theorem dX5_arriving_24 : decode cX5_arriving 24 = .ok (.ifCond .le 13, 3) := by decide +kernel
theorem dX5_arriving_27 : decode cX5_arriving 27 = .ok (.lload_n 3, 1) := by decide +kernel
theorem dX5_arriving_28 : decode cX5_arriving 28 = .ok (.aload_n 0, 1) := by decide +kernel
theorem dX5_arriving_29 : decode cX5_arriving 29 = .ok (.getfield 21, 3) := by decide +kernel
theorem dX5_arriving_32 : decode cX5_arriving 32 = .ok (.iload 5, 2) := by decide +kernel
theorem dX5_arriving_34 : decode cX5_arriving 34 = .ok (.laload, 1) := by decide +kernel
theorem dX5_arriving_35 : decode cX5_arriving 35 = .ok (.ladd, 1) := by decide +kernel
theorem dX5_arriving_36 : decode cX5_arriving 36 = .ok (.lstore_n 3, 1) := by decide +kernel
theorem dX5_arriving_37 : decode cX5_arriving 37 = .ok (.iinc 5 1, 3) := by decide +kernel
theorem dX5_arriving_40 : decode cX5_arriving 40 = .ok (.goto (-30), 3) := by decide +kernel
theorem dX5_arriving_43 : decode cX5_arriving 43 = .ok (.lload_n 3, 1) := by decide +kernel
theorem dX5_arriving_44 : decode cX5_arriving 44 = .ok (.lreturn, 1) := by decide +kernel
theorem dX5_fits_0 : decode cX5_fits 0 = .ok (.iconst 0, 1) := by decide +kernel
theorem dX5_fits_1 : decode cX5_fits 1 = .ok (.istore_n 3, 1) := by decide +kernel
theorem dX5_fits_2 : decode cX5_fits 2 = .ok (.iload_n 3, 1) := by decide +kernel
theorem dX5_fits_3 : decode cX5_fits 3 = .ok (.aload_n 0, 1) := by decide +kernel
theorem dX5_fits_4 : decode cX5_fits 4 = .ok (.getfield 51, 3) := by decide +kernel
theorem dX5_fits_7 : decode cX5_fits 7 = .ok (.if_icmp .ge 58, 3) := by decide +kernel
theorem dX5_fits_10 : decode cX5_fits 10 = .ok (.aload_n 0, 1) := by decide +kernel
theorem dX5_fits_11 : decode cX5_fits 11 = .ok (.getfield 55, 3) := by decide +kernel
theorem dX5_fits_14 : decode cX5_fits 14 = .ok (.iload_n 3, 1) := by decide +kernel
theorem dX5_fits_15 : decode cX5_fits 15 = .ok (.iaload, 1) := by decide +kernel
theorem dX5_fits_16 : decode cX5_fits 16 = .ok (.iconst 1, 1) := by decide +kernel
theorem dX5_fits_17 : decode cX5_fits 17 = .ok (.if_icmp .ne 7, 3) := by decide +kernel
theorem dX5_fits_20 : decode cX5_fits 20 = .ok (.iconst 1, 1) := by decide +kernel
theorem dX5_fits_21 : decode cX5_fits 21 = .ok (.goto 4, 3) := by decide +kernel
theorem dX5_fits_24 : decode cX5_fits 24 = .ok (.iconst 0, 1) := by decide +kernel
theorem dX5_fits_25 : decode cX5_fits 25 = .ok (.istore 4, 2) := by decide +kernel
theorem dX5_fits_27 : decode cX5_fits 27 = .ok (.aload_n 0, 1) := by decide +kernel
theorem dX5_fits_28 : decode cX5_fits 28 = .ok (.getfield 59, 3) := by decide +kernel
theorem dX5_fits_31 : decode cX5_fits 31 = .ok (.iload_n 3, 1) := by decide +kernel
theorem dX5_fits_32 : decode cX5_fits 32 = .ok (.iaload, 1) := by decide +kernel
theorem dX5_fits_33 : decode cX5_fits 33 = .ok (.iload_n 1, 1) := by decide +kernel
theorem dX5_fits_34 : decode cX5_fits 34 = .ok (.if_icmp .ne 25, 3) := by decide +kernel
theorem dX5_fits_37 : decode cX5_fits 37 = .ok (.aload_n 0, 1) := by decide +kernel
theorem dX5_fits_38 : decode cX5_fits 38 = .ok (.getfield 62, 3) := by decide +kernel
theorem dX5_fits_41 : decode cX5_fits 41 = .ok (.iload_n 3, 1) := by decide +kernel
theorem dX5_fits_42 : decode cX5_fits 42 = .ok (.iaload, 1) := by decide +kernel
theorem dX5_fits_43 : decode cX5_fits 43 = .ok (.iload_n 2, 1) := by decide +kernel
theorem dX5_fits_44 : decode cX5_fits 44 = .ok (.if_icmp .ne 7, 3) := by decide +kernel
theorem dX5_fits_47 : decode cX5_fits 47 = .ok (.iconst 1, 1) := by decide +kernel
theorem dX5_fits_48 : decode cX5_fits 48 = .ok (.goto 4, 3) := by decide +kernel
theorem dX5_fits_51 : decode cX5_fits 51 = .ok (.iconst 0, 1) := by decide +kernel
theorem dX5_fits_52 : decode cX5_fits 52 = .ok (.iload 4, 2) := by decide +kernel
theorem dX5_fits_54 : decode cX5_fits 54 = .ok (.if_icmp .eq 5, 3) := by decide +kernel
theorem dX5_fits_57 : decode cX5_fits 57 = .ok (.iconst 0, 1) := by decide +kernel
theorem dX5_fits_58 : decode cX5_fits 58 = .ok (.ireturn, 1) := by decide +kernel
theorem dX5_fits_59 : decode cX5_fits 59 = .ok (.iinc 3 1, 3) := by decide +kernel
theorem dX5_fits_62 : decode cX5_fits 62 = .ok (.goto (-60), 3) := by decide +kernel
theorem dX5_fits_65 : decode cX5_fits 65 = .ok (.iconst 1, 1) := by decide +kernel
theorem dX5_fits_66 : decode cX5_fits 66 = .ok (.ireturn, 1) := by decide +kernel
theorem dX5_total_0 : decode cX5_total 0 = .ok (.lconst 0, 1) := by decide +kernel
theorem dX5_total_1 : decode cX5_total 1 = .ok (.lstore_n 1, 1) := by decide +kernel
theorem dX5_total_2 : decode cX5_total 2 = .ok (.iconst 0, 1) := by decide +kernel
theorem dX5_total_3 : decode cX5_total 3 = .ok (.istore_n 3, 1) := by decide +kernel
theorem dX5_total_4 : decode cX5_total 4 = .ok (.iload_n 3, 1) := by decide +kernel
theorem dX5_total_5 : decode cX5_total 5 = .ok (.bipush 8, 2) := by decide +kernel
theorem dX5_total_7 : decode cX5_total 7 = .ok (.if_icmp .ge 18, 3) := by decide +kernel
theorem dX5_total_10 : decode cX5_total 10 = .ok (.lload_n 1, 1) := by decide +kernel
theorem dX5_total_11 : decode cX5_total 11 = .ok (.aload_n 0, 1) := by decide +kernel
theorem dX5_total_12 : decode cX5_total 12 = .ok (.getfield 9, 3) := by decide +kernel
theorem dX5_total_15 : decode cX5_total 15 = .ok (.iload_n 3, 1) := by decide +kernel
theorem dX5_total_16 : decode cX5_total 16 = .ok (.laload, 1) := by decide +kernel
theorem dX5_total_17 : decode cX5_total 17 = .ok (.ladd, 1) := by decide +kernel
theorem dX5_total_18 : decode cX5_total 18 = .ok (.lstore_n 1, 1) := by decide +kernel
theorem dX5_total_19 : decode cX5_total 19 = .ok (.iinc 3 1, 3) := by decide +kernel
theorem dX5_total_22 : decode cX5_total 22 = .ok (.goto (-18), 3) := by decide +kernel
theorem dX5_total_25 : decode cX5_total 25 = .ok (.lload_n 1, 1) := by decide +kernel
theorem dX5_total_26 : decode cX5_total 26 = .ok (.lreturn, 1) := by decide +kernel
theorem dX5_roomsPossible_0 : decode cX5_roomsPossible 0 = .ok (.iconst 0, 1) := by decide +kernel
theorem dX5_roomsPossible_1 : decode cX5_roomsPossible 1 = .ok (.istore_n 1, 1) := by decide +kernel
theorem dX5_roomsPossible_2 : decode cX5_roomsPossible 2 = .ok (.iconst 0, 1) := by decide +kernel
theorem dX5_roomsPossible_3 : decode cX5_roomsPossible 3 = .ok (.istore_n 2, 1) := by decide +kernel
theorem dX5_roomsPossible_4 : decode cX5_roomsPossible 4 = .ok (.iload_n 2, 1) := by decide +kernel
theorem dX5_roomsPossible_5 : decode cX5_roomsPossible 5 = .ok (.bipush 8, 2) := by decide +kernel
theorem dX5_roomsPossible_7 : decode cX5_roomsPossible 7 = .ok (.if_icmp .ge 26, 3) := by decide +kernel
theorem dX5_roomsPossible_10 : decode cX5_roomsPossible 10 = .ok (.aload_n 0, 1) := by decide +kernel
theorem dX5_roomsPossible_11 : decode cX5_roomsPossible 11 = .ok (.getfield 9, 3) := by decide +kernel
theorem dX5_roomsPossible_14 : decode cX5_roomsPossible 14 = .ok (.iload_n 2, 1) := by decide +kernel
theorem dX5_roomsPossible_15 : decode cX5_roomsPossible 15 = .ok (.laload, 1) := by decide +kernel
theorem dX5_roomsPossible_16 : decode cX5_roomsPossible 16 = .ok (.lconst 0, 1) := by decide +kernel
theorem dX5_roomsPossible_17 : decode cX5_roomsPossible 17 = .ok (.lcmp, 1) := by decide +kernel
theorem dX5_roomsPossible_18 : decode cX5_roomsPossible 18 = .ok (.ifCond .le 9, 3) := by decide +kernel
theorem dX5_roomsPossible_21 : decode cX5_roomsPossible 21 = .ok (.iload_n 1, 1) := by decide +kernel
theorem dX5_roomsPossible_22 : decode cX5_roomsPossible 22 = .ok (.iconst 1, 1) := by decide +kernel
theorem dX5_roomsPossible_23 : decode cX5_roomsPossible 23 = .ok (.iload_n 2, 1) := by decide +kernel
theorem dX5_roomsPossible_24 : decode cX5_roomsPossible 24 = .ok (.ishl, 1) := by decide +kernel
theorem dX5_roomsPossible_25 : decode cX5_roomsPossible 25 = .ok (.ior, 1) := by decide +kernel
theorem dX5_roomsPossible_26 : decode cX5_roomsPossible 26 = .ok (.istore_n 1, 1) := by decide +kernel
theorem dX5_roomsPossible_27 : decode cX5_roomsPossible 27 = .ok (.iinc 2 1, 3) := by decide +kernel
theorem dX5_roomsPossible_30 : decode cX5_roomsPossible 30 = .ok (.goto (-26), 3) := by decide +kernel
theorem dX5_roomsPossible_33 : decode cX5_roomsPossible 33 = .ok (.iload_n 1, 1) := by decide +kernel
theorem dX5_roomsPossible_34 : decode cX5_roomsPossible 34 = .ok (.ireturn, 1) := by decide +kernel
theorem dX5_roomThatTells_0 : decode cX5_roomThatTells 0 = .ok (.aload_n 0, 1) := by decide +kernel
theorem dX5_roomThatTells_1 : decode cX5_roomThatTells 1 = .ok (.invokevirtual 65, 3) := by decide +kernel
theorem dX5_roomThatTells_4 : decode cX5_roomThatTells 4 = .ok (.lstore_n 1, 1) := by decide +kernel
theorem dX5_roomThatTells_5 : decode cX5_roomThatTells 5 = .ok (.lload_n 1, 1) := by decide +kernel
theorem dX5_roomThatTells_6 : decode cX5_roomThatTells 6 = .ok (.lconst 0, 1) := by decide +kernel
theorem dX5_roomThatTells_7 : decode cX5_roomThatTells 7 = .ok (.lcmp, 1) := by decide +kernel
theorem dX5_roomThatTells_8 : decode cX5_roomThatTells 8 = .ok (.ifCond .ne 5, 3) := by decide +kernel
theorem dX5_roomThatTells_11 : decode cX5_roomThatTells 11 = .ok (.iconst (-1), 1) := by decide +kernel
theorem dX5_roomThatTells_12 : decode cX5_roomThatTells 12 = .ok (.ireturn, 1) := by decide +kernel
theorem dX5_roomThatTells_13 : decode cX5_roomThatTells 13 = .ok (.iconst (-1), 1) := by decide +kernel
theorem dX5_roomThatTells_14 : decode cX5_roomThatTells 14 = .ok (.istore_n 3, 1) := by decide +kernel
theorem dX5_roomThatTells_15 : decode cX5_roomThatTells 15 = .ok (.lload_n 1, 1) := by decide +kernel
theorem dX5_roomThatTells_16 : decode cX5_roomThatTells 16 = .ok (.lconst 1, 1) := by decide +kernel
theorem dX5_roomThatTells_17 : decode cX5_roomThatTells 17 = .ok (.ladd, 1) := by decide +kernel
theorem dX5_roomThatTells_18 : decode cX5_roomThatTells 18 = .ok (.lstore 4, 2) := by decide +kernel
theorem dX5_roomThatTells_20 : decode cX5_roomThatTells 20 = .ok (.iconst 0, 1) := by decide +kernel
theorem dX5_roomThatTells_21 : decode cX5_roomThatTells 21 = .ok (.istore 6, 2) := by decide +kernel
theorem dX5_roomThatTells_23 : decode cX5_roomThatTells 23 = .ok (.iload 6, 2) := by decide +kernel
theorem dX5_roomThatTells_25 : decode cX5_roomThatTells 25 = .ok (.bipush 8, 2) := by decide +kernel
theorem dX5_roomThatTells_27 : decode cX5_roomThatTells 27 = .ok (.if_icmp .ge 45, 3) := by decide +kernel
theorem dX5_roomThatTells_30 : decode cX5_roomThatTells 30 = .ok (.aload_n 0, 1) := by decide +kernel
theorem dX5_roomThatTells_31 : decode cX5_roomThatTells 31 = .ok (.getfield 9, 3) := by decide +kernel
theorem dX5_roomThatTells_34 : decode cX5_roomThatTells 34 = .ok (.iload 6, 2) := by decide +kernel
theorem dX5_roomThatTells_36 : decode cX5_roomThatTells 36 = .ok (.laload, 1) := by decide +kernel
theorem dX5_roomThatTells_37 : decode cX5_roomThatTells 37 = .ok (.lload_n 1, 1) := by decide +kernel
theorem dX5_roomThatTells_38 : decode cX5_roomThatTells 38 = .ok (.aload_n 0, 1) := by decide +kernel
theorem dX5_roomThatTells_39 : decode cX5_roomThatTells 39 = .ok (.getfield 9, 3) := by decide +kernel
theorem dX5_roomThatTells_42 : decode cX5_roomThatTells 42 = .ok (.iload 6, 2) := by decide +kernel
theorem dX5_roomThatTells_44 : decode cX5_roomThatTells 44 = .ok (.laload, 1) := by decide +kernel
theorem dX5_roomThatTells_45 : decode cX5_roomThatTells 45 = .ok (.lsub, 1) := by decide +kernel
theorem dX5_roomThatTells_46 : decode cX5_roomThatTells 46 = .ok (.invokestatic 69, 3) := by decide +kernel
theorem dX5_roomThatTells_49 : decode cX5_roomThatTells 49 = .ok (.lstore 7, 2) := by decide +kernel
theorem dX5_roomThatTells_51 : decode cX5_roomThatTells 51 = .ok (.lload 7, 2) := by decide +kernel
theorem dX5_roomThatTells_53 : decode cX5_roomThatTells 53 = .ok (.lload 4, 2) := by decide +kernel
theorem dX5_roomThatTells_55 : decode cX5_roomThatTells 55 = .ok (.lcmp, 1) := by decide +kernel
theorem dX5_roomThatTells_56 : decode cX5_roomThatTells 56 = .ok (.ifCond .ge 10, 3) := by decide +kernel
theorem dX5_roomThatTells_59 : decode cX5_roomThatTells 59 = .ok (.lload 7, 2) := by decide +kernel
theorem dX5_roomThatTells_61 : decode cX5_roomThatTells 61 = .ok (.lstore 4, 2) := by decide +kernel
theorem dX5_roomThatTells_63 : decode cX5_roomThatTells 63 = .ok (.iload 6, 2) := by decide +kernel
theorem dX5_roomThatTells_65 : decode cX5_roomThatTells 65 = .ok (.istore_n 3, 1) := by decide +kernel
theorem dX5_roomThatTells_66 : decode cX5_roomThatTells 66 = .ok (.iinc 6 1, 3) := by decide +kernel
theorem dX5_roomThatTells_69 : decode cX5_roomThatTells 69 = .ok (.goto (-46), 3) := by decide +kernel
theorem dX5_roomThatTells_72 : decode cX5_roomThatTells 72 = .ok (.iload_n 3, 1) := by decide +kernel
theorem dX5_roomThatTells_73 : decode cX5_roomThatTells 73 = .ok (.ireturn, 1) := by decide +kernel
theorem dX6_init_0 : decode cX6_init 0 = .ok (.aload_n 0, 1) := by decide +kernel
theorem dX6_init_1 : decode cX6_init 1 = .ok (.invokespecial 5, 3) := by decide +kernel
theorem dX6_init_4 : decode cX6_init 4 = .ok (.aload_n 0, 1) := by decide +kernel
theorem dX6_init_5 : decode cX6_init 5 = .ok (.new 11, 3) := by decide +kernel
theorem dX6_init_8 : decode cX6_init 8 = .ok (.dup, 1) := by decide +kernel
theorem dX6_init_9 : decode cX6_init 9 = .ok (.invokespecial 13, 3) := by decide +kernel
theorem dX6_init_12 : decode cX6_init 12 = .ok (.putfield 14, 3) := by decide +kernel
theorem dX6_init_15 : decode cX6_init 15 = .ok (.aload_n 0, 1) := by decide +kernel
theorem dX6_init_16 : decode cX6_init 16 = .ok (.bipush 48, 2) := by decide +kernel
theorem dX6_init_18 : decode cX6_init 18 = .ok (.newarray .int, 2) := by decide +kernel
theorem dX6_init_20 : decode cX6_init 20 = .ok (.putfield 18, 3) := by decide +kernel
theorem dX6_init_23 : decode cX6_init 23 = .ok (.aload_n 0, 1) := by decide +kernel
theorem dX6_init_24 : decode cX6_init 24 = .ok (.bipush 48, 2) := by decide +kernel
theorem dX6_init_26 : decode cX6_init 26 = .ok (.newarray .int, 2) := by decide +kernel
theorem dX6_init_28 : decode cX6_init 28 = .ok (.putfield 22, 3) := by decide +kernel
theorem dX6_init_31 : decode cX6_init 31 = .ok (.return_, 1) := by decide +kernel
theorem dX6_search_0 : decode cX6_search 0 = .ok (.aload_n 0, 1) := by decide +kernel
theorem dX6_search_1 : decode cX6_search 1 = .ok (.getfield 14, 3) := by decide +kernel
theorem dX6_search_4 : decode cX6_search 4 = .ok (.aload_n 1, 1) := by decide +kernel
theorem dX6_search_5 : decode cX6_search 5 = .ok (.getfield 25, 3) := by decide +kernel
theorem dX6_search_8 : decode cX6_search 8 = .ok (.invokevirtual 30, 3) := by decide +kernel
theorem dX6_search_11 : decode cX6_search 11 = .ok (.aload_n 0, 1) := by decide +kernel
theorem dX6_search_12 : decode cX6_search 12 = .ok (.iconst (-1), 1) := by decide +kernel
theorem dX6_search_13 : decode cX6_search 13 = .ok (.putfield 34, 3) := by decide +kernel
theorem dX6_search_16 : decode cX6_search 16 = .ok (.aload_n 0, 1) := by decide +kernel
theorem dX6_search_17 : decode cX6_search 17 = .ok (.iconst (-1), 1) := by decide +kernel
theorem dX6_search_18 : decode cX6_search 18 = .ok (.putfield 38, 3) := by decide +kernel
theorem dX6_search_21 : decode cX6_search 21 = .ok (.aload_n 0, 1) := by decide +kernel
theorem dX6_search_22 : decode cX6_search 22 = .ok (.getfield 18, 3) := by decide +kernel
theorem dX6_search_25 : decode cX6_search 25 = .ok (.invokestatic 41, 3) := by decide +kernel
theorem dX6_search_28 : decode cX6_search 28 = .ok (.aload_n 0, 1) := by decide +kernel
theorem dX6_search_29 : decode cX6_search 29 = .ok (.getfield 18, 3) := by decide +kernel
theorem dX6_search_32 : decode cX6_search 32 = .ok (.aload_n 0, 1) := by decide +kernel
theorem dX6_search_33 : decode cX6_search 33 = .ok (.getfield 14, 3) := by decide +kernel
theorem dX6_search_36 : decode cX6_search 36 = .ok (.getfield 45, 3) := by decide +kernel
theorem dX6_search_39 : decode cX6_search 39 = .ok (.iload_n 2, 1) := by decide +kernel
theorem dX6_search_40 : decode cX6_search 40 = .ok (.iaload, 1) := by decide +kernel
theorem dX6_search_41 : decode cX6_search 41 = .ok (.aload_n 0, 1) := by decide +kernel
theorem dX6_search_42 : decode cX6_search 42 = .ok (.getfield 14, 3) := by decide +kernel
theorem dX6_search_45 : decode cX6_search 45 = .ok (.getfield 48, 3) := by decide +kernel
theorem dX6_search_48 : decode cX6_search 48 = .ok (.iload_n 2, 1) := by decide +kernel
theorem dX6_search_49 : decode cX6_search 49 = .ok (.iaload, 1) := by decide +kernel
theorem dX6_search_50 : decode cX6_search 50 = .ok (.iconst 0, 1) := by decide +kernel
theorem dX6_search_51 : decode cX6_search 51 = .ok (.invokestatic 51, 3) := by decide +kernel
theorem dX6_search_54 : decode cX6_search 54 = .ok (.iconst 0, 1) := by decide +kernel
theorem dX6_search_55 : decode cX6_search 55 = .ok (.istore_n 3, 1) := by decide +kernel
theorem dX6_search_56 : decode cX6_search 56 = .ok (.iload_n 3, 1) := by decide +kernel
theorem dX6_search_57 : decode cX6_search 57 = .ok (.bipush 12, 2) := by decide +kernel
theorem dX6_search_59 : decode cX6_search 59 = .ok (.if_icmp .ge 49, 3) := by decide +kernel
theorem dX6_search_62 : decode cX6_search 62 = .ok (.aload_n 0, 1) := by decide +kernel
theorem dX6_search_63 : decode cX6_search 63 = .ok (.getfield 34, 3) := by decide +kernel
theorem dX6_search_66 : decode cX6_search 66 = .ok (.iconst (-1), 1) := by decide +kernel
theorem dX6_search_67 : decode cX6_search 67 = .ok (.if_icmp .ne 41, 3) := by decide +kernel
theorem dX6_search_70 : decode cX6_search 70 = .ok (.aload_n 0, 1) := by decide +kernel
theorem dX6_search_71 : decode cX6_search 71 = .ok (.aload_n 1, 1) := by decide +kernel
theorem dX6_search_72 : decode cX6_search 72 = .ok (.iload_n 3, 1) := by decide +kernel
theorem dX6_search_73 : decode cX6_search 73 = .ok (.ifCond .gt 15, 3) := by decide +kernel
theorem dX6_search_76 : decode cX6_search 76 = .ok (.aload_n 1, 1) := by decide +kernel
theorem dX6_search_77 : decode cX6_search 77 = .ok (.getfield 25, 3) := by decide +kernel
theorem dX6_search_80 : decode cX6_search 80 = .ok (.getfield 55, 3) := by decide +kernel
theorem dX6_search_83 : decode cX6_search 83 = .ok (.iload_n 2, 1) := by decide +kernel
theorem dX6_search_84 : decode cX6_search 84 = .ok (.iaload, 1) := by decide +kernel
theorem dX6_search_85 : decode cX6_search 85 = .ok (.ifCond .ne 7, 3) := by decide +kernel
theorem dX6_search_88 : decode cX6_search 88 = .ok (.iconst 1, 1) := by decide +kernel
theorem dX6_search_89 : decode cX6_search 89 = .ok (.goto 4, 3) := by decide +kernel
theorem dX6_search_92 : decode cX6_search 92 = .ok (.iconst 0, 1) := by decide +kernel
theorem dX6_search_93 : decode cX6_search 93 = .ok (.invokevirtual 56, 3) := by decide +kernel
theorem dX6_search_96 : decode cX6_search 96 = .ok (.aload_n 0, 1) := by decide +kernel
theorem dX6_search_97 : decode cX6_search 97 = .ok (.aload_n 1, 1) := by decide +kernel
theorem dX6_search_98 : decode cX6_search 98 = .ok (.iload_n 2, 1) := by decide +kernel
theorem dX6_search_99 : decode cX6_search 99 = .ok (.invokevirtual 60, 3) := by decide +kernel
theorem dX6_search_102 : decode cX6_search 102 = .ok (.iinc 3 1, 3) := by decide +kernel
theorem dX6_search_105 : decode cX6_search 105 = .ok (.goto (-49), 3) := by decide +kernel
theorem dX6_search_108 : decode cX6_search 108 = .ok (.return_, 1) := by decide +kernel
theorem dX6_empty_0 : decode cX6_empty 0 = .ok (.iconst 0, 1) := by decide +kernel
theorem dX6_empty_1 : decode cX6_empty 1 = .ok (.istore_n 1, 1) := by decide +kernel
theorem dX6_empty_2 : decode cX6_empty 2 = .ok (.iload_n 1, 1) := by decide +kernel
theorem dX6_empty_3 : decode cX6_empty 3 = .ok (.bipush 48, 2) := by decide +kernel
theorem dX6_empty_5 : decode cX6_empty 5 = .ok (.if_icmp .ge 14, 3) := by decide +kernel
theorem dX6_empty_8 : decode cX6_empty 8 = .ok (.aload_n 0, 1) := by decide +kernel
theorem dX6_empty_9 : decode cX6_empty 9 = .ok (.iload_n 1, 1) := by decide +kernel
theorem dX6_empty_10 : decode cX6_empty 10 = .ok (.ldc 64, 2) := by decide +kernel
theorem dX6_empty_12 : decode cX6_empty 12 = .ok (.iastore, 1) := by decide +kernel
theorem dX6_empty_13 : decode cX6_empty 13 = .ok (.iinc 1 1, 3) := by decide +kernel
theorem dX6_empty_16 : decode cX6_empty 16 = .ok (.goto (-14), 3) := by decide +kernel
theorem dX6_empty_19 : decode cX6_empty 19 = .ok (.return_, 1) := by decide +kernel
theorem dX6_lower_0 : decode cX6_lower 0 = .ok (.iload_n 1, 1) := by decide +kernel
theorem dX6_lower_1 : decode cX6_lower 1 = .ok (.bipush 6, 2) := by decide +kernel
theorem dX6_lower_3 : decode cX6_lower 3 = .ok (.imul, 1) := by decide +kernel
theorem dX6_lower_4 : decode cX6_lower 4 = .ok (.iload_n 2, 1) := by decide +kernel
theorem dX6_lower_5 : decode cX6_lower 5 = .ok (.iconst 5, 1) := by decide +kernel
theorem dX6_lower_6 : decode cX6_lower 6 = .ok (.invokestatic 65, 3) := by decide +kernel
theorem dX6_lower_9 : decode cX6_lower 9 = .ok (.iadd, 1) := by decide +kernel
theorem dX6_lower_10 : decode cX6_lower 10 = .ok (.istore 4, 2) := by decide +kernel
theorem dX6_lower_12 : decode cX6_lower 12 = .ok (.aload_n 0, 1) := by decide +kernel
theorem dX6_lower_13 : decode cX6_lower 13 = .ok (.iload 4, 2) := by decide +kernel
theorem dX6_lower_15 : decode cX6_lower 15 = .ok (.aload_n 0, 1) := by decide +kernel
theorem dX6_lower_16 : decode cX6_lower 16 = .ok (.iload 4, 2) := by decide +kernel
theorem dX6_lower_18 : decode cX6_lower 18 = .ok (.iaload, 1) := by decide +kernel
theorem dX6_lower_19 : decode cX6_lower 19 = .ok (.iload_n 3, 1) := by decide +kernel
theorem dX6_lower_20 : decode cX6_lower 20 = .ok (.invokestatic 65, 3) := by decide +kernel
theorem dX6_lower_23 : decode cX6_lower 23 = .ok (.iastore, 1) := by decide +kernel
theorem dX6_lower_24 : decode cX6_lower 24 = .ok (.return_, 1) := by decide +kernel
theorem dX6_spread_0 : decode cX6_spread 0 = .ok (.aload_n 0, 1) := by decide +kernel
theorem dX6_spread_1 : decode cX6_spread 1 = .ok (.getfield 18, 3) := by decide +kernel
theorem dX6_spread_4 : decode cX6_spread 4 = .ok (.iconst 0, 1) := by decide +kernel
theorem dX6_spread_5 : decode cX6_spread 5 = .ok (.aload_n 0, 1) := by decide +kernel
theorem dX6_spread_6 : decode cX6_spread 6 = .ok (.getfield 22, 3) := by decide +kernel
theorem dX6_spread_9 : decode cX6_spread 9 = .ok (.iconst 0, 1) := by decide +kernel
theorem dX6_spread_10 : decode cX6_spread 10 = .ok (.bipush 48, 2) := by decide +kernel
theorem dX6_spread_12 : decode cX6_spread 12 = .ok (.invokestatic 71, 3) := by decide +kernel
theorem dX6_spread_15 : decode cX6_spread 15 = .ok (.iload_n 2, 1) := by decide +kernel
theorem dX6_spread_16 : decode cX6_spread 16 = .ok (.ifCond .ne 4, 3) := by decide +kernel
theorem dX6_spread_19 : decode cX6_spread 19 = .ok (.return_, 1) := by decide +kernel
theorem dX6_spread_20 : decode cX6_spread 20 = .ok (.iconst 0, 1) := by decide +kernel
theorem dX6_spread_21 : decode cX6_spread 21 = .ok (.istore_n 3, 1) := by decide +kernel
theorem dX6_spread_22 : decode cX6_spread 22 = .ok (.iload_n 3, 1) := by decide +kernel
theorem dX6_spread_23 : decode cX6_spread 23 = .ok (.bipush 48, 2) := by decide +kernel
theorem dX6_spread_25 : decode cX6_spread 25 = .ok (.if_icmp .ge 35, 3) := by decide +kernel
theorem dX6_spread_28 : decode cX6_spread 28 = .ok (.aload_n 0, 1) := by decide +kernel
theorem dX6_spread_29 : decode cX6_spread 29 = .ok (.getfield 18, 3) := by decide +kernel
theorem dX6_spread_32 : decode cX6_spread 32 = .ok (.iload_n 3, 1) := by decide +kernel
theorem dX6_spread_33 : decode cX6_spread 33 = .ok (.iaload, 1) := by decide +kernel
theorem dX6_spread_34 : decode cX6_spread 34 = .ok (.ldc 64, 2) := by decide +kernel
theorem dX6_spread_36 : decode cX6_spread 36 = .ok (.if_icmp .eq 18, 3) := by decide +kernel
theorem dX6_spread_39 : decode cX6_spread 39 = .ok (.aload_n 0, 1) := by decide +kernel
theorem dX6_spread_40 : decode cX6_spread 40 = .ok (.aload_n 1, 1) := by decide +kernel
theorem dX6_spread_41 : decode cX6_spread 41 = .ok (.iload_n 3, 1) := by decide +kernel
theorem dX6_spread_42 : decode cX6_spread 42 = .ok (.bipush 6, 2) := by decide +kernel
theorem dX6_spread_44 : decode cX6_spread 44 = .ok (.idiv, 1) := by decide +kernel
theorem dX6_spread_45 : decode cX6_spread 45 = .ok (.aload_n 0, 1) := by decide +kernel
theorem dX6_spread_46 : decode cX6_spread 46 = .ok (.getfield 18, 3) := by decide +kernel
theorem dX6_spread_49 : decode cX6_spread 49 = .ok (.iload_n 3, 1) := by decide +kernel
theorem dX6_spread_50 : decode cX6_spread 50 = .ok (.iaload, 1) := by decide +kernel
theorem dX6_spread_51 : decode cX6_spread 51 = .ok (.invokevirtual 77, 3) := by decide +kernel
theorem dX6_spread_54 : decode cX6_spread 54 = .ok (.iinc 3 1, 3) := by decide +kernel
theorem dX6_spread_57 : decode cX6_spread 57 = .ok (.goto (-35), 3) := by decide +kernel
theorem dX6_spread_60 : decode cX6_spread 60 = .ok (.return_, 1) := by decide +kernel
theorem dX6_spreadFrom_0 : decode cX6_spreadFrom 0 = .ok (.iconst 0, 1) := by decide +kernel
theorem dX6_spreadFrom_1 : decode cX6_spreadFrom 1 = .ok (.istore 4, 2) := by decide +kernel
theorem dX6_spreadFrom_3 : decode cX6_spreadFrom 3 = .ok (.iload 4, 2) := by decide +kernel
theorem dX6_spreadFrom_5 : decode cX6_spreadFrom 5 = .ok (.bipush 8, 2) := by decide +kernel
theorem dX6_spreadFrom_7 : decode cX6_spreadFrom 7 = .ok (.if_icmp .ge 37, 3) := by decide +kernel
theorem dX6_spreadFrom_10 : decode cX6_spreadFrom 10 = .ok (.aload_n 1, 1) := by decide +kernel
theorem dX6_spreadFrom_11 : decode cX6_spreadFrom 11 = .ok (.iload_n 2, 1) := by decide +kernel
theorem dX6_spreadFrom_12 : decode cX6_spreadFrom 12 = .ok (.iload 4, 2) := by decide +kernel
theorem dX6_spreadFrom_14 : decode cX6_spreadFrom 14 = .ok (.invokevirtual 81, 3) := by decide +kernel
theorem dX6_spreadFrom_17 : decode cX6_spreadFrom 17 = .ok (.istore 5, 2) := by decide +kernel
theorem dX6_spreadFrom_19 : decode cX6_spreadFrom 19 = .ok (.iload 5, 2) := by decide +kernel
theorem dX6_spreadFrom_21 : decode cX6_spreadFrom 21 = .ok (.ifCond .le 17, 3) := by decide +kernel
theorem dX6_spreadFrom_24 : decode cX6_spreadFrom 24 = .ok (.aload_n 0, 1) := by decide +kernel
theorem dX6_spreadFrom_25 : decode cX6_spreadFrom 25 = .ok (.getfield 22, 3) := by decide +kernel
theorem dX6_spreadFrom_28 : decode cX6_spreadFrom 28 = .ok (.iload 4, 2) := by decide +kernel
theorem dX6_spreadFrom_30 : decode cX6_spreadFrom 30 = .ok (.iconst 0, 1) := by decide +kernel
theorem dX6_spreadFrom_31 : decode cX6_spreadFrom 31 = .ok (.iload_n 3, 1) := by decide +kernel
theorem dX6_spreadFrom_32 : decode cX6_spreadFrom 32 = .ok (.iload 5, 2) := by decide +kernel
theorem dX6_spreadFrom_34 : decode cX6_spreadFrom 34 = .ok (.iadd, 1) := by decide +kernel
theorem dX6_spreadFrom_35 : decode cX6_spreadFrom 35 = .ok (.invokestatic 51, 3) := by decide +kernel
theorem dX6_spreadFrom_38 : decode cX6_spreadFrom 38 = .ok (.iinc 4 1, 3) := by decide +kernel
theorem dX6_spreadFrom_41 : decode cX6_spreadFrom 41 = .ok (.goto (-38), 3) := by decide +kernel
theorem dX6_spreadFrom_44 : decode cX6_spreadFrom 44 = .ok (.return_, 1) := by decide +kernel
theorem dX6_passNight_0 : decode cX6_passNight 0 = .ok (.aload_n 1, 1) := by decide +kernel
theorem dX6_passNight_1 : decode cX6_passNight 1 = .ok (.aload_n 0, 1) := by decide +kernel
theorem dX6_passNight_2 : decode cX6_passNight 2 = .ok (.getfield 14, 3) := by decide +kernel
theorem dX6_passNight_5 : decode cX6_passNight 5 = .ok (.getfield 84, 3) := by decide +kernel
theorem dX6_passNight_8 : decode cX6_passNight 8 = .ok (.invokevirtual 87, 3) := by decide +kernel
theorem dX6_passNight_11 : decode cX6_passNight 11 = .ok (.istore_n 3, 1) := by decide +kernel
theorem dX6_passNight_12 : decode cX6_passNight 12 = .ok (.ldc 64, 2) := by decide +kernel
theorem dX6_passNight_14 : decode cX6_passNight 14 = .ok (.istore 4, 2) := by decide +kernel
theorem dX6_passNight_16 : decode cX6_passNight 16 = .ok (.aload_n 0, 1) := by decide +kernel
theorem dX6_passNight_17 : decode cX6_passNight 17 = .ok (.getfield 18, 3) := by decide +kernel
theorem dX6_passNight_20 : decode cX6_passNight 20 = .ok (.invokestatic 41, 3) := by decide +kernel
theorem dX6_passNight_23 : decode cX6_passNight 23 = .ok (.iconst 0, 1) := by decide +kernel
theorem dX6_passNight_24 : decode cX6_passNight 24 = .ok (.istore 5, 2) := by decide +kernel
theorem dX6_passNight_26 : decode cX6_passNight 26 = .ok (.iload 5, 2) := by decide +kernel
theorem dX6_passNight_28 : decode cX6_passNight 28 = .ok (.bipush 48, 2) := by decide +kernel
theorem dX6_passNight_30 : decode cX6_passNight 30 = .ok (.if_icmp .ge 148, 3) := by decide +kernel
theorem dX6_passNight_33 : decode cX6_passNight 33 = .ok (.aload_n 0, 1) := by decide +kernel
theorem dX6_passNight_34 : decode cX6_passNight 34 = .ok (.getfield 22, 3) := by decide +kernel
theorem dX6_passNight_37 : decode cX6_passNight 37 = .ok (.iload 5, 2) := by decide +kernel
theorem dX6_passNight_39 : decode cX6_passNight 39 = .ok (.iaload, 1) := by decide +kernel
theorem dX6_passNight_40 : decode cX6_passNight 40 = .ok (.ldc 64, 2) := by decide +kernel
theorem dX6_passNight_42 : decode cX6_passNight 42 = .ok (.if_icmp .ne 6, 3) := by decide +kernel
theorem dX6_passNight_45 : decode cX6_passNight 45 = .ok (.goto 127, 3) := by decide +kernel
theorem dX6_passNight_48 : decode cX6_passNight 48 = .ok (.aload_n 0, 1) := by decide +kernel
theorem dX6_passNight_49 : decode cX6_passNight 49 = .ok (.getfield 14, 3) := by decide +kernel
theorem dX6_passNight_52 : decode cX6_passNight 52 = .ok (.getfield 45, 3) := by decide +kernel
theorem dX6_passNight_55 : decode cX6_passNight 55 = .ok (.iload_n 2, 1) := by decide +kernel
theorem dX6_passNight_56 : decode cX6_passNight 56 = .ok (.iload 5, 2) := by decide +kernel
theorem dX6_passNight_58 : decode cX6_passNight 58 = .ok (.bipush 6, 2) := by decide +kernel
theorem dX6_passNight_60 : decode cX6_passNight 60 = .ok (.idiv, 1) := by decide +kernel
theorem dX6_passNight_61 : decode cX6_passNight 61 = .ok (.iastore, 1) := by decide +kernel
theorem dX6_passNight_62 : decode cX6_passNight 62 = .ok (.aload_n 0, 1) := by decide +kernel
theorem dX6_passNight_63 : decode cX6_passNight 63 = .ok (.getfield 14, 3) := by decide +kernel
theorem dX6_passNight_66 : decode cX6_passNight 66 = .ok (.getfield 48, 3) := by decide +kernel
theorem dX6_passNight_69 : decode cX6_passNight 69 = .ok (.iload_n 2, 1) := by decide +kernel
theorem dX6_passNight_70 : decode cX6_passNight 70 = .ok (.iload 5, 2) := by decide +kernel
theorem dX6_passNight_72 : decode cX6_passNight 72 = .ok (.bipush 6, 2) := by decide +kernel
theorem dX6_passNight_74 : decode cX6_passNight 74 = .ok (.irem, 1) := by decide +kernel
theorem dX6_passNight_75 : decode cX6_passNight 75 = .ok (.iastore, 1) := by decide +kernel
theorem dX6_passNight_76 : decode cX6_passNight 76 = .ok (.aload_n 1, 1) := by decide +kernel
theorem dX6_passNight_77 : decode cX6_passNight 77 = .ok (.aload_n 0, 1) := by decide +kernel
theorem dX6_passNight_78 : decode cX6_passNight 78 = .ok (.getfield 14, 3) := by decide +kernel
theorem dX6_passNight_81 : decode cX6_passNight 81 = .ok (.iload_n 2, 1) := by decide +kernel
theorem dX6_passNight_82 : decode cX6_passNight 82 = .ok (.invokevirtual 91, 3) := by decide +kernel
theorem dX6_passNight_85 : decode cX6_passNight 85 = .ok (.istore 6, 2) := by decide +kernel
theorem dX6_passNight_87 : decode cX6_passNight 87 = .ok (.iload 6, 2) := by decide +kernel
theorem dX6_passNight_89 : decode cX6_passNight 89 = .ok (.aload_n 1, 1) := by decide +kernel
theorem dX6_passNight_90 : decode cX6_passNight 90 = .ok (.getfield 95, 3) := by decide +kernel
theorem dX6_passNight_93 : decode cX6_passNight 93 = .ok (.if_icmp .ge 6, 3) := by decide +kernel
theorem dX6_passNight_96 : decode cX6_passNight 96 = .ok (.goto 76, 3) := by decide +kernel
theorem dX6_passNight_99 : decode cX6_passNight 99 = .ok (.aload_n 0, 1) := by decide +kernel
theorem dX6_passNight_100 : decode cX6_passNight 100 = .ok (.getfield 14, 3) := by decide +kernel
theorem dX6_passNight_103 : decode cX6_passNight 103 = .ok (.getfield 45, 3) := by decide +kernel
theorem dX6_passNight_106 : decode cX6_passNight 106 = .ok (.iload_n 2, 1) := by decide +kernel
theorem dX6_passNight_107 : decode cX6_passNight 107 = .ok (.iaload, 1) := by decide +kernel
theorem dX6_passNight_108 : decode cX6_passNight 108 = .ok (.iload_n 3, 1) := by decide +kernel
theorem dX6_passNight_109 : decode cX6_passNight 109 = .ok (.if_icmp .ne 29, 3) := by decide +kernel
theorem dX6_passNight_112 : decode cX6_passNight 112 = .ok (.iload 6, 2) := by decide +kernel
theorem dX6_passNight_114 : decode cX6_passNight 114 = .ok (.aload_n 1, 1) := by decide +kernel
theorem dX6_passNight_115 : decode cX6_passNight 115 = .ok (.getfield 98, 3) := by decide +kernel
theorem dX6_passNight_118 : decode cX6_passNight 118 = .ok (.if_icmp .ge 20, 3) := by decide +kernel
theorem dX6_passNight_121 : decode cX6_passNight 121 = .ok (.iload 4, 2) := by decide +kernel
theorem dX6_passNight_123 : decode cX6_passNight 123 = .ok (.aload_n 0, 1) := by decide +kernel
theorem dX6_passNight_124 : decode cX6_passNight 124 = .ok (.getfield 22, 3) := by decide +kernel
theorem dX6_passNight_127 : decode cX6_passNight 127 = .ok (.iload 5, 2) := by decide +kernel
theorem dX6_passNight_129 : decode cX6_passNight 129 = .ok (.iaload, 1) := by decide +kernel
theorem dX6_passNight_130 : decode cX6_passNight 130 = .ok (.invokestatic 65, 3) := by decide +kernel
theorem dX6_passNight_133 : decode cX6_passNight 133 = .ok (.istore 4, 2) := by decide +kernel
theorem dX6_passNight_135 : decode cX6_passNight 135 = .ok (.goto 37, 3) := by decide +kernel
theorem dX6_passNight_138 : decode cX6_passNight 138 = .ok (.aload_n 0, 1) := by decide +kernel
theorem dX6_passNight_139 : decode cX6_passNight 139 = .ok (.getfield 18, 3) := by decide +kernel
theorem dX6_passNight_142 : decode cX6_passNight 142 = .ok (.aload_n 0, 1) := by decide +kernel
theorem dX6_passNight_143 : decode cX6_passNight 143 = .ok (.getfield 14, 3) := by decide +kernel
theorem dX6_passNight_146 : decode cX6_passNight 146 = .ok (.getfield 45, 3) := by decide +kernel
theorem dX6_passNight_149 : decode cX6_passNight 149 = .ok (.iload_n 2, 1) := by decide +kernel
theorem dX6_passNight_150 : decode cX6_passNight 150 = .ok (.iaload, 1) := by decide +kernel
theorem dX6_passNight_151 : decode cX6_passNight 151 = .ok (.aload_n 0, 1) := by decide +kernel
theorem dX6_passNight_152 : decode cX6_passNight 152 = .ok (.getfield 14, 3) := by decide +kernel
theorem dX6_passNight_155 : decode cX6_passNight 155 = .ok (.getfield 48, 3) := by decide +kernel
theorem dX6_passNight_158 : decode cX6_passNight 158 = .ok (.iload_n 2, 1) := by decide +kernel
theorem dX6_passNight_159 : decode cX6_passNight 159 = .ok (.iaload, 1) := by decide +kernel
theorem dX6_passNight_160 : decode cX6_passNight 160 = .ok (.iconst 1, 1) := by decide +kernel
theorem dX6_passNight_161 : decode cX6_passNight 161 = .ok (.iadd, 1) := by decide +kernel
theorem dX6_passNight_162 : decode cX6_passNight 162 = .ok (.aload_n 0, 1) := by decide +kernel
theorem dX6_passNight_163 : decode cX6_passNight 163 = .ok (.getfield 22, 3) := by decide +kernel
theorem dX6_passNight_166 : decode cX6_passNight 166 = .ok (.iload 5, 2) := by decide +kernel
theorem dX6_passNight_168 : decode cX6_passNight 168 = .ok (.iaload, 1) := by decide +kernel
theorem dX6_passNight_169 : decode cX6_passNight 169 = .ok (.invokestatic 51, 3) := by decide +kernel
theorem dX6_passNight_172 : decode cX6_passNight 172 = .ok (.iinc 5 1, 3) := by decide +kernel
theorem dX6_passNight_175 : decode cX6_passNight 175 = .ok (.goto (-149), 3) := by decide +kernel
theorem dX6_passNight_178 : decode cX6_passNight 178 = .ok (.iload 4, 2) := by decide +kernel
theorem dX6_passNight_180 : decode cX6_passNight 180 = .ok (.ldc 64, 2) := by decide +kernel
theorem dX6_passNight_182 : decode cX6_passNight 182 = .ok (.if_icmp .eq 20, 3) := by decide +kernel
theorem dX6_passNight_185 : decode cX6_passNight 185 = .ok (.aload_n 0, 1) := by decide +kernel
theorem dX6_passNight_186 : decode cX6_passNight 186 = .ok (.aload_n 0, 1) := by decide +kernel
theorem dX6_passNight_187 : decode cX6_passNight 187 = .ok (.getfield 14, 3) := by decide +kernel
theorem dX6_passNight_190 : decode cX6_passNight 190 = .ok (.getfield 84, 3) := by decide +kernel
theorem dX6_passNight_193 : decode cX6_passNight 193 = .ok (.putfield 34, 3) := by decide +kernel
theorem dX6_passNight_196 : decode cX6_passNight 196 = .ok (.aload_n 0, 1) := by decide +kernel
theorem dX6_passNight_197 : decode cX6_passNight 197 = .ok (.iload 4, 2) := by decide +kernel
theorem dX6_passNight_199 : decode cX6_passNight 199 = .ok (.putfield 38, 3) := by decide +kernel
theorem dX6_passNight_202 : decode cX6_passNight 202 = .ok (.aload_n 0, 1) := by decide +kernel
theorem dX6_passNight_203 : decode cX6_passNight 203 = .ok (.getfield 14, 3) := by decide +kernel
theorem dX6_passNight_206 : decode cX6_passNight 206 = .ok (.dup, 1) := by decide +kernel
theorem dX6_passNight_207 : decode cX6_passNight 207 = .ok (.getfield 84, 3) := by decide +kernel
theorem dX6_passNight_210 : decode cX6_passNight 210 = .ok (.iconst 1, 1) := by decide +kernel
theorem dX6_passNight_211 : decode cX6_passNight 211 = .ok (.iadd, 1) := by decide +kernel
theorem dX6_passNight_212 : decode cX6_passNight 212 = .ok (.putfield 84, 3) := by decide +kernel
theorem dX6_passNight_215 : decode cX6_passNight 215 = .ok (.return_, 1) := by decide +kernel
theorem dX7_init_0 : decode cX7_init 0 = .ok (.aload_n 0, 1) := by decide +kernel
theorem dX7_init_1 : decode cX7_init 1 = .ok (.invokespecial 1, 3) := by decide +kernel
theorem dX7_init_4 : decode cX7_init 4 = .ok (.aload_n 0, 1) := by decide +kernel
theorem dX7_init_5 : decode cX7_init 5 = .ok (.new 7, 3) := by decide +kernel
theorem dX7_init_8 : decode cX7_init 8 = .ok (.dup, 1) := by decide +kernel
theorem dX7_init_9 : decode cX7_init 9 = .ok (.invokespecial 9, 3) := by decide +kernel
theorem dX7_init_12 : decode cX7_init 12 = .ok (.putfield 10, 3) := by decide +kernel
theorem dX7_init_15 : decode cX7_init 15 = .ok (.aload_n 0, 1) := by decide +kernel
theorem dX7_init_16 : decode cX7_init 16 = .ok (.new 16, 3) := by decide +kernel
theorem dX7_init_19 : decode cX7_init 19 = .ok (.dup, 1) := by decide +kernel
theorem dX7_init_20 : decode cX7_init 20 = .ok (.invokespecial 18, 3) := by decide +kernel
theorem dX7_init_23 : decode cX7_init 23 = .ok (.putfield 19, 3) := by decide +kernel
theorem dX7_init_26 : decode cX7_init 26 = .ok (.aload_n 0, 1) := by decide +kernel
theorem dX7_init_27 : decode cX7_init 27 = .ok (.new 7, 3) := by decide +kernel
theorem dX7_init_30 : decode cX7_init 30 = .ok (.dup, 1) := by decide +kernel
theorem dX7_init_31 : decode cX7_init 31 = .ok (.invokespecial 9, 3) := by decide +kernel
theorem dX7_init_34 : decode cX7_init 34 = .ok (.putfield 23, 3) := by decide +kernel
theorem dX7_init_37 : decode cX7_init 37 = .ok (.aload_n 0, 1) := by decide +kernel
theorem dX7_init_38 : decode cX7_init 38 = .ok (.iconst 2, 1) := by decide +kernel
theorem dX7_init_39 : decode cX7_init 39 = .ok (.anewarray 7, 3) := by decide +kernel
theorem dX7_init_42 : decode cX7_init 42 = .ok (.putfield 26, 3) := by decide +kernel
theorem dX7_init_45 : decode cX7_init 45 = .ok (.aload_n 0, 1) := by decide +kernel
theorem dX7_init_46 : decode cX7_init 46 = .ok (.iconst 2, 1) := by decide +kernel
theorem dX7_init_47 : decode cX7_init 47 = .ok (.anewarray 16, 3) := by decide +kernel
theorem dX7_init_50 : decode cX7_init 50 = .ok (.putfield 30, 3) := by decide +kernel
theorem dX7_init_53 : decode cX7_init 53 = .ok (.aload_n 0, 1) := by decide +kernel
theorem dX7_init_54 : decode cX7_init 54 = .ok (.iconst 2, 1) := by decide +kernel
theorem dX7_init_55 : decode cX7_init 55 = .ok (.newarray .boolean, 2) := by decide +kernel
theorem dX7_init_57 : decode cX7_init 57 = .ok (.putfield 34, 3) := by decide +kernel
theorem dX7_init_60 : decode cX7_init 60 = .ok (.aload_n 0, 1) := by decide +kernel
theorem dX7_init_61 : decode cX7_init 61 = .ok (.new 38, 3) := by decide +kernel
theorem dX7_init_64 : decode cX7_init 64 = .ok (.dup, 1) := by decide +kernel
theorem dX7_init_65 : decode cX7_init 65 = .ok (.invokespecial 40, 3) := by decide +kernel
theorem dX7_init_68 : decode cX7_init 68 = .ok (.putfield 41, 3) := by decide +kernel
theorem dX7_init_71 : decode cX7_init 71 = .ok (.aload_n 0, 1) := by decide +kernel
theorem dX7_init_72 : decode cX7_init 72 = .ok (.new 45, 3) := by decide +kernel
theorem dX7_init_75 : decode cX7_init 75 = .ok (.dup, 1) := by decide +kernel
theorem dX7_init_76 : decode cX7_init 76 = .ok (.invokespecial 47, 3) := by decide +kernel
theorem dX7_init_79 : decode cX7_init 79 = .ok (.putfield 48, 3) := by decide +kernel
theorem dX7_init_82 : decode cX7_init 82 = .ok (.aload_n 0, 1) := by decide +kernel
theorem dX7_init_83 : decode cX7_init 83 = .ok (.new 52, 3) := by decide +kernel
theorem dX7_init_86 : decode cX7_init 86 = .ok (.dup, 1) := by decide +kernel
theorem dX7_init_87 : decode cX7_init 87 = .ok (.invokespecial 54, 3) := by decide +kernel
theorem dX7_init_90 : decode cX7_init 90 = .ok (.putfield 55, 3) := by decide +kernel
theorem dX7_init_93 : decode cX7_init 93 = .ok (.aload_n 0, 1) := by decide +kernel
theorem dX7_init_94 : decode cX7_init 94 = .ok (.new 59, 3) := by decide +kernel
theorem dX7_init_97 : decode cX7_init 97 = .ok (.dup, 1) := by decide +kernel
theorem dX7_init_98 : decode cX7_init 98 = .ok (.invokespecial 61, 3) := by decide +kernel
theorem dX7_init_101 : decode cX7_init 101 = .ok (.putfield 62, 3) := by decide +kernel
theorem dX7_init_104 : decode cX7_init 104 = .ok (.aload_n 0, 1) := by decide +kernel
theorem dX7_init_105 : decode cX7_init 105 = .ok (.sipush 150, 3) := by decide +kernel
theorem dX7_init_108 : decode cX7_init 108 = .ok (.newarray .byte, 2) := by decide +kernel
theorem dX7_init_110 : decode cX7_init 110 = .ok (.putfield 66, 3) := by decide +kernel
theorem dX7_init_113 : decode cX7_init 113 = .ok (.aload_n 0, 1) := by decide +kernel
theorem dX7_init_114 : decode cX7_init 114 = .ok (.iconst 0, 1) := by decide +kernel
theorem dX7_init_115 : decode cX7_init 115 = .ok (.putfield 70, 3) := by decide +kernel
theorem dX7_init_118 : decode cX7_init 118 = .ok (.aload_n 0, 1) := by decide +kernel
theorem dX7_init_119 : decode cX7_init 119 = .ok (.lconst 0, 1) := by decide +kernel
theorem dX7_init_120 : decode cX7_init 120 = .ok (.putfield 74, 3) := by decide +kernel
theorem dX7_init_123 : decode cX7_init 123 = .ok (.aload_n 0, 1) := by decide +kernel
theorem dX7_init_124 : decode cX7_init 124 = .ok (.lconst 1, 1) := by decide +kernel
theorem dX7_init_125 : decode cX7_init 125 = .ok (.putfield 78, 3) := by decide +kernel
theorem dX7_init_128 : decode cX7_init 128 = .ok (.aload_n 0, 1) := by decide +kernel
theorem dX7_init_129 : decode cX7_init 129 = .ok (.iconst 0, 1) := by decide +kernel
theorem dX7_init_130 : decode cX7_init 130 = .ok (.putfield 81, 3) := by decide +kernel
theorem dX7_init_133 : decode cX7_init 133 = .ok (.aload_n 0, 1) := by decide +kernel
theorem dX7_init_134 : decode cX7_init 134 = .ok (.iconst 0, 1) := by decide +kernel
theorem dX7_init_135 : decode cX7_init 135 = .ok (.putfield 84, 3) := by decide +kernel
theorem dX7_init_138 : decode cX7_init 138 = .ok (.aload_n 0, 1) := by decide +kernel
theorem dX7_init_139 : decode cX7_init 139 = .ok (.iconst 0, 1) := by decide +kernel
theorem dX7_init_140 : decode cX7_init 140 = .ok (.putfield 87, 3) := by decide +kernel
theorem dX7_init_143 : decode cX7_init 143 = .ok (.iconst 0, 1) := by decide +kernel
theorem dX7_init_144 : decode cX7_init 144 = .ok (.istore_n 1, 1) := by decide +kernel
theorem dX7_init_145 : decode cX7_init 145 = .ok (.iload_n 1, 1) := by decide +kernel
theorem dX7_init_146 : decode cX7_init 146 = .ok (.iconst 2, 1) := by decide +kernel
theorem dX7_init_147 : decode cX7_init 147 = .ok (.if_icmp .ge 35, 3) := by decide +kernel
theorem dX7_init_150 : decode cX7_init 150 = .ok (.aload_n 0, 1) := by decide +kernel
theorem dX7_init_151 : decode cX7_init 151 = .ok (.getfield 26, 3) := by decide +kernel
theorem dX7_init_154 : decode cX7_init 154 = .ok (.iload_n 1, 1) := by decide +kernel
theorem dX7_init_155 : decode cX7_init 155 = .ok (.new 7, 3) := by decide +kernel
theorem dX7_init_158 : decode cX7_init 158 = .ok (.dup, 1) := by decide +kernel
theorem dX7_init_159 : decode cX7_init 159 = .ok (.invokespecial 9, 3) := by decide +kernel
theorem dX7_init_162 : decode cX7_init 162 = .ok (.aastore, 1) := by decide +kernel
theorem dX7_init_163 : decode cX7_init 163 = .ok (.aload_n 0, 1) := by decide +kernel
theorem dX7_init_164 : decode cX7_init 164 = .ok (.getfield 30, 3) := by decide +kernel
theorem dX7_init_167 : decode cX7_init 167 = .ok (.iload_n 1, 1) := by decide +kernel
theorem dX7_init_168 : decode cX7_init 168 = .ok (.new 16, 3) := by decide +kernel
theorem dX7_init_171 : decode cX7_init 171 = .ok (.dup, 1) := by decide +kernel
theorem dX7_init_172 : decode cX7_init 172 = .ok (.invokespecial 18, 3) := by decide +kernel
theorem dX7_init_175 : decode cX7_init 175 = .ok (.aastore, 1) := by decide +kernel
theorem dX7_init_176 : decode cX7_init 176 = .ok (.iinc 1 1, 3) := by decide +kernel
theorem dX7_init_179 : decode cX7_init 179 = .ok (.goto (-34), 3) := by decide +kernel
theorem dX7_init_182 : decode cX7_init 182 = .ok (.return_, 1) := by decide +kernel
theorem dX7_house_0 : decode cX7_house 0 = .ok (.iload_n 1, 1) := by decide +kernel
theorem dX7_house_1 : decode cX7_house 1 = .ok (.iconst 0, 1) := by decide +kernel
theorem dX7_house_2 : decode cX7_house 2 = .ok (.bipush 25, 2) := by decide +kernel
theorem dX7_house_4 : decode cX7_house 4 = .ok (.invokestatic 90, 3) := by decide +kernel
theorem dX7_house_7 : decode cX7_house 7 = .ok (.ifCond .eq 13, 3) := by decide +kernel
theorem dX7_house_10 : decode cX7_house 10 = .ok (.iload_n 2, 1) := by decide +kernel
theorem dX7_house_11 : decode cX7_house 11 = .ok (.iconst 0, 1) := by decide +kernel
theorem dX7_house_12 : decode cX7_house 12 = .ok (.bipush 25, 2) := by decide +kernel
theorem dX7_house_14 : decode cX7_house 14 = .ok (.invokestatic 90, 3) := by decide +kernel
theorem dX7_house_17 : decode cX7_house 17 = .ok (.ifCond .ne 8, 3) := by decide +kernel
theorem dX7_house_20 : decode cX7_house 20 = .ok (.aload_n 0, 1) := by decide +kernel
theorem dX7_house_21 : decode cX7_house 21 = .ok (.invokevirtual 94, 3) := by decide +kernel
theorem dX7_house_24 : decode cX7_house 24 = .ok (.ireturn, 1) := by decide +kernel
theorem dX7_house_25 : decode cX7_house 25 = .ok (.aload_n 0, 1) := by decide +kernel
theorem dX7_house_26 : decode cX7_house 26 = .ok (.getfield 10, 3) := by decide +kernel
theorem dX7_house_29 : decode cX7_house 29 = .ok (.getfield 98, 3) := by decide +kernel
theorem dX7_house_32 : decode cX7_house 32 = .ok (.istore_n 3, 1) := by decide +kernel
theorem dX7_house_33 : decode cX7_house 33 = .ok (.aload_n 0, 1) := by decide +kernel
theorem dX7_house_34 : decode cX7_house 34 = .ok (.getfield 10, 3) := by decide +kernel
theorem dX7_house_37 : decode cX7_house 37 = .ok (.iload_n 1, 1) := by decide +kernel
theorem dX7_house_38 : decode cX7_house 38 = .ok (.iload_n 2, 1) := by decide +kernel
theorem dX7_house_39 : decode cX7_house 39 = .ok (.invokevirtual 101, 3) := by decide +kernel
theorem dX7_house_42 : decode cX7_house 42 = .ok (.aload_n 0, 1) := by decide +kernel
theorem dX7_house_43 : decode cX7_house 43 = .ok (.getfield 19, 3) := by decide +kernel
theorem dX7_house_46 : decode cX7_house 46 = .ok (.iconst 0, 1) := by decide +kernel
theorem dX7_house_47 : decode cX7_house 47 = .ok (.putfield 105, 3) := by decide +kernel
theorem dX7_house_50 : decode cX7_house 50 = .ok (.iload_n 3, 1) := by decide +kernel
theorem dX7_house_51 : decode cX7_house 51 = .ok (.ireturn, 1) := by decide +kernel
theorem dX7_room_0 : decode cX7_room 0 = .ok (.iload_n 1, 1) := by decide +kernel
theorem dX7_room_1 : decode cX7_room 1 = .ok (.invokestatic 108, 3) := by decide +kernel
theorem dX7_room_4 : decode cX7_room 4 = .ok (.ifCond .eq 13, 3) := by decide +kernel
theorem dX7_room_7 : decode cX7_room 7 = .ok (.iload_n 2, 1) := by decide +kernel
theorem dX7_room_8 : decode cX7_room 8 = .ok (.iconst 0, 1) := by decide +kernel
theorem dX7_room_9 : decode cX7_room 9 = .ok (.bipush 9, 2) := by decide +kernel
theorem dX7_room_11 : decode cX7_room 11 = .ok (.invokestatic 90, 3) := by decide +kernel
theorem dX7_room_14 : decode cX7_room 14 = .ok (.ifCond .ne 8, 3) := by decide +kernel
theorem dX7_room_17 : decode cX7_room 17 = .ok (.aload_n 0, 1) := by decide +kernel
theorem dX7_room_18 : decode cX7_room 18 = .ok (.invokevirtual 94, 3) := by decide +kernel
theorem dX7_room_21 : decode cX7_room 21 = .ok (.ireturn, 1) := by decide +kernel
theorem dX7_room_22 : decode cX7_room 22 = .ok (.aload_n 0, 1) := by decide +kernel
theorem dX7_room_23 : decode cX7_room 23 = .ok (.getfield 10, 3) := by decide +kernel
theorem dX7_room_26 : decode cX7_room 26 = .ok (.getfield 112, 3) := by decide +kernel
theorem dX7_room_29 : decode cX7_room 29 = .ok (.iload_n 1, 1) := by decide +kernel
theorem dX7_room_30 : decode cX7_room 30 = .ok (.iaload, 1) := by decide +kernel
theorem dX7_room_31 : decode cX7_room 31 = .ok (.istore_n 3, 1) := by decide +kernel
theorem dX7_room_32 : decode cX7_room 32 = .ok (.aload_n 0, 1) := by decide +kernel
theorem dX7_room_33 : decode cX7_room 33 = .ok (.getfield 10, 3) := by decide +kernel
theorem dX7_room_36 : decode cX7_room 36 = .ok (.getfield 112, 3) := by decide +kernel
theorem dX7_room_39 : decode cX7_room 39 = .ok (.iload_n 1, 1) := by decide +kernel
theorem dX7_room_40 : decode cX7_room 40 = .ok (.iload_n 2, 1) := by decide +kernel
theorem dX7_room_41 : decode cX7_room 41 = .ok (.iastore, 1) := by decide +kernel
theorem dX7_room_42 : decode cX7_room 42 = .ok (.iload_n 3, 1) := by decide +kernel
theorem dX7_room_43 : decode cX7_room 43 = .ok (.ireturn, 1) := by decide +kernel
theorem dX7_door_0 : decode cX7_door 0 = .ok (.iload_n 1, 1) := by decide +kernel
theorem dX7_door_1 : decode cX7_door 1 = .ok (.invokestatic 108, 3) := by decide +kernel
theorem dX7_door_4 : decode cX7_door 4 = .ok (.ifCond .eq 25, 3) := by decide +kernel
theorem dX7_door_7 : decode cX7_door 7 = .ok (.iload_n 2, 1) := by decide +kernel
theorem dX7_door_8 : decode cX7_door 8 = .ok (.invokestatic 108, 3) := by decide +kernel
theorem dX7_door_11 : decode cX7_door 11 = .ok (.ifCond .eq 18, 3) := by decide +kernel
theorem dX7_door_14 : decode cX7_door 14 = .ok (.iload_n 1, 1) := by decide +kernel
theorem dX7_door_15 : decode cX7_door 15 = .ok (.iload_n 2, 1) := by decide +kernel
theorem dX7_door_16 : decode cX7_door 16 = .ok (.if_icmp .eq 13, 3) := by decide +kernel
theorem dX7_door_19 : decode cX7_door 19 = .ok (.iload_n 3, 1) := by decide +kernel
theorem dX7_door_20 : decode cX7_door 20 = .ok (.iconst 1, 1) := by decide +kernel
theorem dX7_door_21 : decode cX7_door 21 = .ok (.bipush 9, 2) := by decide +kernel
theorem dX7_door_23 : decode cX7_door 23 = .ok (.invokestatic 90, 3) := by decide +kernel
theorem dX7_door_26 : decode cX7_door 26 = .ok (.ifCond .ne 8, 3) := by decide +kernel
theorem dX7_door_29 : decode cX7_door 29 = .ok (.aload_n 0, 1) := by decide +kernel
theorem dX7_door_30 : decode cX7_door 30 = .ok (.invokevirtual 94, 3) := by decide +kernel
theorem dX7_door_33 : decode cX7_door 33 = .ok (.ireturn, 1) := by decide +kernel
theorem dX7_door_34 : decode cX7_door 34 = .ok (.aload_n 0, 1) := by decide +kernel
theorem dX7_door_35 : decode cX7_door 35 = .ok (.getfield 10, 3) := by decide +kernel
theorem dX7_door_38 : decode cX7_door 38 = .ok (.iload_n 1, 1) := by decide +kernel
theorem dX7_door_39 : decode cX7_door 39 = .ok (.iload_n 2, 1) := by decide +kernel
theorem dX7_door_40 : decode cX7_door 40 = .ok (.invokevirtual 116, 3) := by decide +kernel
theorem dX7_door_43 : decode cX7_door 43 = .ok (.istore 4, 2) := by decide +kernel
theorem dX7_door_45 : decode cX7_door 45 = .ok (.aload_n 0, 1) := by decide +kernel
theorem dX7_door_46 : decode cX7_door 46 = .ok (.getfield 10, 3) := by decide +kernel
theorem dX7_door_49 : decode cX7_door 49 = .ok (.iload_n 1, 1) := by decide +kernel
theorem dX7_door_50 : decode cX7_door 50 = .ok (.iload_n 2, 1) := by decide +kernel
theorem dX7_door_51 : decode cX7_door 51 = .ok (.iload_n 3, 1) := by decide +kernel
theorem dX7_door_52 : decode cX7_door 52 = .ok (.invokevirtual 120, 3) := by decide +kernel
theorem dX7_door_55 : decode cX7_door 55 = .ok (.iload 4, 2) := by decide +kernel
theorem dX7_door_57 : decode cX7_door 57 = .ok (.ireturn, 1) := by decide +kernel
theorem dX7_list_0 : decode cX7_list 0 = .ok (.iload_n 1, 1) := by decide +kernel
theorem dX7_list_1 : decode cX7_list 1 = .ok (.invokestatic 108, 3) := by decide +kernel
theorem dX7_list_4 : decode cX7_list 4 = .ok (.ifCond .ne 8, 3) := by decide +kernel
theorem dX7_list_7 : decode cX7_list 7 = .ok (.aload_n 0, 1) := by decide +kernel
theorem dX7_list_8 : decode cX7_list 8 = .ok (.invokevirtual 94, 3) := by decide +kernel
theorem dX7_list_11 : decode cX7_list 11 = .ok (.ireturn, 1) := by decide +kernel
theorem dX7_list_12 : decode cX7_list 12 = .ok (.aload_n 0, 1) := by decide +kernel
theorem dX7_list_13 : decode cX7_list 13 = .ok (.getfield 10, 3) := by decide +kernel
theorem dX7_list_16 : decode cX7_list 16 = .ok (.getfield 124, 3) := by decide +kernel
theorem dX7_list_19 : decode cX7_list 19 = .ok (.bipush 12, 2) := by decide +kernel
theorem dX7_list_21 : decode cX7_list 21 = .ok (.if_icmp .lt 8, 3) := by decide +kernel
theorem dX7_list_24 : decode cX7_list 24 = .ok (.aload_n 0, 1) := by decide +kernel
theorem dX7_list_25 : decode cX7_list 25 = .ok (.invokevirtual 127, 3) := by decide +kernel
theorem dX7_list_28 : decode cX7_list 28 = .ok (.ireturn, 1) := by decide +kernel
theorem dX7_list_29 : decode cX7_list 29 = .ok (.aload_n 0, 1) := by decide +kernel
theorem dX7_list_30 : decode cX7_list 30 = .ok (.getfield 10, 3) := by decide +kernel
theorem dX7_list_33 : decode cX7_list 33 = .ok (.getfield 130, 3) := by decide +kernel
theorem dX7_list_36 : decode cX7_list 36 = .ok (.aload_n 0, 1) := by decide +kernel
theorem dX7_list_37 : decode cX7_list 37 = .ok (.getfield 10, 3) := by decide +kernel
theorem dX7_list_40 : decode cX7_list 40 = .ok (.getfield 124, 3) := by decide +kernel
theorem dX7_list_43 : decode cX7_list 43 = .ok (.iload_n 1, 1) := by decide +kernel
theorem dX7_list_44 : decode cX7_list 44 = .ok (.iastore, 1) := by decide +kernel
theorem dX7_list_45 : decode cX7_list 45 = .ok (.aload_n 0, 1) := by decide +kernel
theorem dX7_list_46 : decode cX7_list 46 = .ok (.getfield 10, 3) := by decide +kernel
theorem dX7_list_49 : decode cX7_list 49 = .ok (.dup, 1) := by decide +kernel
theorem dX7_list_50 : decode cX7_list 50 = .ok (.getfield 124, 3) := by decide +kernel
theorem dX7_list_53 : decode cX7_list 53 = .ok (.iconst 1, 1) := by decide +kernel
theorem dX7_list_54 : decode cX7_list 54 = .ok (.iadd, 1) := by decide +kernel
theorem dX7_list_55 : decode cX7_list 55 = .ok (.putfield 124, 3) := by decide +kernel
theorem dX7_list_58 : decode cX7_list 58 = .ok (.aload_n 0, 1) := by decide +kernel
theorem dX7_list_59 : decode cX7_list 59 = .ok (.getfield 10, 3) := by decide +kernel
theorem dX7_list_62 : decode cX7_list 62 = .ok (.getfield 124, 3) := by decide +kernel
theorem dX7_list_65 : decode cX7_list 65 = .ok (.ireturn, 1) := by decide +kernel
theorem dX7_only_0 : decode cX7_only 0 = .ok (.iload_n 1, 1) := by decide +kernel
theorem dX7_only_1 : decode cX7_only 1 = .ok (.invokestatic 108, 3) := by decide +kernel
theorem dX7_only_4 : decode cX7_only 4 = .ok (.ifCond .ne 8, 3) := by decide +kernel
theorem dX7_only_7 : decode cX7_only 7 = .ok (.aload_n 0, 1) := by decide +kernel
theorem dX7_only_8 : decode cX7_only 8 = .ok (.invokevirtual 94, 3) := by decide +kernel
theorem dX7_only_11 : decode cX7_only 11 = .ok (.ireturn, 1) := by decide +kernel
theorem dX7_only_12 : decode cX7_only 12 = .ok (.aload_n 0, 1) := by decide +kernel
theorem dX7_only_13 : decode cX7_only 13 = .ok (.getfield 10, 3) := by decide +kernel
theorem dX7_only_16 : decode cX7_only 16 = .ok (.getfield 124, 3) := by decide +kernel
theorem dX7_only_19 : decode cX7_only 19 = .ok (.istore_n 2, 1) := by decide +kernel
theorem dX7_only_20 : decode cX7_only 20 = .ok (.aload_n 0, 1) := by decide +kernel
theorem dX7_only_21 : decode cX7_only 21 = .ok (.getfield 10, 3) := by decide +kernel
theorem dX7_only_24 : decode cX7_only 24 = .ok (.getfield 130, 3) := by decide +kernel
theorem dX7_only_27 : decode cX7_only 27 = .ok (.iconst 0, 1) := by decide +kernel
theorem dX7_only_28 : decode cX7_only 28 = .ok (.iload_n 1, 1) := by decide +kernel
theorem dX7_only_29 : decode cX7_only 29 = .ok (.iastore, 1) := by decide +kernel
theorem dX7_only_30 : decode cX7_only 30 = .ok (.aload_n 0, 1) := by decide +kernel
theorem dX7_only_31 : decode cX7_only 31 = .ok (.getfield 10, 3) := by decide +kernel
theorem dX7_only_34 : decode cX7_only 34 = .ok (.iconst 1, 1) := by decide +kernel
theorem dX7_only_35 : decode cX7_only 35 = .ok (.putfield 124, 3) := by decide +kernel
theorem dX7_only_38 : decode cX7_only 38 = .ok (.iload_n 2, 1) := by decide +kernel
theorem dX7_only_39 : decode cX7_only 39 = .ok (.ireturn, 1) := by decide +kernel
theorem dX7_eyes_0 : decode cX7_eyes 0 = .ok (.iload_n 1, 1) := by decide +kernel
theorem dX7_eyes_1 : decode cX7_eyes 1 = .ok (.iconst 0, 1) := by decide +kernel
theorem dX7_eyes_2 : decode cX7_eyes 2 = .ok (.bipush 25, 2) := by decide +kernel
theorem dX7_eyes_4 : decode cX7_eyes 4 = .ok (.invokestatic 90, 3) := by decide +kernel
theorem dX7_eyes_7 : decode cX7_eyes 7 = .ok (.ifCond .ne 8, 3) := by decide +kernel
theorem dX7_eyes_10 : decode cX7_eyes 10 = .ok (.aload_n 0, 1) := by decide +kernel
theorem dX7_eyes_11 : decode cX7_eyes 11 = .ok (.invokevirtual 94, 3) := by decide +kernel
theorem dX7_eyes_14 : decode cX7_eyes 14 = .ok (.ireturn, 1) := by decide +kernel
theorem dX7_eyes_15 : decode cX7_eyes 15 = .ok (.aload_n 0, 1) := by decide +kernel
theorem dX7_eyes_16 : decode cX7_eyes 16 = .ok (.getfield 10, 3) := by decide +kernel
theorem dX7_eyes_19 : decode cX7_eyes 19 = .ok (.getfield 133, 3) := by decide +kernel
theorem dX7_eyes_22 : decode cX7_eyes 22 = .ok (.istore_n 2, 1) := by decide +kernel
theorem dX7_eyes_23 : decode cX7_eyes 23 = .ok (.aload_n 0, 1) := by decide +kernel
theorem dX7_eyes_24 : decode cX7_eyes 24 = .ok (.getfield 10, 3) := by decide +kernel
theorem dX7_eyes_27 : decode cX7_eyes 27 = .ok (.iload_n 1, 1) := by decide +kernel
theorem dX7_eyes_28 : decode cX7_eyes 28 = .ok (.putfield 133, 3) := by decide +kernel
theorem dX7_eyes_31 : decode cX7_eyes 31 = .ok (.iload_n 2, 1) := by decide +kernel
theorem dX7_eyes_32 : decode cX7_eyes 32 = .ok (.ireturn, 1) := by decide +kernel
theorem dX7_heir_0 : decode cX7_heir 0 = .ok (.iload_n 1, 1) := by decide +kernel
theorem dX7_heir_1 : decode cX7_heir 1 = .ok (.iconst 0, 1) := by decide +kernel
theorem dX7_heir_2 : decode cX7_heir 2 = .ok (.iconst 5, 1) := by decide +kernel
theorem dX7_heir_3 : decode cX7_heir 3 = .ok (.invokestatic 90, 3) := by decide +kernel
theorem dX7_heir_6 : decode cX7_heir 6 = .ok (.ifCond .eq 20, 3) := by decide +kernel
theorem dX7_heir_9 : decode cX7_heir 9 = .ok (.iload_n 2, 1) := by decide +kernel
theorem dX7_heir_10 : decode cX7_heir 10 = .ok (.invokestatic 108, 3) := by decide +kernel
theorem dX7_heir_13 : decode cX7_heir 13 = .ok (.ifCond .eq 13, 3) := by decide +kernel
theorem dX7_heir_16 : decode cX7_heir 16 = .ok (.iload_n 3, 1) := by decide +kernel
theorem dX7_heir_17 : decode cX7_heir 17 = .ok (.iconst 0, 1) := by decide +kernel
theorem dX7_heir_18 : decode cX7_heir 18 = .ok (.bipush 9, 2) := by decide +kernel
theorem dX7_heir_20 : decode cX7_heir 20 = .ok (.invokestatic 90, 3) := by decide +kernel
theorem dX7_heir_23 : decode cX7_heir 23 = .ok (.ifCond .ne 8, 3) := by decide +kernel
theorem dX7_heir_26 : decode cX7_heir 26 = .ok (.aload_n 0, 1) := by decide +kernel
theorem dX7_heir_27 : decode cX7_heir 27 = .ok (.invokevirtual 94, 3) := by decide +kernel
theorem dX7_heir_30 : decode cX7_heir 30 = .ok (.ireturn, 1) := by decide +kernel
theorem dX7_heir_31 : decode cX7_heir 31 = .ok (.aload_n 0, 1) := by decide +kernel
theorem dX7_heir_32 : decode cX7_heir 32 = .ok (.getfield 10, 3) := by decide +kernel
theorem dX7_heir_35 : decode cX7_heir 35 = .ok (.getfield 98, 3) := by decide +kernel
theorem dX7_heir_38 : decode cX7_heir 38 = .ok (.bipush 6, 2) := by decide +kernel
theorem dX7_heir_40 : decode cX7_heir 40 = .ok (.if_icmp .lt 8, 3) := by decide +kernel
theorem dX7_heir_43 : decode cX7_heir 43 = .ok (.aload_n 0, 1) := by decide +kernel
theorem dX7_heir_44 : decode cX7_heir 44 = .ok (.invokevirtual 127, 3) := by decide +kernel
theorem dX7_heir_47 : decode cX7_heir 47 = .ok (.ireturn, 1) := by decide +kernel
theorem dX7_heir_48 : decode cX7_heir 48 = .ok (.aload_n 0, 1) := by decide +kernel
theorem dX7_heir_49 : decode cX7_heir 49 = .ok (.getfield 19, 3) := by decide +kernel
theorem dX7_heir_52 : decode cX7_heir 52 = .ok (.iconst 0, 1) := by decide +kernel
theorem dX7_heir_53 : decode cX7_heir 53 = .ok (.putfield 105, 3) := by decide +kernel
theorem dX7_heir_56 : decode cX7_heir 56 = .ok (.aload_n 0, 1) := by decide +kernel
theorem dX7_heir_57 : decode cX7_heir 57 = .ok (.getfield 10, 3) := by decide +kernel
theorem dX7_heir_60 : decode cX7_heir 60 = .ok (.iload_n 1, 1) := by decide +kernel
theorem dX7_heir_61 : decode cX7_heir 61 = .ok (.iload_n 2, 1) := by decide +kernel
theorem dX7_heir_62 : decode cX7_heir 62 = .ok (.iload_n 3, 1) := by decide +kernel
theorem dX7_heir_63 : decode cX7_heir 63 = .ok (.invokevirtual 136, 3) := by decide +kernel
theorem dX7_heir_66 : decode cX7_heir 66 = .ok (.ireturn, 1) := by decide +kernel
theorem dX7_type_0 : decode cX7_type 0 = .ok (.iload_n 1, 1) := by decide +kernel
theorem dX7_type_1 : decode cX7_type 1 = .ok (.iconst 0, 1) := by decide +kernel
theorem dX7_type_2 : decode cX7_type 2 = .ok (.bipush 127, 2) := by decide +kernel
theorem dX7_type_4 : decode cX7_type 4 = .ok (.invokestatic 90, 3) := by decide +kernel
theorem dX7_type_7 : decode cX7_type 7 = .ok (.ifCond .ne 8, 3) := by decide +kernel
theorem dX7_type_10 : decode cX7_type 10 = .ok (.aload_n 0, 1) := by decide +kernel
theorem dX7_type_11 : decode cX7_type 11 = .ok (.invokevirtual 94, 3) := by decide +kernel
theorem dX7_type_14 : decode cX7_type 14 = .ok (.ireturn, 1) := by decide +kernel
theorem dX7_type_15 : decode cX7_type 15 = .ok (.aload_n 0, 1) := by decide +kernel
theorem dX7_type_16 : decode cX7_type 16 = .ok (.getfield 70, 3) := by decide +kernel
theorem dX7_type_19 : decode cX7_type 19 = .ok (.sipush 150, 3) := by decide +kernel
theorem dX7_type_22 : decode cX7_type 22 = .ok (.if_icmp .lt 8, 3) := by decide +kernel
theorem dX7_type_25 : decode cX7_type 25 = .ok (.aload_n 0, 1) := by decide +kernel
theorem dX7_type_26 : decode cX7_type 26 = .ok (.invokevirtual 127, 3) := by decide +kernel
theorem dX7_type_29 : decode cX7_type 29 = .ok (.ireturn, 1) := by decide +kernel
theorem dX7_type_30 : decode cX7_type 30 = .ok (.aload_n 0, 1) := by decide +kernel
theorem dX7_type_31 : decode cX7_type 31 = .ok (.getfield 66, 3) := by decide +kernel
theorem dX7_type_34 : decode cX7_type 34 = .ok (.aload_n 0, 1) := by decide +kernel
theorem dX7_type_35 : decode cX7_type 35 = .ok (.getfield 70, 3) := by decide +kernel
theorem dX7_type_38 : decode cX7_type 38 = .ok (.iload_n 1, 1) := by decide +kernel
theorem dX7_type_39 : decode cX7_type 39 = .ok (.i2b, 1) := by decide +kernel
theorem dX7_type_40 : decode cX7_type 40 = .ok (.bastore, 1) := by decide +kernel
theorem dX7_type_41 : decode cX7_type 41 = .ok (.aload_n 0, 1) := by decide +kernel
theorem dX7_type_42 : decode cX7_type 42 = .ok (.dup, 1) := by decide +kernel
theorem dX7_type_43 : decode cX7_type 43 = .ok (.getfield 70, 3) := by decide +kernel
theorem dX7_type_46 : decode cX7_type 46 = .ok (.iconst 1, 1) := by decide +kernel
theorem dX7_type_47 : decode cX7_type 47 = .ok (.iadd, 1) := by decide +kernel
theorem dX7_type_48 : decode cX7_type 48 = .ok (.putfield 70, 3) := by decide +kernel
theorem dX7_type_51 : decode cX7_type 51 = .ok (.aload_n 0, 1) := by decide +kernel
theorem dX7_type_52 : decode cX7_type 52 = .ok (.getfield 70, 3) := by decide +kernel
theorem dX7_type_55 : decode cX7_type 55 = .ok (.ireturn, 1) := by decide +kernel
theorem dX7_clear_0 : decode cX7_clear 0 = .ok (.aload_n 0, 1) := by decide +kernel
theorem dX7_clear_1 : decode cX7_clear 1 = .ok (.getfield 70, 3) := by decide +kernel
theorem dX7_clear_4 : decode cX7_clear 4 = .ok (.istore_n 1, 1) := by decide +kernel
theorem dX7_clear_5 : decode cX7_clear 5 = .ok (.aload_n 0, 1) := by decide +kernel
theorem dX7_clear_6 : decode cX7_clear 6 = .ok (.iconst 0, 1) := by decide +kernel
theorem dX7_clear_7 : decode cX7_clear 7 = .ok (.putfield 70, 3) := by decide +kernel
theorem dX7_clear_10 : decode cX7_clear 10 = .ok (.iload_n 1, 1) := by decide +kernel
theorem dX7_clear_11 : decode cX7_clear 11 = .ok (.ireturn, 1) := by decide +kernel
theorem dX7_read_0 : decode cX7_read 0 = .ok (.aload_n 0, 1) := by decide +kernel
theorem dX7_read_1 : decode cX7_read 1 = .ok (.getfield 62, 3) := by decide +kernel
theorem dX7_read_4 : decode cX7_read 4 = .ok (.aload_n 0, 1) := by decide +kernel
theorem dX7_read_5 : decode cX7_read 5 = .ok (.getfield 23, 3) := by decide +kernel
theorem dX7_read_8 : decode cX7_read 8 = .ok (.aload_n 0, 1) := by decide +kernel
theorem dX7_read_9 : decode cX7_read 9 = .ok (.getfield 66, 3) := by decide +kernel
theorem dX7_read_12 : decode cX7_read 12 = .ok (.aload_n 0, 1) := by decide +kernel
theorem dX7_read_13 : decode cX7_read 13 = .ok (.getfield 70, 3) := by decide +kernel
theorem dX7_read_16 : decode cX7_read 16 = .ok (.invokevirtual 140, 3) := by decide +kernel
theorem dX7_read_19 : decode cX7_read 19 = .ok (.istore_n 1, 1) := by decide +kernel
theorem dX7_read_20 : decode cX7_read 20 = .ok (.iload_n 1, 1) := by decide +kernel
theorem dX7_read_21 : decode cX7_read 21 = .ok (.ifCond .lt 22, 3) := by decide +kernel
theorem dX7_read_24 : decode cX7_read 24 = .ok (.aload_n 0, 1) := by decide +kernel
theorem dX7_read_25 : decode cX7_read 25 = .ok (.getfield 10, 3) := by decide +kernel
theorem dX7_read_28 : decode cX7_read 28 = .ok (.aload_n 0, 1) := by decide +kernel
theorem dX7_read_29 : decode cX7_read 29 = .ok (.getfield 23, 3) := by decide +kernel
theorem dX7_read_32 : decode cX7_read 32 = .ok (.invokevirtual 144, 3) := by decide +kernel
theorem dX7_read_35 : decode cX7_read 35 = .ok (.aload_n 0, 1) := by decide +kernel
theorem dX7_read_36 : decode cX7_read 36 = .ok (.getfield 19, 3) := by decide +kernel
theorem dX7_read_39 : decode cX7_read 39 = .ok (.iconst 0, 1) := by decide +kernel
theorem dX7_read_40 : decode cX7_read 40 = .ok (.putfield 105, 3) := by decide +kernel
theorem dX7_read_43 : decode cX7_read 43 = .ok (.iload_n 1, 1) := by decide +kernel
theorem dX7_read_44 : decode cX7_read 44 = .ok (.ireturn, 1) := by decide +kernel
theorem dX7_move_0 : decode cX7_move 0 = .ok (.aload_n 0, 1) := by decide +kernel
theorem dX7_move_1 : decode cX7_move 1 = .ok (.iload_n 1, 1) := by decide +kernel
theorem dX7_move_2 : decode cX7_move 2 = .ok (.invokevirtual 148, 3) := by decide +kernel
theorem dX7_move_5 : decode cX7_move 5 = .ok (.ifCond .eq 10, 3) := by decide +kernel
theorem dX7_move_8 : decode cX7_move 8 = .ok (.iload_n 2, 1) := by decide +kernel
theorem dX7_move_9 : decode cX7_move 9 = .ok (.invokestatic 108, 3) := by decide +kernel
theorem dX7_move_12 : decode cX7_move 12 = .ok (.ifCond .ne 8, 3) := by decide +kernel
theorem dX7_move_15 : decode cX7_move 15 = .ok (.aload_n 0, 1) := by decide +kernel
theorem dX7_move_16 : decode cX7_move 16 = .ok (.invokevirtual 94, 3) := by decide +kernel
theorem dX7_move_19 : decode cX7_move 19 = .ok (.ireturn, 1) := by decide +kernel
theorem dX7_move_20 : decode cX7_move 20 = .ok (.aload_n 0, 1) := by decide +kernel
theorem dX7_move_21 : decode cX7_move 21 = .ok (.getfield 10, 3) := by decide +kernel
theorem dX7_move_24 : decode cX7_move 24 = .ok (.getfield 151, 3) := by decide +kernel
theorem dX7_move_27 : decode cX7_move 27 = .ok (.astore_n 3, 1) := by decide +kernel
theorem dX7_move_28 : decode cX7_move 28 = .ok (.aload_n 0, 1) := by decide +kernel
theorem dX7_move_29 : decode cX7_move 29 = .ok (.getfield 10, 3) := by decide +kernel
theorem dX7_move_32 : decode cX7_move 32 = .ok (.aload_n 3, 1) := by decide +kernel
theorem dX7_move_33 : decode cX7_move 33 = .ok (.getfield 155, 3) := by decide +kernel
theorem dX7_move_36 : decode cX7_move 36 = .ok (.iload_n 1, 1) := by decide +kernel
theorem dX7_move_37 : decode cX7_move 37 = .ok (.iaload, 1) := by decide +kernel
theorem dX7_move_38 : decode cX7_move 38 = .ok (.iload_n 2, 1) := by decide +kernel
theorem dX7_move_39 : decode cX7_move 39 = .ok (.invokevirtual 116, 3) := by decide +kernel
theorem dX7_move_42 : decode cX7_move 42 = .ok (.istore 4, 2) := by decide +kernel
theorem dX7_move_44 : decode cX7_move 44 = .ok (.aload_n 3, 1) := by decide +kernel
theorem dX7_move_45 : decode cX7_move 45 = .ok (.getfield 160, 3) := by decide +kernel
theorem dX7_move_48 : decode cX7_move 48 = .ok (.iload_n 1, 1) := by decide +kernel
theorem dX7_move_49 : decode cX7_move 49 = .ok (.iaload, 1) := by decide +kernel
theorem dX7_move_50 : decode cX7_move 50 = .ok (.ifCond .ne 18, 3) := by decide +kernel
theorem dX7_move_53 : decode cX7_move 53 = .ok (.iload 4, 2) := by decide +kernel
theorem dX7_move_55 : decode cX7_move 55 = .ok (.ifCond .eq 13, 3) := by decide +kernel
theorem dX7_move_58 : decode cX7_move 58 = .ok (.aload_n 3, 1) := by decide +kernel
theorem dX7_move_59 : decode cX7_move 59 = .ok (.getfield 163, 3) := by decide +kernel
theorem dX7_move_62 : decode cX7_move 62 = .ok (.iload_n 1, 1) := by decide +kernel
theorem dX7_move_63 : decode cX7_move 63 = .ok (.iaload, 1) := by decide +kernel
theorem dX7_move_64 : decode cX7_move 64 = .ok (.iconst 1, 1) := by decide +kernel
theorem dX7_move_65 : decode cX7_move 65 = .ok (.if_icmp .ne 8, 3) := by decide +kernel
theorem dX7_move_68 : decode cX7_move 68 = .ok (.aload_n 0, 1) := by decide +kernel
theorem dX7_move_69 : decode cX7_move 69 = .ok (.invokevirtual 166, 3) := by decide +kernel
theorem dX7_move_72 : decode cX7_move 72 = .ok (.ireturn, 1) := by decide +kernel
theorem dX7_move_73 : decode cX7_move 73 = .ok (.aload_n 0, 1) := by decide +kernel
theorem dX7_move_74 : decode cX7_move 74 = .ok (.getfield 19, 3) := by decide +kernel
theorem dX7_move_77 : decode cX7_move 77 = .ok (.aload_n 3, 1) := by decide +kernel
theorem dX7_move_78 : decode cX7_move 78 = .ok (.invokevirtual 169, 3) := by decide +kernel
theorem dX7_move_81 : decode cX7_move 81 = .ok (.aload_n 3, 1) := by decide +kernel
theorem dX7_move_82 : decode cX7_move 82 = .ok (.iload_n 1, 1) := by decide +kernel
theorem dX7_move_83 : decode cX7_move 83 = .ok (.iload_n 2, 1) := by decide +kernel
theorem dX7_move_84 : decode cX7_move 84 = .ok (.invokevirtual 173, 3) := by decide +kernel
theorem dX7_move_87 : decode cX7_move 87 = .ok (.iload 4, 2) := by decide +kernel
theorem dX7_move_89 : decode cX7_move 89 = .ok (.ireturn, 1) := by decide +kernel
theorem dX7_night_0 : decode cX7_night 0 = .ok (.aload_n 0, 1) := by decide +kernel
theorem dX7_night_1 : decode cX7_night 1 = .ok (.getfield 19, 3) := by decide +kernel
theorem dX7_night_4 : decode cX7_night 4 = .ok (.aload_n 0, 1) := by decide +kernel
theorem dX7_night_5 : decode cX7_night 5 = .ok (.getfield 10, 3) := by decide +kernel
theorem dX7_night_8 : decode cX7_night 8 = .ok (.getfield 151, 3) := by decide +kernel
theorem dX7_night_11 : decode cX7_night 11 = .ok (.invokevirtual 169, 3) := by decide +kernel
theorem dX7_night_14 : decode cX7_night 14 = .ok (.aload_n 0, 1) := by decide +kernel
theorem dX7_night_15 : decode cX7_night 15 = .ok (.getfield 10, 3) := by decide +kernel
theorem dX7_night_18 : decode cX7_night 18 = .ok (.aload_n 0, 1) := by decide +kernel
theorem dX7_night_19 : decode cX7_night 19 = .ok (.getfield 10, 3) := by decide +kernel
theorem dX7_night_22 : decode cX7_night 22 = .ok (.getfield 151, 3) := by decide +kernel
theorem dX7_night_25 : decode cX7_night 25 = .ok (.aload_n 0, 1) := by decide +kernel
theorem dX7_night_26 : decode cX7_night 26 = .ok (.getfield 10, 3) := by decide +kernel
theorem dX7_night_29 : decode cX7_night 29 = .ok (.getfield 133, 3) := by decide +kernel
theorem dX7_night_32 : decode cX7_night 32 = .ok (.invokevirtual 176, 3) := by decide +kernel
theorem dX7_night_35 : decode cX7_night 35 = .ok (.ireturn, 1) := by decide +kernel
theorem dX7_undo_0 : decode cX7_undo 0 = .ok (.aload_n 0, 1) := by decide +kernel
theorem dX7_undo_1 : decode cX7_undo 1 = .ok (.getfield 19, 3) := by decide +kernel
theorem dX7_undo_4 : decode cX7_undo 4 = .ok (.getfield 105, 3) := by decide +kernel
theorem dX7_undo_7 : decode cX7_undo 7 = .ok (.ifCond .ne 8, 3) := by decide +kernel
theorem dX7_undo_10 : decode cX7_undo 10 = .ok (.aload_n 0, 1) := by decide +kernel
theorem dX7_undo_11 : decode cX7_undo 11 = .ok (.invokevirtual 166, 3) := by decide +kernel
theorem dX7_undo_14 : decode cX7_undo 14 = .ok (.ireturn, 1) := by decide +kernel
theorem dX7_undo_15 : decode cX7_undo 15 = .ok (.aload_n 0, 1) := by decide +kernel
theorem dX7_undo_16 : decode cX7_undo 16 = .ok (.getfield 19, 3) := by decide +kernel
theorem dX7_undo_19 : decode cX7_undo 19 = .ok (.aload_n 0, 1) := by decide +kernel
theorem dX7_undo_20 : decode cX7_undo 20 = .ok (.getfield 10, 3) := by decide +kernel
theorem dX7_undo_23 : decode cX7_undo 23 = .ok (.getfield 151, 3) := by decide +kernel
theorem dX7_undo_26 : decode cX7_undo 26 = .ok (.invokevirtual 180, 3) := by decide +kernel
theorem dX7_undo_29 : decode cX7_undo 29 = .ok (.aload_n 0, 1) := by decide +kernel
theorem dX7_undo_30 : decode cX7_undo 30 = .ok (.getfield 10, 3) := by decide +kernel
theorem dX7_undo_33 : decode cX7_undo 33 = .ok (.getfield 151, 3) := by decide +kernel
theorem dX7_undo_36 : decode cX7_undo 36 = .ok (.getfield 183, 3) := by decide +kernel
theorem dX7_undo_39 : decode cX7_undo 39 = .ok (.ireturn, 1) := by decide +kernel
theorem dX7_of_0 : decode cX7_of 0 = .ok (.aload_n 0, 1) := by decide +kernel
theorem dX7_of_1 : decode cX7_of 1 = .ok (.iload_n 1, 1) := by decide +kernel
theorem dX7_of_2 : decode cX7_of 2 = .ok (.invokevirtual 148, 3) := by decide +kernel
theorem dX7_of_5 : decode cX7_of 5 = .ok (.ifCond .ne 8, 3) := by decide +kernel
theorem dX7_of_8 : decode cX7_of 8 = .ok (.aload_n 0, 1) := by decide +kernel
theorem dX7_of_9 : decode cX7_of 9 = .ok (.invokevirtual 94, 3) := by decide +kernel
theorem dX7_of_12 : decode cX7_of 12 = .ok (.ireturn, 1) := by decide +kernel
theorem dX7_of_13 : decode cX7_of 13 = .ok (.aload_n 0, 1) := by decide +kernel
theorem dX7_of_14 : decode cX7_of 14 = .ok (.getfield 10, 3) := by decide +kernel
theorem dX7_of_17 : decode cX7_of 17 = .ok (.getfield 151, 3) := by decide +kernel
theorem dX7_of_20 : decode cX7_of 20 = .ok (.astore_n 3, 1) := by decide +kernel
theorem dX7_of_21 : decode cX7_of 21 = .ok (.iload_n 2, 1) := by decide +kernel
theorem dX7_of_22 : decode cX7_of 22 = .ok (.tableswitch 100 0 6 #[42, 52, 59, 69, 76, 86, 93], 42) := by decide +kernel
theorem dX7_of_64 : decode cX7_of 64 = .ok (.aload_n 0, 1) := by decide +kernel
theorem dX7_of_65 : decode cX7_of 65 = .ok (.getfield 10, 3) := by decide +kernel
theorem dX7_of_68 : decode cX7_of 68 = .ok (.getfield 186, 3) := by decide +kernel
theorem dX7_of_71 : decode cX7_of 71 = .ok (.iload_n 1, 1) := by decide +kernel
theorem dX7_of_72 : decode cX7_of 72 = .ok (.iaload, 1) := by decide +kernel
theorem dX7_of_73 : decode cX7_of 73 = .ok (.ireturn, 1) := by decide +kernel
theorem dX7_of_74 : decode cX7_of 74 = .ok (.aload_n 3, 1) := by decide +kernel
theorem dX7_of_75 : decode cX7_of 75 = .ok (.getfield 155, 3) := by decide +kernel
theorem dX7_of_78 : decode cX7_of 78 = .ok (.iload_n 1, 1) := by decide +kernel
theorem dX7_of_79 : decode cX7_of 79 = .ok (.iaload, 1) := by decide +kernel
theorem dX7_of_80 : decode cX7_of 80 = .ok (.ireturn, 1) := by decide +kernel
theorem dX7_of_81 : decode cX7_of 81 = .ok (.aload_n 0, 1) := by decide +kernel
theorem dX7_of_82 : decode cX7_of 82 = .ok (.getfield 10, 3) := by decide +kernel
theorem dX7_of_85 : decode cX7_of 85 = .ok (.getfield 189, 3) := by decide +kernel
theorem dX7_of_88 : decode cX7_of 88 = .ok (.iload_n 1, 1) := by decide +kernel
theorem dX7_of_89 : decode cX7_of 89 = .ok (.iaload, 1) := by decide +kernel
theorem dX7_of_90 : decode cX7_of 90 = .ok (.ireturn, 1) := by decide +kernel
theorem dX7_of_91 : decode cX7_of 91 = .ok (.aload_n 3, 1) := by decide +kernel
theorem dX7_of_92 : decode cX7_of 92 = .ok (.getfield 192, 3) := by decide +kernel
theorem dX7_of_95 : decode cX7_of 95 = .ok (.iload_n 1, 1) := by decide +kernel
theorem dX7_of_96 : decode cX7_of 96 = .ok (.iaload, 1) := by decide +kernel
theorem dX7_of_97 : decode cX7_of 97 = .ok (.ireturn, 1) := by decide +kernel
theorem dX7_of_98 : decode cX7_of 98 = .ok (.aload_n 0, 1) := by decide +kernel
theorem dX7_of_99 : decode cX7_of 99 = .ok (.getfield 10, 3) := by decide +kernel
theorem dX7_of_102 : decode cX7_of 102 = .ok (.aload_n 3, 1) := by decide +kernel
theorem dX7_of_103 : decode cX7_of 103 = .ok (.iload_n 1, 1) := by decide +kernel
theorem dX7_of_104 : decode cX7_of 104 = .ok (.invokevirtual 195, 3) := by decide +kernel
theorem dX7_of_107 : decode cX7_of 107 = .ok (.ireturn, 1) := by decide +kernel
theorem dX7_of_108 : decode cX7_of 108 = .ok (.aload_n 3, 1) := by decide +kernel
theorem dX7_of_109 : decode cX7_of 109 = .ok (.getfield 160, 3) := by decide +kernel
theorem dX7_of_112 : decode cX7_of 112 = .ok (.iload_n 1, 1) := by decide +kernel
theorem dX7_of_113 : decode cX7_of 113 = .ok (.iaload, 1) := by decide +kernel
theorem dX7_of_114 : decode cX7_of 114 = .ok (.ireturn, 1) := by decide +kernel
theorem dX7_of_115 : decode cX7_of 115 = .ok (.aload_n 3, 1) := by decide +kernel
theorem dX7_of_116 : decode cX7_of 116 = .ok (.getfield 198, 3) := by decide +kernel
theorem dX7_of_119 : decode cX7_of 119 = .ok (.iload_n 1, 1) := by decide +kernel
theorem dX7_of_120 : decode cX7_of 120 = .ok (.iaload, 1) := by decide +kernel
theorem dX7_of_121 : decode cX7_of 121 = .ok (.ireturn, 1) := by decide +kernel
theorem dX7_of_122 : decode cX7_of 122 = .ok (.aload_n 0, 1) := by decide +kernel
theorem dX7_of_123 : decode cX7_of 123 = .ok (.invokevirtual 94, 3) := by decide +kernel
theorem dX7_of_126 : decode cX7_of 126 = .ok (.ireturn, 1) := by decide +kernel
theorem dX7_looks_0 : decode cX7_looks 0 = .ok (.iload_n 1, 1) := by decide +kernel
theorem dX7_looks_1 : decode cX7_looks 1 = .ok (.iconst 0, 1) := by decide +kernel
theorem dX7_looks_2 : decode cX7_looks 2 = .ok (.bipush 99, 2) := by decide +kernel
theorem dX7_looks_4 : decode cX7_looks 4 = .ok (.invokestatic 90, 3) := by decide +kernel
theorem dX7_looks_7 : decode cX7_looks 7 = .ok (.ifCond .ne 8, 3) := by decide +kernel
theorem dX7_looks_10 : decode cX7_looks 10 = .ok (.aload_n 0, 1) := by decide +kernel
theorem dX7_looks_11 : decode cX7_looks 11 = .ok (.invokevirtual 94, 3) := by decide +kernel
theorem dX7_looks_14 : decode cX7_looks 14 = .ok (.ireturn, 1) := by decide +kernel
theorem dX7_looks_15 : decode cX7_looks 15 = .ok (.aload_n 0, 1) := by decide +kernel
theorem dX7_looks_16 : decode cX7_looks 16 = .ok (.getfield 10, 3) := by decide +kernel
theorem dX7_looks_19 : decode cX7_looks 19 = .ok (.iload_n 1, 1) := by decide +kernel
theorem dX7_looks_20 : decode cX7_looks 20 = .ok (.invokevirtual 201, 3) := by decide +kernel
theorem dX7_looks_23 : decode cX7_looks 23 = .ok (.ireturn, 1) := by decide +kernel
theorem dX7_byThen_0 : decode cX7_byThen 0 = .ok (.aload_n 0, 1) := by decide +kernel
theorem dX7_byThen_1 : decode cX7_byThen 1 = .ok (.iload_n 1, 1) := by decide +kernel
theorem dX7_byThen_2 : decode cX7_byThen 2 = .ok (.invokevirtual 148, 3) := by decide +kernel
theorem dX7_byThen_5 : decode cX7_byThen 5 = .ok (.ifCond .eq 22, 3) := by decide +kernel
theorem dX7_byThen_8 : decode cX7_byThen 8 = .ok (.iload_n 2, 1) := by decide +kernel
theorem dX7_byThen_9 : decode cX7_byThen 9 = .ok (.iconst 1, 1) := by decide +kernel
theorem dX7_byThen_10 : decode cX7_byThen 10 = .ok (.bipush 60, 2) := by decide +kernel
theorem dX7_byThen_12 : decode cX7_byThen 12 = .ok (.invokestatic 90, 3) := by decide +kernel
theorem dX7_byThen_15 : decode cX7_byThen 15 = .ok (.ifCond .eq 12, 3) := by decide +kernel
theorem dX7_byThen_18 : decode cX7_byThen 18 = .ok (.iload_n 3, 1) := by decide +kernel
theorem dX7_byThen_19 : decode cX7_byThen 19 = .ok (.iconst 0, 1) := by decide +kernel
theorem dX7_byThen_20 : decode cX7_byThen 20 = .ok (.iconst 1, 1) := by decide +kernel
theorem dX7_byThen_21 : decode cX7_byThen 21 = .ok (.invokestatic 90, 3) := by decide +kernel
theorem dX7_byThen_24 : decode cX7_byThen 24 = .ok (.ifCond .ne 8, 3) := by decide +kernel
theorem dX7_byThen_27 : decode cX7_byThen 27 = .ok (.aload_n 0, 1) := by decide +kernel
theorem dX7_byThen_28 : decode cX7_byThen 28 = .ok (.invokevirtual 94, 3) := by decide +kernel
theorem dX7_byThen_31 : decode cX7_byThen 31 = .ok (.ireturn, 1) := by decide +kernel
theorem dX7_byThen_32 : decode cX7_byThen 32 = .ok (.aload_n 0, 1) := by decide +kernel
theorem dX7_byThen_33 : decode cX7_byThen 33 = .ok (.getfield 41, 3) := by decide +kernel
theorem dX7_byThen_36 : decode cX7_byThen 36 = .ok (.aload_n 0, 1) := by decide +kernel
theorem dX7_byThen_37 : decode cX7_byThen 37 = .ok (.getfield 10, 3) := by decide +kernel
theorem dX7_byThen_40 : decode cX7_byThen 40 = .ok (.iload_n 2, 1) := by decide +kernel
theorem dX7_byThen_41 : decode cX7_byThen 41 = .ok (.invokevirtual 205, 3) := by decide +kernel
theorem dX7_byThen_44 : decode cX7_byThen 44 = .ok (.astore 4, 2) := by decide +kernel
theorem dX7_byThen_46 : decode cX7_byThen 46 = .ok (.iload_n 3, 1) := by decide +kernel
theorem dX7_byThen_47 : decode cX7_byThen 47 = .ok (.ifCond .ne 13, 3) := by decide +kernel
theorem dX7_byThen_50 : decode cX7_byThen 50 = .ok (.aload 4, 2) := by decide +kernel
theorem dX7_byThen_52 : decode cX7_byThen 52 = .ok (.getfield 160, 3) := by decide +kernel
theorem dX7_byThen_55 : decode cX7_byThen 55 = .ok (.iload_n 1, 1) := by decide +kernel
theorem dX7_byThen_56 : decode cX7_byThen 56 = .ok (.iaload, 1) := by decide +kernel
theorem dX7_byThen_57 : decode cX7_byThen 57 = .ok (.goto 10, 3) := by decide +kernel
theorem dX7_byThen_60 : decode cX7_byThen 60 = .ok (.aload 4, 2) := by decide +kernel
theorem dX7_byThen_62 : decode cX7_byThen 62 = .ok (.getfield 198, 3) := by decide +kernel
theorem dX7_byThen_65 : decode cX7_byThen 65 = .ok (.iload_n 1, 1) := by decide +kernel
theorem dX7_byThen_66 : decode cX7_byThen 66 = .ok (.iaload, 1) := by decide +kernel
theorem dX7_byThen_67 : decode cX7_byThen 67 = .ok (.ireturn, 1) := by decide +kernel
theorem dX7_first_0 : decode cX7_first 0 = .ok (.iload_n 1, 1) := by decide +kernel
theorem dX7_first_1 : decode cX7_first 1 = .ok (.iconst 0, 1) := by decide +kernel
theorem dX7_first_2 : decode cX7_first 2 = .ok (.iconst 1, 1) := by decide +kernel
theorem dX7_first_3 : decode cX7_first 3 = .ok (.invokestatic 90, 3) := by decide +kernel
theorem dX7_first_6 : decode cX7_first 6 = .ok (.ifCond .ne 8, 3) := by decide +kernel
theorem dX7_first_9 : decode cX7_first 9 = .ok (.aload_n 0, 1) := by decide +kernel
theorem dX7_first_10 : decode cX7_first 10 = .ok (.invokevirtual 94, 3) := by decide +kernel
theorem dX7_first_13 : decode cX7_first 13 = .ok (.ireturn, 1) := by decide +kernel
theorem dX7_first_14 : decode cX7_first 14 = .ok (.aload_n 0, 1) := by decide +kernel
theorem dX7_first_15 : decode cX7_first 15 = .ok (.getfield 41, 3) := by decide +kernel
theorem dX7_first_18 : decode cX7_first 18 = .ok (.aload_n 0, 1) := by decide +kernel
theorem dX7_first_19 : decode cX7_first 19 = .ok (.getfield 10, 3) := by decide +kernel
theorem dX7_first_22 : decode cX7_first 22 = .ok (.invokevirtual 209, 3) := by decide +kernel
theorem dX7_first_25 : decode cX7_first 25 = .ok (.istore_n 2, 1) := by decide +kernel
theorem dX7_first_26 : decode cX7_first 26 = .ok (.iload_n 2, 1) := by decide +kernel
theorem dX7_first_27 : decode cX7_first 27 = .ok (.ifCond .ne 5, 3) := by decide +kernel
theorem dX7_first_30 : decode cX7_first 30 = .ok (.iconst (-1), 1) := by decide +kernel
theorem dX7_first_31 : decode cX7_first 31 = .ok (.ireturn, 1) := by decide +kernel
theorem dX7_first_32 : decode cX7_first 32 = .ok (.iload_n 1, 1) := by decide +kernel
theorem dX7_first_33 : decode cX7_first 33 = .ok (.ifCond .ne 18, 3) := by decide +kernel
theorem dX7_first_36 : decode cX7_first 36 = .ok (.aload_n 0, 1) := by decide +kernel
theorem dX7_first_37 : decode cX7_first 37 = .ok (.getfield 41, 3) := by decide +kernel
theorem dX7_first_40 : decode cX7_first 40 = .ok (.getfield 213, 3) := by decide +kernel
theorem dX7_first_43 : decode cX7_first 43 = .ok (.getfield 183, 3) := by decide +kernel
theorem dX7_first_46 : decode cX7_first 46 = .ok (.iconst 1, 1) := by decide +kernel
theorem dX7_first_47 : decode cX7_first 47 = .ok (.isub, 1) := by decide +kernel
theorem dX7_first_48 : decode cX7_first 48 = .ok (.goto 4, 3) := by decide +kernel
theorem dX7_first_51 : decode cX7_first 51 = .ok (.iload_n 2, 1) := by decide +kernel
theorem dX7_first_52 : decode cX7_first 52 = .ok (.ireturn, 1) := by decide +kernel
theorem dX7_passed_0 : decode cX7_passed 0 = .ok (.aload_n 0, 1) := by decide +kernel
theorem dX7_passed_1 : decode cX7_passed 1 = .ok (.getfield 10, 3) := by decide +kernel
theorem dX7_passed_4 : decode cX7_passed 4 = .ok (.getfield 151, 3) := by decide +kernel
theorem dX7_passed_7 : decode cX7_passed 7 = .ok (.astore_n 1, 1) := by decide +kernel
theorem dX7_passed_8 : decode cX7_passed 8 = .ok (.aload_n 0, 1) := by decide +kernel
theorem dX7_passed_9 : decode cX7_passed 9 = .ok (.getfield 10, 3) := by decide +kernel
theorem dX7_passed_12 : decode cX7_passed 12 = .ok (.aload_n 1, 1) := by decide +kernel
theorem dX7_passed_13 : decode cX7_passed 13 = .ok (.invokevirtual 216, 3) := by decide +kernel
theorem dX7_passed_16 : decode cX7_passed 16 = .ok (.istore_n 2, 1) := by decide +kernel
theorem dX7_passed_17 : decode cX7_passed 17 = .ok (.aload_n 0, 1) := by decide +kernel
theorem dX7_passed_18 : decode cX7_passed 18 = .ok (.getfield 10, 3) := by decide +kernel
theorem dX7_passed_21 : decode cX7_passed 21 = .ok (.aload_n 1, 1) := by decide +kernel
theorem dX7_passed_22 : decode cX7_passed 22 = .ok (.iload_n 2, 1) := by decide +kernel
theorem dX7_passed_23 : decode cX7_passed 23 = .ok (.invokevirtual 220, 3) := by decide +kernel
theorem dX7_passed_26 : decode cX7_passed 26 = .ok (.aload_n 0, 1) := by decide +kernel
theorem dX7_passed_27 : decode cX7_passed 27 = .ok (.getfield 10, 3) := by decide +kernel
theorem dX7_passed_30 : decode cX7_passed 30 = .ok (.aload_n 1, 1) := by decide +kernel
theorem dX7_passed_31 : decode cX7_passed 31 = .ok (.iload_n 2, 1) := by decide +kernel
theorem dX7_passed_32 : decode cX7_passed 32 = .ok (.aload_n 0, 1) := by decide +kernel
theorem dX7_passed_33 : decode cX7_passed 33 = .ok (.getfield 10, 3) := by decide +kernel
theorem dX7_passed_36 : decode cX7_passed 36 = .ok (.getfield 133, 3) := by decide +kernel
theorem dX7_passed_39 : decode cX7_passed 39 = .ok (.invokevirtual 223, 3) := by decide +kernel
theorem dX7_passed_42 : decode cX7_passed 42 = .ok (.iconst (-1), 1) := by decide +kernel
theorem dX7_passed_43 : decode cX7_passed 43 = .ok (.ixor, 1) := by decide +kernel
theorem dX7_passed_44 : decode cX7_passed 44 = .ok (.iand, 1) := by decide +kernel
theorem dX7_passed_45 : decode cX7_passed 45 = .ok (.ireturn, 1) := by decide +kernel
theorem dX7_hide_0 : decode cX7_hide 0 = .ok (.aload_n 0, 1) := by decide +kernel
theorem dX7_hide_1 : decode cX7_hide 1 = .ok (.iload_n 1, 1) := by decide +kernel
theorem dX7_hide_2 : decode cX7_hide 2 = .ok (.invokevirtual 148, 3) := by decide +kernel
theorem dX7_hide_5 : decode cX7_hide 5 = .ok (.ifCond .ne 8, 3) := by decide +kernel
theorem dX7_hide_8 : decode cX7_hide 8 = .ok (.aload_n 0, 1) := by decide +kernel
theorem dX7_hide_9 : decode cX7_hide 9 = .ok (.invokevirtual 94, 3) := by decide +kernel
theorem dX7_hide_12 : decode cX7_hide 12 = .ok (.ireturn, 1) := by decide +kernel
theorem dX7_hide_13 : decode cX7_hide 13 = .ok (.aload_n 0, 1) := by decide +kernel
theorem dX7_hide_14 : decode cX7_hide 14 = .ok (.iload_n 1, 1) := by decide +kernel
theorem dX7_hide_15 : decode cX7_hide 15 = .ok (.invokevirtual 227, 3) := by decide +kernel
theorem dX7_hide_18 : decode cX7_hide 18 = .ok (.ifCond .ne 8, 3) := by decide +kernel
theorem dX7_hide_21 : decode cX7_hide 21 = .ok (.aload_n 0, 1) := by decide +kernel
theorem dX7_hide_22 : decode cX7_hide 22 = .ok (.invokevirtual 166, 3) := by decide +kernel
theorem dX7_hide_25 : decode cX7_hide 25 = .ok (.ireturn, 1) := by decide +kernel
theorem dX7_hide_26 : decode cX7_hide 26 = .ok (.aload_n 0, 1) := by decide +kernel
theorem dX7_hide_27 : decode cX7_hide 27 = .ok (.getfield 41, 3) := by decide +kernel
theorem dX7_hide_30 : decode cX7_hide 30 = .ok (.aload_n 0, 1) := by decide +kernel
theorem dX7_hide_31 : decode cX7_hide 31 = .ok (.getfield 10, 3) := by decide +kernel
theorem dX7_hide_34 : decode cX7_hide 34 = .ok (.iload_n 1, 1) := by decide +kernel
theorem dX7_hide_35 : decode cX7_hide 35 = .ok (.invokevirtual 230, 3) := by decide +kernel
theorem dX7_hide_38 : decode cX7_hide 38 = .ok (.ireturn, 1) := by decide +kernel
theorem dX7_way_0 : decode cX7_way 0 = .ok (.aload_n 0, 1) := by decide +kernel
theorem dX7_way_1 : decode cX7_way 1 = .ok (.iload_n 1, 1) := by decide +kernel
theorem dX7_way_2 : decode cX7_way 2 = .ok (.invokevirtual 148, 3) := by decide +kernel
theorem dX7_way_5 : decode cX7_way 5 = .ok (.ifCond .eq 12, 3) := by decide +kernel
theorem dX7_way_8 : decode cX7_way 8 = .ok (.iload_n 2, 1) := by decide +kernel
theorem dX7_way_9 : decode cX7_way 9 = .ok (.iconst 0, 1) := by decide +kernel
theorem dX7_way_10 : decode cX7_way 10 = .ok (.iconst 1, 1) := by decide +kernel
theorem dX7_way_11 : decode cX7_way 11 = .ok (.invokestatic 90, 3) := by decide +kernel
theorem dX7_way_14 : decode cX7_way 14 = .ok (.ifCond .ne 8, 3) := by decide +kernel
theorem dX7_way_17 : decode cX7_way 17 = .ok (.aload_n 0, 1) := by decide +kernel
theorem dX7_way_18 : decode cX7_way 18 = .ok (.invokevirtual 94, 3) := by decide +kernel
theorem dX7_way_21 : decode cX7_way 21 = .ok (.ireturn, 1) := by decide +kernel
theorem dX7_way_22 : decode cX7_way 22 = .ok (.aload_n 0, 1) := by decide +kernel
theorem dX7_way_23 : decode cX7_way 23 = .ok (.iload_n 1, 1) := by decide +kernel
theorem dX7_way_24 : decode cX7_way 24 = .ok (.invokevirtual 227, 3) := by decide +kernel
theorem dX7_way_27 : decode cX7_way 27 = .ok (.ifCond .ne 8, 3) := by decide +kernel
theorem dX7_way_30 : decode cX7_way 30 = .ok (.aload_n 0, 1) := by decide +kernel
theorem dX7_way_31 : decode cX7_way 31 = .ok (.invokevirtual 166, 3) := by decide +kernel
theorem dX7_way_34 : decode cX7_way 34 = .ok (.ireturn, 1) := by decide +kernel
theorem dX7_way_35 : decode cX7_way 35 = .ok (.aload_n 0, 1) := by decide +kernel
theorem dX7_way_36 : decode cX7_way 36 = .ok (.getfield 48, 3) := by decide +kernel
theorem dX7_way_39 : decode cX7_way 39 = .ok (.aload_n 0, 1) := by decide +kernel
theorem dX7_way_40 : decode cX7_way 40 = .ok (.getfield 10, 3) := by decide +kernel
theorem dX7_way_43 : decode cX7_way 43 = .ok (.iload_n 1, 1) := by decide +kernel
theorem dX7_way_44 : decode cX7_way 44 = .ok (.invokevirtual 234, 3) := by decide +kernel
theorem dX7_way_47 : decode cX7_way 47 = .ok (.iload_n 2, 1) := by decide +kernel
theorem dX7_way_48 : decode cX7_way 48 = .ok (.ifCond .ne 13, 3) := by decide +kernel
theorem dX7_way_51 : decode cX7_way 51 = .ok (.aload_n 0, 1) := by decide +kernel
theorem dX7_way_52 : decode cX7_way 52 = .ok (.getfield 48, 3) := by decide +kernel
theorem dX7_way_55 : decode cX7_way 55 = .ok (.getfield 238, 3) := by decide +kernel
theorem dX7_way_58 : decode cX7_way 58 = .ok (.goto 10, 3) := by decide +kernel
theorem dX7_way_61 : decode cX7_way 61 = .ok (.aload_n 0, 1) := by decide +kernel
theorem dX7_way_62 : decode cX7_way 62 = .ok (.getfield 48, 3) := by decide +kernel
theorem dX7_way_65 : decode cX7_way 65 = .ok (.getfield 241, 3) := by decide +kernel
theorem dX7_way_68 : decode cX7_way 68 = .ok (.ireturn, 1) := by decide +kernel
theorem dX7_choose_0 : decode cX7_choose 0 = .ok (.aload_n 0, 1) := by decide +kernel
theorem dX7_choose_1 : decode cX7_choose 1 = .ok (.iload_n 1, 1) := by decide +kernel
theorem dX7_choose_2 : decode cX7_choose 2 = .ok (.invokevirtual 148, 3) := by decide +kernel
theorem dX7_choose_5 : decode cX7_choose 5 = .ok (.ifCond .eq 16, 3) := by decide +kernel
theorem dX7_choose_8 : decode cX7_choose 8 = .ok (.aload_n 0, 1) := by decide +kernel
theorem dX7_choose_9 : decode cX7_choose 9 = .ok (.iload_n 2, 1) := by decide +kernel
theorem dX7_choose_10 : decode cX7_choose 10 = .ok (.invokevirtual 148, 3) := by decide +kernel
theorem dX7_choose_13 : decode cX7_choose 13 = .ok (.ifCond .eq 8, 3) := by decide +kernel
theorem dX7_choose_16 : decode cX7_choose 16 = .ok (.iload_n 1, 1) := by decide +kernel
theorem dX7_choose_17 : decode cX7_choose 17 = .ok (.iload_n 2, 1) := by decide +kernel
theorem dX7_choose_18 : decode cX7_choose 18 = .ok (.if_icmp .ne 8, 3) := by decide +kernel
theorem dX7_choose_21 : decode cX7_choose 21 = .ok (.aload_n 0, 1) := by decide +kernel
theorem dX7_choose_22 : decode cX7_choose 22 = .ok (.invokevirtual 94, 3) := by decide +kernel
theorem dX7_choose_25 : decode cX7_choose 25 = .ok (.ireturn, 1) := by decide +kernel
theorem dX7_choose_26 : decode cX7_choose 26 = .ok (.aload_n 0, 1) := by decide +kernel
theorem dX7_choose_27 : decode cX7_choose 27 = .ok (.iload_n 1, 1) := by decide +kernel
theorem dX7_choose_28 : decode cX7_choose 28 = .ok (.invokevirtual 227, 3) := by decide +kernel
theorem dX7_choose_31 : decode cX7_choose 31 = .ok (.ifCond .eq 11, 3) := by decide +kernel
theorem dX7_choose_34 : decode cX7_choose 34 = .ok (.aload_n 0, 1) := by decide +kernel
theorem dX7_choose_35 : decode cX7_choose 35 = .ok (.iload_n 2, 1) := by decide +kernel
theorem dX7_choose_36 : decode cX7_choose 36 = .ok (.invokevirtual 227, 3) := by decide +kernel
theorem dX7_choose_39 : decode cX7_choose 39 = .ok (.ifCond .ne 8, 3) := by decide +kernel
theorem dX7_choose_42 : decode cX7_choose 42 = .ok (.aload_n 0, 1) := by decide +kernel
theorem dX7_choose_43 : decode cX7_choose 43 = .ok (.invokevirtual 166, 3) := by decide +kernel
theorem dX7_choose_46 : decode cX7_choose 46 = .ok (.ireturn, 1) := by decide +kernel
theorem dX7_choose_47 : decode cX7_choose 47 = .ok (.aload_n 0, 1) := by decide +kernel
theorem dX7_choose_48 : decode cX7_choose 48 = .ok (.getfield 41, 3) := by decide +kernel
theorem dX7_choose_51 : decode cX7_choose 51 = .ok (.aload_n 0, 1) := by decide +kernel
theorem dX7_choose_52 : decode cX7_choose 52 = .ok (.getfield 10, 3) := by decide +kernel
theorem dX7_choose_55 : decode cX7_choose 55 = .ok (.iload_n 1, 1) := by decide +kernel
theorem dX7_choose_56 : decode cX7_choose 56 = .ok (.iload_n 2, 1) := by decide +kernel
theorem dX7_choose_57 : decode cX7_choose 57 = .ok (.invokevirtual 244, 3) := by decide +kernel
theorem dX7_choose_60 : decode cX7_choose 60 = .ok (.ireturn, 1) := by decide +kernel
theorem dX7_odds_0 : decode cX7_odds 0 = .ok (.aload_n 0, 1) := by decide +kernel
theorem dX7_odds_1 : decode cX7_odds 1 = .ok (.iload_n 1, 1) := by decide +kernel
theorem dX7_odds_2 : decode cX7_odds 2 = .ok (.invokevirtual 148, 3) := by decide +kernel
theorem dX7_odds_5 : decode cX7_odds 5 = .ok (.ifCond .ne 8, 3) := by decide +kernel
theorem dX7_odds_8 : decode cX7_odds 8 = .ok (.aload_n 0, 1) := by decide +kernel
theorem dX7_odds_9 : decode cX7_odds 9 = .ok (.invokevirtual 94, 3) := by decide +kernel
theorem dX7_odds_12 : decode cX7_odds 12 = .ok (.ireturn, 1) := by decide +kernel
theorem dX7_odds_13 : decode cX7_odds 13 = .ok (.aload_n 0, 1) := by decide +kernel
theorem dX7_odds_14 : decode cX7_odds 14 = .ok (.getfield 41, 3) := by decide +kernel
theorem dX7_odds_17 : decode cX7_odds 17 = .ok (.aload_n 0, 1) := by decide +kernel
theorem dX7_odds_18 : decode cX7_odds 18 = .ok (.getfield 10, 3) := by decide +kernel
theorem dX7_odds_21 : decode cX7_odds 21 = .ok (.iload_n 1, 1) := by decide +kernel
theorem dX7_odds_22 : decode cX7_odds 22 = .ok (.invokevirtual 248, 3) := by decide +kernel
theorem dX7_odds_25 : decode cX7_odds 25 = .ok (.istore_n 2, 1) := by decide +kernel
theorem dX7_odds_26 : decode cX7_odds 26 = .ok (.iload_n 2, 1) := by decide +kernel
theorem dX7_odds_27 : decode cX7_odds 27 = .ok (.bipush 25, 2) := by decide +kernel
theorem dX7_odds_29 : decode cX7_odds 29 = .ok (.invokestatic 251, 3) := by decide +kernel
theorem dX7_odds_32 : decode cX7_odds 32 = .ok (.istore_n 3, 1) := by decide +kernel
theorem dX7_odds_33 : decode cX7_odds 33 = .ok (.aload_n 0, 1) := by decide +kernel
theorem dX7_odds_34 : decode cX7_odds 34 = .ok (.iload_n 2, 1) := by decide +kernel
theorem dX7_odds_35 : decode cX7_odds 35 = .ok (.iload_n 3, 1) := by decide +kernel
theorem dX7_odds_36 : decode cX7_odds 36 = .ok (.idiv, 1) := by decide +kernel
theorem dX7_odds_37 : decode cX7_odds 37 = .ok (.i2l, 1) := by decide +kernel
theorem dX7_odds_38 : decode cX7_odds 38 = .ok (.putfield 74, 3) := by decide +kernel
theorem dX7_odds_41 : decode cX7_odds 41 = .ok (.aload_n 0, 1) := by decide +kernel
theorem dX7_odds_42 : decode cX7_odds 42 = .ok (.bipush 25, 2) := by decide +kernel
theorem dX7_odds_44 : decode cX7_odds 44 = .ok (.iload_n 3, 1) := by decide +kernel
theorem dX7_odds_45 : decode cX7_odds 45 = .ok (.idiv, 1) := by decide +kernel
theorem dX7_odds_46 : decode cX7_odds 46 = .ok (.i2l, 1) := by decide +kernel
theorem dX7_odds_47 : decode cX7_odds 47 = .ok (.putfield 78, 3) := by decide +kernel
theorem dX7_odds_50 : decode cX7_odds 50 = .ok (.iconst 1, 1) := by decide +kernel
theorem dX7_odds_51 : decode cX7_odds 51 = .ok (.ireturn, 1) := by decide +kernel
theorem dX7_seen_0 : decode cX7_seen 0 = .ok (.iload_n 1, 1) := by decide +kernel
theorem dX7_seen_1 : decode cX7_seen 1 = .ok (.invokestatic 108, 3) := by decide +kernel
theorem dX7_seen_4 : decode cX7_seen 4 = .ok (.ifCond .eq 22, 3) := by decide +kernel
theorem dX7_seen_7 : decode cX7_seen 7 = .ok (.iload_n 2, 1) := by decide +kernel
theorem dX7_seen_8 : decode cX7_seen 8 = .ok (.iconst 0, 1) := by decide +kernel
theorem dX7_seen_9 : decode cX7_seen 9 = .ok (.bipush 12, 2) := by decide +kernel
theorem dX7_seen_11 : decode cX7_seen 11 = .ok (.invokestatic 90, 3) := by decide +kernel
theorem dX7_seen_14 : decode cX7_seen 14 = .ok (.ifCond .eq 12, 3) := by decide +kernel
theorem dX7_seen_17 : decode cX7_seen 17 = .ok (.iload_n 3, 1) := by decide +kernel
theorem dX7_seen_18 : decode cX7_seen 18 = .ok (.iconst 0, 1) := by decide +kernel
theorem dX7_seen_19 : decode cX7_seen 19 = .ok (.iconst 1, 1) := by decide +kernel
theorem dX7_seen_20 : decode cX7_seen 20 = .ok (.invokestatic 90, 3) := by decide +kernel
theorem dX7_seen_23 : decode cX7_seen 23 = .ok (.ifCond .ne 8, 3) := by decide +kernel
theorem dX7_seen_26 : decode cX7_seen 26 = .ok (.aload_n 0, 1) := by decide +kernel
theorem dX7_seen_27 : decode cX7_seen 27 = .ok (.invokevirtual 94, 3) := by decide +kernel
theorem dX7_seen_30 : decode cX7_seen 30 = .ok (.ireturn, 1) := by decide +kernel
theorem dX7_seen_31 : decode cX7_seen 31 = .ok (.aload_n 0, 1) := by decide +kernel
theorem dX7_seen_32 : decode cX7_seen 32 = .ok (.getfield 10, 3) := by decide +kernel
theorem dX7_seen_35 : decode cX7_seen 35 = .ok (.getfield 254, 3) := by decide +kernel
theorem dX7_seen_38 : decode cX7_seen 38 = .ok (.bipush 6, 2) := by decide +kernel
theorem dX7_seen_40 : decode cX7_seen 40 = .ok (.if_icmp .lt 8, 3) := by decide +kernel
theorem dX7_seen_43 : decode cX7_seen 43 = .ok (.aload_n 0, 1) := by decide +kernel
theorem dX7_seen_44 : decode cX7_seen 44 = .ok (.invokevirtual 127, 3) := by decide +kernel
theorem dX7_seen_47 : decode cX7_seen 47 = .ok (.ireturn, 1) := by decide +kernel
theorem dX7_seen_48 : decode cX7_seen 48 = .ok (.aload_n 0, 1) := by decide +kernel
theorem dX7_seen_49 : decode cX7_seen 49 = .ok (.getfield 10, 3) := by decide +kernel
theorem dX7_seen_52 : decode cX7_seen 52 = .ok (.iload_n 1, 1) := by decide +kernel
theorem dX7_seen_53 : decode cX7_seen 53 = .ok (.iload_n 2, 1) := by decide +kernel
theorem dX7_seen_54 : decode cX7_seen 54 = .ok (.iload_n 3, 1) := by decide +kernel
theorem dX7_seen_55 : decode cX7_seen 55 = .ok (.invokevirtual 257, 3) := by decide +kernel
theorem dX7_seen_58 : decode cX7_seen 58 = .ok (.ireturn, 1) := by decide +kernel
theorem dX7_forget_0 : decode cX7_forget 0 = .ok (.aload_n 0, 1) := by decide +kernel
theorem dX7_forget_1 : decode cX7_forget 1 = .ok (.getfield 10, 3) := by decide +kernel
theorem dX7_forget_4 : decode cX7_forget 4 = .ok (.getfield 254, 3) := by decide +kernel
theorem dX7_forget_7 : decode cX7_forget 7 = .ok (.istore_n 1, 1) := by decide +kernel
theorem dX7_forget_8 : decode cX7_forget 8 = .ok (.aload_n 0, 1) := by decide +kernel
theorem dX7_forget_9 : decode cX7_forget 9 = .ok (.getfield 10, 3) := by decide +kernel
theorem dX7_forget_12 : decode cX7_forget 12 = .ok (.iconst 0, 1) := by decide +kernel
theorem dX7_forget_13 : decode cX7_forget 13 = .ok (.putfield 254, 3) := by decide +kernel
theorem dX7_forget_16 : decode cX7_forget 16 = .ok (.iload_n 1, 1) := by decide +kernel
theorem dX7_forget_17 : decode cX7_forget 17 = .ok (.ireturn, 1) := by decide +kernel
theorem dX7_may_0 : decode cX7_may 0 = .ok (.iload_n 1, 1) := by decide +kernel
theorem dX7_may_1 : decode cX7_may 1 = .ok (.iconst 0, 1) := by decide +kernel
theorem dX7_may_2 : decode cX7_may 2 = .ok (.bipush 12, 2) := by decide +kernel
theorem dX7_may_4 : decode cX7_may 4 = .ok (.invokestatic 90, 3) := by decide +kernel
theorem dX7_may_7 : decode cX7_may 7 = .ok (.ifCond .ne 8, 3) := by decide +kernel
theorem dX7_may_10 : decode cX7_may 10 = .ok (.aload_n 0, 1) := by decide +kernel
theorem dX7_may_11 : decode cX7_may 11 = .ok (.invokevirtual 94, 3) := by decide +kernel
theorem dX7_may_14 : decode cX7_may 14 = .ok (.ireturn, 1) := by decide +kernel
theorem dX7_may_15 : decode cX7_may 15 = .ok (.aload_n 0, 1) := by decide +kernel
theorem dX7_may_16 : decode cX7_may 16 = .ok (.getfield 55, 3) := by decide +kernel
theorem dX7_may_19 : decode cX7_may 19 = .ok (.aload_n 0, 1) := by decide +kernel
theorem dX7_may_20 : decode cX7_may 20 = .ok (.getfield 10, 3) := by decide +kernel
theorem dX7_may_23 : decode cX7_may 23 = .ok (.iload_n 1, 1) := by decide +kernel
theorem dX7_may_24 : decode cX7_may 24 = .ok (.invokevirtual 260, 3) := by decide +kernel
theorem dX7_may_27 : decode cX7_may 27 = .ok (.aload_n 0, 1) := by decide +kernel
theorem dX7_may_28 : decode cX7_may 28 = .ok (.getfield 55, 3) := by decide +kernel
theorem dX7_may_31 : decode cX7_may 31 = .ok (.invokevirtual 263, 3) := by decide +kernel
theorem dX7_may_34 : decode cX7_may 34 = .ok (.ireturn, 1) := by decide +kernel
theorem dX7_ways_0 : decode cX7_ways 0 = .ok (.aload_n 0, 1) := by decide +kernel
theorem dX7_ways_1 : decode cX7_ways 1 = .ok (.getfield 55, 3) := by decide +kernel
theorem dX7_ways_4 : decode cX7_ways 4 = .ok (.aload_n 0, 1) := by decide +kernel
theorem dX7_ways_5 : decode cX7_ways 5 = .ok (.getfield 10, 3) := by decide +kernel
theorem dX7_ways_8 : decode cX7_ways 8 = .ok (.iconst 0, 1) := by decide +kernel
theorem dX7_ways_9 : decode cX7_ways 9 = .ok (.invokevirtual 260, 3) := by decide +kernel
theorem dX7_ways_12 : decode cX7_ways 12 = .ok (.aload_n 0, 1) := by decide +kernel
theorem dX7_ways_13 : decode cX7_ways 13 = .ok (.getfield 55, 3) := by decide +kernel
theorem dX7_ways_16 : decode cX7_ways 16 = .ok (.invokevirtual 266, 3) := by decide +kernel
theorem dX7_ways_19 : decode cX7_ways 19 = .ok (.lreturn, 1) := by decide +kernel
theorem dX7_peek_0 : decode cX7_peek 0 = .ok (.iload_n 1, 1) := by decide +kernel
theorem dX7_peek_1 : decode cX7_peek 1 = .ok (.iconst 0, 1) := by decide +kernel
theorem dX7_peek_2 : decode cX7_peek 2 = .ok (.bipush 12, 2) := by decide +kernel
theorem dX7_peek_4 : decode cX7_peek 4 = .ok (.invokestatic 90, 3) := by decide +kernel
theorem dX7_peek_7 : decode cX7_peek 7 = .ok (.ifCond .ne 8, 3) := by decide +kernel
theorem dX7_peek_10 : decode cX7_peek 10 = .ok (.aload_n 0, 1) := by decide +kernel
theorem dX7_peek_11 : decode cX7_peek 11 = .ok (.invokevirtual 94, 3) := by decide +kernel
theorem dX7_peek_14 : decode cX7_peek 14 = .ok (.ireturn, 1) := by decide +kernel
theorem dX7_peek_15 : decode cX7_peek 15 = .ok (.aload_n 0, 1) := by decide +kernel
theorem dX7_peek_16 : decode cX7_peek 16 = .ok (.getfield 55, 3) := by decide +kernel
theorem dX7_peek_19 : decode cX7_peek 19 = .ok (.aload_n 0, 1) := by decide +kernel
theorem dX7_peek_20 : decode cX7_peek 20 = .ok (.getfield 10, 3) := by decide +kernel
theorem dX7_peek_23 : decode cX7_peek 23 = .ok (.iload_n 1, 1) := by decide +kernel
theorem dX7_peek_24 : decode cX7_peek 24 = .ok (.invokevirtual 260, 3) := by decide +kernel
theorem dX7_peek_27 : decode cX7_peek 27 = .ok (.aload_n 0, 1) := by decide +kernel
theorem dX7_peek_28 : decode cX7_peek 28 = .ok (.getfield 55, 3) := by decide +kernel
theorem dX7_peek_31 : decode cX7_peek 31 = .ok (.invokevirtual 270, 3) := by decide +kernel
theorem dX7_peek_34 : decode cX7_peek 34 = .ok (.ireturn, 1) := by decide +kernel
theorem dX7_nights_0 : decode cX7_nights 0 = .ok (.iload_n 1, 1) := by decide +kernel
theorem dX7_nights_1 : decode cX7_nights 1 = .ok (.iconst 0, 1) := by decide +kernel
theorem dX7_nights_2 : decode cX7_nights 2 = .ok (.ldc_w 273, 3) := by decide +kernel
theorem dX7_nights_5 : decode cX7_nights 5 = .ok (.invokestatic 90, 3) := by decide +kernel
theorem dX7_nights_8 : decode cX7_nights 8 = .ok (.ifCond .eq 13, 3) := by decide +kernel
theorem dX7_nights_11 : decode cX7_nights 11 = .ok (.iload_n 2, 1) := by decide +kernel
theorem dX7_nights_12 : decode cX7_nights 12 = .ok (.iconst 0, 1) := by decide +kernel
theorem dX7_nights_13 : decode cX7_nights 13 = .ok (.bipush 30, 2) := by decide +kernel
theorem dX7_nights_15 : decode cX7_nights 15 = .ok (.invokestatic 90, 3) := by decide +kernel
theorem dX7_nights_18 : decode cX7_nights 18 = .ok (.ifCond .ne 8, 3) := by decide +kernel
theorem dX7_nights_21 : decode cX7_nights 21 = .ok (.aload_n 0, 1) := by decide +kernel
theorem dX7_nights_22 : decode cX7_nights 22 = .ok (.invokevirtual 94, 3) := by decide +kernel
theorem dX7_nights_25 : decode cX7_nights 25 = .ok (.ireturn, 1) := by decide +kernel
theorem dX7_nights_26 : decode cX7_nights 26 = .ok (.aload_n 0, 1) := by decide +kernel
theorem dX7_nights_27 : decode cX7_nights 27 = .ok (.getfield 41, 3) := by decide +kernel
theorem dX7_nights_30 : decode cX7_nights 30 = .ok (.aload_n 0, 1) := by decide +kernel
theorem dX7_nights_31 : decode cX7_nights 31 = .ok (.getfield 10, 3) := by decide +kernel
theorem dX7_nights_34 : decode cX7_nights 34 = .ok (.iload_n 1, 1) := by decide +kernel
theorem dX7_nights_35 : decode cX7_nights 35 = .ok (.iload_n 2, 1) := by decide +kernel
theorem dX7_nights_36 : decode cX7_nights 36 = .ok (.invokevirtual 274, 3) := by decide +kernel
theorem dX7_nights_39 : decode cX7_nights 39 = .ok (.ireturn, 1) := by decide +kernel
theorem dX7_part_0 : decode cX7_part 0 = .ok (.iload_n 1, 1) := by decide +kernel
theorem dX7_part_1 : decode cX7_part 1 = .ok (.iconst 0, 1) := by decide +kernel
theorem dX7_part_2 : decode cX7_part 2 = .ok (.iconst 1, 1) := by decide +kernel
theorem dX7_part_3 : decode cX7_part 3 = .ok (.invokestatic 90, 3) := by decide +kernel
theorem dX7_part_6 : decode cX7_part 6 = .ok (.ifCond .ne 9, 3) := by decide +kernel
theorem dX7_part_9 : decode cX7_part 9 = .ok (.aload_n 0, 1) := by decide +kernel
theorem dX7_part_10 : decode cX7_part 10 = .ok (.invokevirtual 94, 3) := by decide +kernel
theorem dX7_part_13 : decode cX7_part 13 = .ok (.i2l, 1) := by decide +kernel
theorem dX7_part_14 : decode cX7_part 14 = .ok (.lreturn, 1) := by decide +kernel
theorem dX7_part_15 : decode cX7_part 15 = .ok (.iload_n 1, 1) := by decide +kernel
theorem dX7_part_16 : decode cX7_part 16 = .ok (.ifCond .ne 10, 3) := by decide +kernel
theorem dX7_part_19 : decode cX7_part 19 = .ok (.aload_n 0, 1) := by decide +kernel
theorem dX7_part_20 : decode cX7_part 20 = .ok (.getfield 74, 3) := by decide +kernel
theorem dX7_part_23 : decode cX7_part 23 = .ok (.goto 7, 3) := by decide +kernel
theorem dX7_part_26 : decode cX7_part 26 = .ok (.aload_n 0, 1) := by decide +kernel
theorem dX7_part_27 : decode cX7_part 27 = .ok (.getfield 78, 3) := by decide +kernel
theorem dX7_part_30 : decode cX7_part 30 = .ok (.lreturn, 1) := by decide +kernel
theorem dX7_image_0 : decode cX7_image 0 = .ok (.iload_n 1, 1) := by decide +kernel
theorem dX7_image_1 : decode cX7_image 1 = .ok (.iconst 0, 1) := by decide +kernel
theorem dX7_image_2 : decode cX7_image 2 = .ok (.iconst 1, 1) := by decide +kernel
theorem dX7_image_3 : decode cX7_image 3 = .ok (.invokestatic 90, 3) := by decide +kernel
theorem dX7_image_6 : decode cX7_image 6 = .ok (.ifCond .ne 8, 3) := by decide +kernel
theorem dX7_image_9 : decode cX7_image 9 = .ok (.aload_n 0, 1) := by decide +kernel
theorem dX7_image_10 : decode cX7_image 10 = .ok (.invokevirtual 94, 3) := by decide +kernel
theorem dX7_image_13 : decode cX7_image 13 = .ok (.ireturn, 1) := by decide +kernel
theorem dX7_image_14 : decode cX7_image 14 = .ok (.aload_n 0, 1) := by decide +kernel
theorem dX7_image_15 : decode cX7_image 15 = .ok (.getfield 26, 3) := by decide +kernel
theorem dX7_image_18 : decode cX7_image 18 = .ok (.iload_n 1, 1) := by decide +kernel
theorem dX7_image_19 : decode cX7_image 19 = .ok (.aaload, 1) := by decide +kernel
theorem dX7_image_20 : decode cX7_image 20 = .ok (.aload_n 0, 1) := by decide +kernel
theorem dX7_image_21 : decode cX7_image 21 = .ok (.getfield 10, 3) := by decide +kernel
theorem dX7_image_24 : decode cX7_image 24 = .ok (.invokevirtual 144, 3) := by decide +kernel
theorem dX7_image_27 : decode cX7_image 27 = .ok (.aload_n 0, 1) := by decide +kernel
theorem dX7_image_28 : decode cX7_image 28 = .ok (.getfield 30, 3) := by decide +kernel
theorem dX7_image_31 : decode cX7_image 31 = .ok (.iload_n 1, 1) := by decide +kernel
theorem dX7_image_32 : decode cX7_image 32 = .ok (.aaload, 1) := by decide +kernel
theorem dX7_image_33 : decode cX7_image 33 = .ok (.aload_n 0, 1) := by decide +kernel
theorem dX7_image_34 : decode cX7_image 34 = .ok (.getfield 19, 3) := by decide +kernel
theorem dX7_image_37 : decode cX7_image 37 = .ok (.invokevirtual 277, 3) := by decide +kernel
theorem dX7_image_40 : decode cX7_image 40 = .ok (.aload_n 0, 1) := by decide +kernel
theorem dX7_image_41 : decode cX7_image 41 = .ok (.getfield 34, 3) := by decide +kernel
theorem dX7_image_44 : decode cX7_image 44 = .ok (.iload_n 1, 1) := by decide +kernel
theorem dX7_image_45 : decode cX7_image 45 = .ok (.iconst 1, 1) := by decide +kernel
theorem dX7_image_46 : decode cX7_image 46 = .ok (.bastore, 1) := by decide +kernel
theorem dX7_image_47 : decode cX7_image 47 = .ok (.iconst 1, 1) := by decide +kernel
theorem dX7_image_48 : decode cX7_image 48 = .ok (.ireturn, 1) := by decide +kernel
theorem dX7_from_0 : decode cX7_from 0 = .ok (.iload_n 1, 1) := by decide +kernel
theorem dX7_from_1 : decode cX7_from 1 = .ok (.iconst 0, 1) := by decide +kernel
theorem dX7_from_2 : decode cX7_from 2 = .ok (.iconst 1, 1) := by decide +kernel
theorem dX7_from_3 : decode cX7_from 3 = .ok (.invokestatic 90, 3) := by decide +kernel
theorem dX7_from_6 : decode cX7_from 6 = .ok (.ifCond .ne 8, 3) := by decide +kernel
theorem dX7_from_9 : decode cX7_from 9 = .ok (.aload_n 0, 1) := by decide +kernel
theorem dX7_from_10 : decode cX7_from 10 = .ok (.invokevirtual 94, 3) := by decide +kernel
theorem dX7_from_13 : decode cX7_from 13 = .ok (.ireturn, 1) := by decide +kernel
theorem dX7_from_14 : decode cX7_from 14 = .ok (.aload_n 0, 1) := by decide +kernel
theorem dX7_from_15 : decode cX7_from 15 = .ok (.getfield 34, 3) := by decide +kernel
theorem dX7_from_18 : decode cX7_from 18 = .ok (.iload_n 1, 1) := by decide +kernel
theorem dX7_from_19 : decode cX7_from 19 = .ok (.baload, 1) := by decide +kernel
theorem dX7_from_20 : decode cX7_from 20 = .ok (.ifCond .ne 8, 3) := by decide +kernel
theorem dX7_from_23 : decode cX7_from 23 = .ok (.aload_n 0, 1) := by decide +kernel
theorem dX7_from_24 : decode cX7_from 24 = .ok (.invokevirtual 166, 3) := by decide +kernel
theorem dX7_from_27 : decode cX7_from 27 = .ok (.ireturn, 1) := by decide +kernel
theorem dX7_from_28 : decode cX7_from 28 = .ok (.aload_n 0, 1) := by decide +kernel
theorem dX7_from_29 : decode cX7_from 29 = .ok (.getfield 10, 3) := by decide +kernel
theorem dX7_from_32 : decode cX7_from 32 = .ok (.aload_n 0, 1) := by decide +kernel
theorem dX7_from_33 : decode cX7_from 33 = .ok (.getfield 26, 3) := by decide +kernel
theorem dX7_from_36 : decode cX7_from 36 = .ok (.iload_n 1, 1) := by decide +kernel
theorem dX7_from_37 : decode cX7_from 37 = .ok (.aaload, 1) := by decide +kernel
theorem dX7_from_38 : decode cX7_from 38 = .ok (.invokevirtual 144, 3) := by decide +kernel
theorem dX7_from_41 : decode cX7_from 41 = .ok (.aload_n 0, 1) := by decide +kernel
theorem dX7_from_42 : decode cX7_from 42 = .ok (.getfield 19, 3) := by decide +kernel
theorem dX7_from_45 : decode cX7_from 45 = .ok (.aload_n 0, 1) := by decide +kernel
theorem dX7_from_46 : decode cX7_from 46 = .ok (.getfield 30, 3) := by decide +kernel
theorem dX7_from_49 : decode cX7_from 49 = .ok (.iload_n 1, 1) := by decide +kernel
theorem dX7_from_50 : decode cX7_from 50 = .ok (.aaload, 1) := by decide +kernel
theorem dX7_from_51 : decode cX7_from 51 = .ok (.invokevirtual 277, 3) := by decide +kernel
theorem dX7_from_54 : decode cX7_from 54 = .ok (.iconst 1, 1) := by decide +kernel
theorem dX7_from_55 : decode cX7_from 55 = .ok (.ireturn, 1) := by decide +kernel
theorem dX7_status_0 : decode cX7_status 0 = .ok (.iload_n 1, 1) := by decide +kernel
theorem dX7_status_1 : decode cX7_status 1 = .ok (.tableswitch 42 0 2 #[27, 32, 37], 27) := by decide +kernel
theorem dX7_status_28 : decode cX7_status 28 = .ok (.aload_n 0, 1) := by decide +kernel
theorem dX7_status_29 : decode cX7_status 29 = .ok (.getfield 81, 3) := by decide +kernel
theorem dX7_status_32 : decode cX7_status 32 = .ok (.ireturn, 1) := by decide +kernel
theorem dX7_status_33 : decode cX7_status 33 = .ok (.aload_n 0, 1) := by decide +kernel
theorem dX7_status_34 : decode cX7_status 34 = .ok (.getfield 84, 3) := by decide +kernel
theorem dX7_status_37 : decode cX7_status 37 = .ok (.ireturn, 1) := by decide +kernel
theorem dX7_status_38 : decode cX7_status 38 = .ok (.aload_n 0, 1) := by decide +kernel
theorem dX7_status_39 : decode cX7_status 39 = .ok (.getfield 87, 3) := by decide +kernel
theorem dX7_status_42 : decode cX7_status 42 = .ok (.ireturn, 1) := by decide +kernel
theorem dX7_status_43 : decode cX7_status 43 = .ok (.aload_n 0, 1) := by decide +kernel
theorem dX7_status_44 : decode cX7_status 44 = .ok (.invokevirtual 94, 3) := by decide +kernel
theorem dX7_status_47 : decode cX7_status 47 = .ok (.pop, 1) := by decide +kernel
theorem dX7_status_48 : decode cX7_status 48 = .ok (.iconst (-1), 1) := by decide +kernel
theorem dX7_status_49 : decode cX7_status 49 = .ok (.ireturn, 1) := by decide +kernel
theorem dX7_count_0 : decode cX7_count 0 = .ok (.iload_n 1, 1) := by decide +kernel
theorem dX7_count_1 : decode cX7_count 1 = .ok (.iconst 0, 1) := by decide +kernel
theorem dX7_count_2 : decode cX7_count 2 = .ok (.bipush 8, 2) := by decide +kernel
theorem dX7_count_4 : decode cX7_count 4 = .ok (.invokestatic 90, 3) := by decide +kernel
theorem dX7_count_7 : decode cX7_count 7 = .ok (.ifCond .ne 8, 3) := by decide +kernel
theorem dX7_count_10 : decode cX7_count 10 = .ok (.aload_n 0, 1) := by decide +kernel
theorem dX7_count_11 : decode cX7_count 11 = .ok (.invokevirtual 94, 3) := by decide +kernel
theorem dX7_count_14 : decode cX7_count 14 = .ok (.ireturn, 1) := by decide +kernel
theorem dX7_count_15 : decode cX7_count 15 = .ok (.aload_n 0, 1) := by decide +kernel
theorem dX7_count_16 : decode cX7_count 16 = .ok (.iload_n 1, 1) := by decide +kernel
theorem dX7_count_17 : decode cX7_count 17 = .ok (.invokevirtual 280, 3) := by decide +kernel
theorem dX7_count_20 : decode cX7_count 20 = .ok (.ireturn, 1) := by decide +kernel
theorem dX7_digest_0 : decode cX7_digest 0 = .ok (.ldc2_w 283, 3) := by decide +kernel
theorem dX7_digest_3 : decode cX7_digest 3 = .ok (.lstore_n 1, 1) := by decide +kernel
theorem dX7_digest_4 : decode cX7_digest 4 = .ok (.iconst 0, 1) := by decide +kernel
theorem dX7_digest_5 : decode cX7_digest 5 = .ok (.istore_n 3, 1) := by decide +kernel
theorem dX7_digest_6 : decode cX7_digest 6 = .ok (.iload_n 3, 1) := by decide +kernel
theorem dX7_digest_7 : decode cX7_digest 7 = .ok (.bipush 8, 2) := by decide +kernel
theorem dX7_digest_9 : decode cX7_digest 9 = .ok (.if_icmp .gt 22, 3) := by decide +kernel
theorem dX7_digest_12 : decode cX7_digest 12 = .ok (.ldc2_w 285, 3) := by decide +kernel
theorem dX7_digest_15 : decode cX7_digest 15 = .ok (.lload_n 1, 1) := by decide +kernel
theorem dX7_digest_16 : decode cX7_digest 16 = .ok (.lmul, 1) := by decide +kernel
theorem dX7_digest_17 : decode cX7_digest 17 = .ok (.aload_n 0, 1) := by decide +kernel
theorem dX7_digest_18 : decode cX7_digest 18 = .ok (.iload_n 3, 1) := by decide +kernel
theorem dX7_digest_19 : decode cX7_digest 19 = .ok (.invokevirtual 280, 3) := by decide +kernel
theorem dX7_digest_22 : decode cX7_digest 22 = .ok (.i2l, 1) := by decide +kernel
theorem dX7_digest_23 : decode cX7_digest 23 = .ok (.ladd, 1) := by decide +kernel
theorem dX7_digest_24 : decode cX7_digest 24 = .ok (.lstore_n 1, 1) := by decide +kernel
theorem dX7_digest_25 : decode cX7_digest 25 = .ok (.iinc 3 1, 3) := by decide +kernel
theorem dX7_digest_28 : decode cX7_digest 28 = .ok (.goto (-22), 3) := by decide +kernel
theorem dX7_digest_31 : decode cX7_digest 31 = .ok (.aload_n 0, 1) := by decide +kernel
theorem dX7_digest_32 : decode cX7_digest 32 = .ok (.getfield 10, 3) := by decide +kernel
theorem dX7_digest_35 : decode cX7_digest 35 = .ok (.lload_n 1, 1) := by decide +kernel
theorem dX7_digest_36 : decode cX7_digest 36 = .ok (.invokevirtual 287, 3) := by decide +kernel
theorem dX7_digest_39 : decode cX7_digest 39 = .ok (.lstore_n 1, 1) := by decide +kernel
theorem dX7_digest_40 : decode cX7_digest 40 = .ok (.aload_n 0, 1) := by decide +kernel
theorem dX7_digest_41 : decode cX7_digest 41 = .ok (.getfield 10, 3) := by decide +kernel
theorem dX7_digest_44 : decode cX7_digest 44 = .ok (.lload_n 1, 1) := by decide +kernel
theorem dX7_digest_45 : decode cX7_digest 45 = .ok (.invokevirtual 291, 3) := by decide +kernel
theorem dX7_digest_48 : decode cX7_digest 48 = .ok (.lstore_n 1, 1) := by decide +kernel
theorem dX7_digest_49 : decode cX7_digest 49 = .ok (.aload_n 0, 1) := by decide +kernel
theorem dX7_digest_50 : decode cX7_digest 50 = .ok (.getfield 10, 3) := by decide +kernel
theorem dX7_digest_53 : decode cX7_digest 53 = .ok (.lload_n 1, 1) := by decide +kernel
theorem dX7_digest_54 : decode cX7_digest 54 = .ok (.invokevirtual 294, 3) := by decide +kernel
theorem dX7_digest_57 : decode cX7_digest 57 = .ok (.lstore_n 1, 1) := by decide +kernel
theorem dX7_digest_58 : decode cX7_digest 58 = .ok (.ldc2_w 285, 3) := by decide +kernel
theorem dX7_digest_61 : decode cX7_digest 61 = .ok (.lload_n 1, 1) := by decide +kernel
theorem dX7_digest_62 : decode cX7_digest 62 = .ok (.lmul, 1) := by decide +kernel
theorem dX7_digest_63 : decode cX7_digest 63 = .ok (.aload_n 0, 1) := by decide +kernel
theorem dX7_digest_64 : decode cX7_digest 64 = .ok (.getfield 74, 3) := by decide +kernel
theorem dX7_digest_67 : decode cX7_digest 67 = .ok (.ladd, 1) := by decide +kernel
theorem dX7_digest_68 : decode cX7_digest 68 = .ok (.lstore_n 1, 1) := by decide +kernel
theorem dX7_digest_69 : decode cX7_digest 69 = .ok (.ldc2_w 285, 3) := by decide +kernel
theorem dX7_digest_72 : decode cX7_digest 72 = .ok (.lload_n 1, 1) := by decide +kernel
theorem dX7_digest_73 : decode cX7_digest 73 = .ok (.lmul, 1) := by decide +kernel
theorem dX7_digest_74 : decode cX7_digest 74 = .ok (.aload_n 0, 1) := by decide +kernel
theorem dX7_digest_75 : decode cX7_digest 75 = .ok (.getfield 78, 3) := by decide +kernel
theorem dX7_digest_78 : decode cX7_digest 78 = .ok (.ladd, 1) := by decide +kernel
theorem dX7_digest_79 : decode cX7_digest 79 = .ok (.lreturn, 1) := by decide +kernel
theorem dX7_counted_0 : decode cX7_counted 0 = .ok (.iload_n 1, 1) := by decide +kernel
theorem dX7_counted_1 : decode cX7_counted 1 = .ok (.tableswitch 122 0 7 #[47, 55, 63, 71, 82, 98, 106, 114], 47) := by decide +kernel
theorem dX7_counted_48 : decode cX7_counted 48 = .ok (.aload_n 0, 1) := by decide +kernel
theorem dX7_counted_49 : decode cX7_counted 49 = .ok (.getfield 10, 3) := by decide +kernel
theorem dX7_counted_52 : decode cX7_counted 52 = .ok (.getfield 98, 3) := by decide +kernel
theorem dX7_counted_55 : decode cX7_counted 55 = .ok (.ireturn, 1) := by decide +kernel
theorem dX7_counted_56 : decode cX7_counted 56 = .ok (.aload_n 0, 1) := by decide +kernel
theorem dX7_counted_57 : decode cX7_counted 57 = .ok (.getfield 10, 3) := by decide +kernel
theorem dX7_counted_60 : decode cX7_counted 60 = .ok (.getfield 133, 3) := by decide +kernel
theorem dX7_counted_63 : decode cX7_counted 63 = .ok (.ireturn, 1) := by decide +kernel
theorem dX7_counted_64 : decode cX7_counted 64 = .ok (.aload_n 0, 1) := by decide +kernel
theorem dX7_counted_65 : decode cX7_counted 65 = .ok (.getfield 10, 3) := by decide +kernel
theorem dX7_counted_68 : decode cX7_counted 68 = .ok (.getfield 297, 3) := by decide +kernel
theorem dX7_counted_71 : decode cX7_counted 71 = .ok (.ireturn, 1) := by decide +kernel
theorem dX7_counted_72 : decode cX7_counted 72 = .ok (.aload_n 0, 1) := by decide +kernel
theorem dX7_counted_73 : decode cX7_counted 73 = .ok (.getfield 10, 3) := by decide +kernel
theorem dX7_counted_76 : decode cX7_counted 76 = .ok (.getfield 151, 3) := by decide +kernel
theorem dX7_counted_79 : decode cX7_counted 79 = .ok (.getfield 183, 3) := by decide +kernel
theorem dX7_counted_82 : decode cX7_counted 82 = .ok (.ireturn, 1) := by decide +kernel
theorem dX7_counted_83 : decode cX7_counted 83 = .ok (.aload_n 0, 1) := by decide +kernel
theorem dX7_counted_84 : decode cX7_counted 84 = .ok (.getfield 10, 3) := by decide +kernel
theorem dX7_counted_87 : decode cX7_counted 87 = .ok (.aload_n 0, 1) := by decide +kernel
theorem dX7_counted_88 : decode cX7_counted 88 = .ok (.getfield 10, 3) := by decide +kernel
theorem dX7_counted_91 : decode cX7_counted 91 = .ok (.getfield 151, 3) := by decide +kernel
theorem dX7_counted_94 : decode cX7_counted 94 = .ok (.iconst 0, 1) := by decide +kernel
theorem dX7_counted_95 : decode cX7_counted 95 = .ok (.invokevirtual 300, 3) := by decide +kernel
theorem dX7_counted_98 : decode cX7_counted 98 = .ok (.ireturn, 1) := by decide +kernel
theorem dX7_counted_99 : decode cX7_counted 99 = .ok (.aload_n 0, 1) := by decide +kernel
theorem dX7_counted_100 : decode cX7_counted 100 = .ok (.getfield 10, 3) := by decide +kernel
theorem dX7_counted_103 : decode cX7_counted 103 = .ok (.getfield 124, 3) := by decide +kernel
theorem dX7_counted_106 : decode cX7_counted 106 = .ok (.ireturn, 1) := by decide +kernel
theorem dX7_counted_107 : decode cX7_counted 107 = .ok (.aload_n 0, 1) := by decide +kernel
theorem dX7_counted_108 : decode cX7_counted 108 = .ok (.getfield 10, 3) := by decide +kernel
theorem dX7_counted_111 : decode cX7_counted 111 = .ok (.getfield 254, 3) := by decide +kernel
theorem dX7_counted_114 : decode cX7_counted 114 = .ok (.ireturn, 1) := by decide +kernel
theorem dX7_counted_115 : decode cX7_counted 115 = .ok (.aload_n 0, 1) := by decide +kernel
theorem dX7_counted_116 : decode cX7_counted 116 = .ok (.getfield 19, 3) := by decide +kernel
theorem dX7_counted_119 : decode cX7_counted 119 = .ok (.getfield 105, 3) := by decide +kernel
theorem dX7_counted_122 : decode cX7_counted 122 = .ok (.ireturn, 1) := by decide +kernel
theorem dX7_counted_123 : decode cX7_counted 123 = .ok (.aload_n 0, 1) := by decide +kernel
theorem dX7_counted_124 : decode cX7_counted 124 = .ok (.getfield 70, 3) := by decide +kernel
theorem dX7_counted_127 : decode cX7_counted 127 = .ok (.ireturn, 1) := by decide +kernel
theorem dX7_isHeir_0 : decode cX7_isHeir 0 = .ok (.iload_n 1, 1) := by decide +kernel
theorem dX7_isHeir_1 : decode cX7_isHeir 1 = .ok (.iconst 0, 1) := by decide +kernel
theorem dX7_isHeir_2 : decode cX7_isHeir 2 = .ok (.aload_n 0, 1) := by decide +kernel
theorem dX7_isHeir_3 : decode cX7_isHeir 3 = .ok (.getfield 10, 3) := by decide +kernel
theorem dX7_isHeir_6 : decode cX7_isHeir 6 = .ok (.getfield 98, 3) := by decide +kernel
theorem dX7_isHeir_9 : decode cX7_isHeir 9 = .ok (.iconst 1, 1) := by decide +kernel
theorem dX7_isHeir_10 : decode cX7_isHeir 10 = .ok (.isub, 1) := by decide +kernel
theorem dX7_isHeir_11 : decode cX7_isHeir 11 = .ok (.invokestatic 90, 3) := by decide +kernel
theorem dX7_isHeir_14 : decode cX7_isHeir 14 = .ok (.ireturn, 1) := by decide +kernel
theorem dX7_isIn_0 : decode cX7_isIn 0 = .ok (.aload_n 0, 1) := by decide +kernel
theorem dX7_isIn_1 : decode cX7_isIn 1 = .ok (.getfield 10, 3) := by decide +kernel
theorem dX7_isIn_4 : decode cX7_isIn 4 = .ok (.getfield 151, 3) := by decide +kernel
theorem dX7_isIn_7 : decode cX7_isIn 7 = .ok (.getfield 160, 3) := by decide +kernel
theorem dX7_isIn_10 : decode cX7_isIn 10 = .ok (.iload_n 1, 1) := by decide +kernel
theorem dX7_isIn_11 : decode cX7_isIn 11 = .ok (.iaload, 1) := by decide +kernel
theorem dX7_isIn_12 : decode cX7_isIn 12 = .ok (.ifCond .ne 7, 3) := by decide +kernel
theorem dX7_isIn_15 : decode cX7_isIn 15 = .ok (.iconst 1, 1) := by decide +kernel
theorem dX7_isIn_16 : decode cX7_isIn 16 = .ok (.goto 4, 3) := by decide +kernel
theorem dX7_isIn_19 : decode cX7_isIn 19 = .ok (.iconst 0, 1) := by decide +kernel
theorem dX7_isIn_20 : decode cX7_isIn 20 = .ok (.ireturn, 1) := by decide +kernel
theorem dX7_isRoom_0 : decode cX7_isRoom 0 = .ok (.iload_n 0, 1) := by decide +kernel
theorem dX7_isRoom_1 : decode cX7_isRoom 1 = .ok (.iconst 0, 1) := by decide +kernel
theorem dX7_isRoom_2 : decode cX7_isRoom 2 = .ok (.bipush 7, 2) := by decide +kernel
theorem dX7_isRoom_4 : decode cX7_isRoom 4 = .ok (.invokestatic 90, 3) := by decide +kernel
theorem dX7_isRoom_7 : decode cX7_isRoom 7 = .ok (.ireturn, 1) := by decide +kernel
theorem dX7_within_0 : decode cX7_within 0 = .ok (.iload_n 0, 1) := by decide +kernel
theorem dX7_within_1 : decode cX7_within 1 = .ok (.iload_n 1, 1) := by decide +kernel
theorem dX7_within_2 : decode cX7_within 2 = .ok (.if_icmp .lt 12, 3) := by decide +kernel
theorem dX7_within_5 : decode cX7_within 5 = .ok (.iload_n 0, 1) := by decide +kernel
theorem dX7_within_6 : decode cX7_within 6 = .ok (.iload_n 2, 1) := by decide +kernel
theorem dX7_within_7 : decode cX7_within 7 = .ok (.if_icmp .gt 7, 3) := by decide +kernel
theorem dX7_within_10 : decode cX7_within 10 = .ok (.iconst 1, 1) := by decide +kernel
theorem dX7_within_11 : decode cX7_within 11 = .ok (.goto 4, 3) := by decide +kernel
theorem dX7_within_14 : decode cX7_within 14 = .ok (.iconst 0, 1) := by decide +kernel
theorem dX7_within_15 : decode cX7_within 15 = .ok (.ireturn, 1) := by decide +kernel
theorem dX7_refuseBad_0 : decode cX7_refuseBad 0 = .ok (.aload_n 0, 1) := by decide +kernel
theorem dX7_refuseBad_1 : decode cX7_refuseBad 1 = .ok (.dup, 1) := by decide +kernel
theorem dX7_refuseBad_2 : decode cX7_refuseBad 2 = .ok (.getfield 81, 3) := by decide +kernel
theorem dX7_refuseBad_5 : decode cX7_refuseBad 5 = .ok (.iconst 1, 1) := by decide +kernel
theorem dX7_refuseBad_6 : decode cX7_refuseBad 6 = .ok (.iadd, 1) := by decide +kernel
theorem dX7_refuseBad_7 : decode cX7_refuseBad 7 = .ok (.putfield 81, 3) := by decide +kernel
theorem dX7_refuseBad_10 : decode cX7_refuseBad 10 = .ok (.bipush (-2), 2) := by decide +kernel
theorem dX7_refuseBad_12 : decode cX7_refuseBad 12 = .ok (.ireturn, 1) := by decide +kernel
theorem dX7_refuseNo_0 : decode cX7_refuseNo 0 = .ok (.aload_n 0, 1) := by decide +kernel
theorem dX7_refuseNo_1 : decode cX7_refuseNo 1 = .ok (.dup, 1) := by decide +kernel
theorem dX7_refuseNo_2 : decode cX7_refuseNo 2 = .ok (.getfield 84, 3) := by decide +kernel
theorem dX7_refuseNo_5 : decode cX7_refuseNo 5 = .ok (.iconst 1, 1) := by decide +kernel
theorem dX7_refuseNo_6 : decode cX7_refuseNo 6 = .ok (.iadd, 1) := by decide +kernel
theorem dX7_refuseNo_7 : decode cX7_refuseNo 7 = .ok (.putfield 84, 3) := by decide +kernel
theorem dX7_refuseNo_10 : decode cX7_refuseNo 10 = .ok (.bipush (-3), 2) := by decide +kernel
theorem dX7_refuseNo_12 : decode cX7_refuseNo 12 = .ok (.ireturn, 1) := by decide +kernel
theorem dX7_refuseFull_0 : decode cX7_refuseFull 0 = .ok (.aload_n 0, 1) := by decide +kernel
theorem dX7_refuseFull_1 : decode cX7_refuseFull 1 = .ok (.dup, 1) := by decide +kernel
theorem dX7_refuseFull_2 : decode cX7_refuseFull 2 = .ok (.getfield 87, 3) := by decide +kernel
theorem dX7_refuseFull_5 : decode cX7_refuseFull 5 = .ok (.iconst 1, 1) := by decide +kernel
theorem dX7_refuseFull_6 : decode cX7_refuseFull 6 = .ok (.iadd, 1) := by decide +kernel
theorem dX7_refuseFull_7 : decode cX7_refuseFull 7 = .ok (.putfield 87, 3) := by decide +kernel
theorem dX7_refuseFull_10 : decode cX7_refuseFull 10 = .ok (.bipush (-4), 2) := by decide +kernel
theorem dX7_refuseFull_12 : decode cX7_refuseFull 12 = .ok (.ireturn, 1) := by decide +kernel
theorem dX7_greatestShared_0 : decode cX7_greatestShared 0 = .ok (.iload_n 1, 1) := by decide +kernel
theorem dX7_greatestShared_1 : decode cX7_greatestShared 1 = .ok (.iconst 1, 1) := by decide +kernel
theorem dX7_greatestShared_2 : decode cX7_greatestShared 2 = .ok (.invokestatic 303, 3) := by decide +kernel
theorem dX7_greatestShared_5 : decode cX7_greatestShared 5 = .ok (.istore_n 2, 1) := by decide +kernel
theorem dX7_greatestShared_6 : decode cX7_greatestShared 6 = .ok (.iload_n 0, 1) := by decide +kernel
theorem dX7_greatestShared_7 : decode cX7_greatestShared 7 = .ok (.istore_n 3, 1) := by decide +kernel
theorem dX7_greatestShared_8 : decode cX7_greatestShared 8 = .ok (.iconst 0, 1) := by decide +kernel
theorem dX7_greatestShared_9 : decode cX7_greatestShared 9 = .ok (.istore 4, 2) := by decide +kernel
theorem dX7_greatestShared_11 : decode cX7_greatestShared 11 = .ok (.iload 4, 2) := by decide +kernel
theorem dX7_greatestShared_13 : decode cX7_greatestShared 13 = .ok (.bipush 32, 2) := by decide +kernel
theorem dX7_greatestShared_15 : decode cX7_greatestShared 15 = .ok (.if_icmp .ge 23, 3) := by decide +kernel
theorem dX7_greatestShared_18 : decode cX7_greatestShared 18 = .ok (.iload_n 3, 1) := by decide +kernel
theorem dX7_greatestShared_19 : decode cX7_greatestShared 19 = .ok (.ifCond .le 19, 3) := by decide +kernel
theorem dX7_greatestShared_22 : decode cX7_greatestShared 22 = .ok (.iload_n 2, 1) := by decide +kernel
theorem dX7_greatestShared_23 : decode cX7_greatestShared 23 = .ok (.iload_n 3, 1) := by decide +kernel
theorem dX7_greatestShared_24 : decode cX7_greatestShared 24 = .ok (.irem, 1) := by decide +kernel
theorem dX7_greatestShared_25 : decode cX7_greatestShared 25 = .ok (.istore 5, 2) := by decide +kernel
theorem dX7_greatestShared_27 : decode cX7_greatestShared 27 = .ok (.iload_n 3, 1) := by decide +kernel
theorem dX7_greatestShared_28 : decode cX7_greatestShared 28 = .ok (.istore_n 2, 1) := by decide +kernel
theorem dX7_greatestShared_29 : decode cX7_greatestShared 29 = .ok (.iload 5, 2) := by decide +kernel
theorem dX7_greatestShared_31 : decode cX7_greatestShared 31 = .ok (.istore_n 3, 1) := by decide +kernel
theorem dX7_greatestShared_32 : decode cX7_greatestShared 32 = .ok (.iinc 4 1, 3) := by decide +kernel
theorem dX7_greatestShared_35 : decode cX7_greatestShared 35 = .ok (.goto (-24), 3) := by decide +kernel
theorem dX7_greatestShared_38 : decode cX7_greatestShared 38 = .ok (.iconst 1, 1) := by decide +kernel
theorem dX7_greatestShared_39 : decode cX7_greatestShared 39 = .ok (.iload_n 2, 1) := by decide +kernel
theorem dX7_greatestShared_40 : decode cX7_greatestShared 40 = .ok (.invokestatic 303, 3) := by decide +kernel
theorem dX7_greatestShared_43 : decode cX7_greatestShared 43 = .ok (.ireturn, 1) := by decide +kernel
theorem dX8_init_0 : decode cX8_init 0 = .ok (.aload_n 0, 1) := by decide +kernel
theorem dX8_init_1 : decode cX8_init 1 = .ok (.invokespecial 1, 3) := by decide +kernel
theorem dX8_init_4 : decode cX8_init 4 = .ok (.aload_n 0, 1) := by decide +kernel
theorem dX8_init_5 : decode cX8_init 5 = .ok (.sipush 399, 3) := by decide +kernel
theorem dX8_init_8 : decode cX8_init 8 = .ok (.newarray .int, 2) := by decide +kernel
theorem dX8_init_10 : decode cX8_init 10 = .ok (.putfield 7, 3) := by decide +kernel
theorem dX8_init_13 : decode cX8_init 13 = .ok (.aload_n 0, 1) := by decide +kernel
theorem dX8_init_14 : decode cX8_init 14 = .ok (.sipush 798, 3) := by decide +kernel
theorem dX8_init_17 : decode cX8_init 17 = .ok (.newarray .int, 2) := by decide +kernel
theorem dX8_init_19 : decode cX8_init 19 = .ok (.putfield 13, 3) := by decide +kernel
theorem dX8_init_22 : decode cX8_init 22 = .ok (.aload_n 0, 1) := by decide +kernel
theorem dX8_init_23 : decode cX8_init 23 = .ok (.iconst 2, 1) := by decide +kernel
theorem dX8_init_24 : decode cX8_init 24 = .ok (.newarray .boolean, 2) := by decide +kernel
theorem dX8_init_26 : decode cX8_init 26 = .ok (.putfield 16, 3) := by decide +kernel
theorem dX8_init_29 : decode cX8_init 29 = .ok (.aload_n 0, 1) := by decide +kernel
theorem dX8_init_30 : decode cX8_init 30 = .ok (.iconst 3, 1) := by decide +kernel
theorem dX8_init_31 : decode cX8_init 31 = .ok (.newarray .int, 2) := by decide +kernel
theorem dX8_init_33 : decode cX8_init 33 = .ok (.putfield 20, 3) := by decide +kernel
theorem dX8_init_36 : decode cX8_init 36 = .ok (.aload_n 0, 1) := by decide +kernel
theorem dX8_init_37 : decode cX8_init 37 = .ok (.lconst 1, 1) := by decide +kernel
theorem dX8_init_38 : decode cX8_init 38 = .ok (.putfield 23, 3) := by decide +kernel
theorem dX8_init_41 : decode cX8_init 41 = .ok (.aload_n 0, 1) := by decide +kernel
theorem dX8_init_42 : decode cX8_init 42 = .ok (.bipush 6, 2) := by decide +kernel
theorem dX8_init_44 : decode cX8_init 44 = .ok (.newarray .int, 2) := by decide +kernel
theorem dX8_init_46 : decode cX8_init 46 = .ok (.putfield 27, 3) := by decide +kernel
theorem dX8_init_49 : decode cX8_init 49 = .ok (.aload_n 0, 1) := by decide +kernel
theorem dX8_init_50 : decode cX8_init 50 = .ok (.bipush 6, 2) := by decide +kernel
theorem dX8_init_52 : decode cX8_init 52 = .ok (.newarray .int, 2) := by decide +kernel
theorem dX8_init_54 : decode cX8_init 54 = .ok (.putfield 30, 3) := by decide +kernel
theorem dX8_init_57 : decode cX8_init 57 = .ok (.aload_n 0, 1) := by decide +kernel
theorem dX8_init_58 : decode cX8_init 58 = .ok (.bipush 6, 2) := by decide +kernel
theorem dX8_init_60 : decode cX8_init 60 = .ok (.newarray .int, 2) := by decide +kernel
theorem dX8_init_62 : decode cX8_init 62 = .ok (.putfield 33, 3) := by decide +kernel
theorem dX8_init_65 : decode cX8_init 65 = .ok (.aload_n 0, 1) := by decide +kernel
theorem dX8_init_66 : decode cX8_init 66 = .ok (.bipush 6, 2) := by decide +kernel
theorem dX8_init_68 : decode cX8_init 68 = .ok (.newarray .int, 2) := by decide +kernel
theorem dX8_init_70 : decode cX8_init 70 = .ok (.putfield 36, 3) := by decide +kernel
theorem dX8_init_73 : decode cX8_init 73 = .ok (.aload_n 0, 1) := by decide +kernel
theorem dX8_init_74 : decode cX8_init 74 = .ok (.bipush 6, 2) := by decide +kernel
theorem dX8_init_76 : decode cX8_init 76 = .ok (.newarray .int, 2) := by decide +kernel
theorem dX8_init_78 : decode cX8_init 78 = .ok (.putfield 39, 3) := by decide +kernel
theorem dX8_init_81 : decode cX8_init 81 = .ok (.aload_n 0, 1) := by decide +kernel
theorem dX8_init_82 : decode cX8_init 82 = .ok (.bipush 48, 2) := by decide +kernel
theorem dX8_init_84 : decode cX8_init 84 = .ok (.newarray .int, 2) := by decide +kernel
theorem dX8_init_86 : decode cX8_init 86 = .ok (.putfield 42, 3) := by decide +kernel
theorem dX8_init_89 : decode cX8_init 89 = .ok (.aload_n 0, 1) := by decide +kernel
theorem dX8_init_90 : decode cX8_init 90 = .ok (.bipush 48, 2) := by decide +kernel
theorem dX8_init_92 : decode cX8_init 92 = .ok (.newarray .int, 2) := by decide +kernel
theorem dX8_init_94 : decode cX8_init 94 = .ok (.putfield 45, 3) := by decide +kernel
theorem dX8_init_97 : decode cX8_init 97 = .ok (.aload_n 0, 1) := by decide +kernel
theorem dX8_init_98 : decode cX8_init 98 = .ok (.iconst 4, 1) := by decide +kernel
theorem dX8_init_99 : decode cX8_init 99 = .ok (.newarray .int, 2) := by decide +kernel
theorem dX8_init_101 : decode cX8_init 101 = .ok (.putfield 48, 3) := by decide +kernel
theorem dX8_init_104 : decode cX8_init 104 = .ok (.aload_n 0, 1) := by decide +kernel
theorem dX8_init_105 : decode cX8_init 105 = .ok (.iconst 4, 1) := by decide +kernel
theorem dX8_init_106 : decode cX8_init 106 = .ok (.newarray .int, 2) := by decide +kernel
theorem dX8_init_108 : decode cX8_init 108 = .ok (.putfield 51, 3) := by decide +kernel
theorem dX8_init_111 : decode cX8_init 111 = .ok (.aload_n 0, 1) := by decide +kernel
theorem dX8_init_112 : decode cX8_init 112 = .ok (.bipush 104, 2) := by decide +kernel
theorem dX8_init_114 : decode cX8_init 114 = .ok (.newarray .long, 2) := by decide +kernel
theorem dX8_init_116 : decode cX8_init 116 = .ok (.putfield 54, 3) := by decide +kernel
theorem dX8_init_119 : decode cX8_init 119 = .ok (.aload_n 0, 1) := by decide +kernel
theorem dX8_init_120 : decode cX8_init 120 = .ok (.bipush 104, 2) := by decide +kernel
theorem dX8_init_122 : decode cX8_init 122 = .ok (.newarray .long, 2) := by decide +kernel
theorem dX8_init_124 : decode cX8_init 124 = .ok (.putfield 58, 3) := by decide +kernel
theorem dX8_init_127 : decode cX8_init 127 = .ok (.aload_n 0, 1) := by decide +kernel
theorem dX8_init_128 : decode cX8_init 128 = .ok (.sipush 150, 3) := by decide +kernel
theorem dX8_init_131 : decode cX8_init 131 = .ok (.newarray .int, 2) := by decide +kernel
theorem dX8_init_133 : decode cX8_init 133 = .ok (.putfield 61, 3) := by decide +kernel
theorem dX8_init_136 : decode cX8_init 136 = .ok (.aload_n 0, 1) := by decide +kernel
theorem dX8_init_137 : decode cX8_init 137 = .ok (.sipush 151, 3) := by decide +kernel
theorem dX8_init_140 : decode cX8_init 140 = .ok (.newarray .int, 2) := by decide +kernel
theorem dX8_init_142 : decode cX8_init 142 = .ok (.putfield 64, 3) := by decide +kernel
theorem dX8_init_145 : decode cX8_init 145 = .ok (.aload_n 0, 1) := by decide +kernel
theorem dX8_init_146 : decode cX8_init 146 = .ok (.iconst 3, 1) := by decide +kernel
theorem dX8_init_147 : decode cX8_init 147 = .ok (.newarray .int, 2) := by decide +kernel
theorem dX8_init_149 : decode cX8_init 149 = .ok (.putfield 67, 3) := by decide +kernel
theorem dX8_init_152 : decode cX8_init 152 = .ok (.aload_n 0, 1) := by decide +kernel
theorem dX8_init_153 : decode cX8_init 153 = .ok (.getfield 7, 3) := by decide +kernel
theorem dX8_init_156 : decode cX8_init 156 = .ok (.bipush 10, 2) := by decide +kernel
theorem dX8_init_158 : decode cX8_init 158 = .ok (.iconst 3, 1) := by decide +kernel
theorem dX8_init_159 : decode cX8_init 159 = .ok (.invokestatic 70, 3) := by decide +kernel
theorem dX8_init_162 : decode cX8_init 162 = .ok (.return_, 1) := by decide +kernel
theorem dX8_in_0 : decode cX8_in 0 = .ok (.lload_n 0, 1) := by decide +kernel
theorem dX8_in_1 : decode cX8_in 1 = .ok (.lload_n 2, 1) := by decide +kernel
theorem dX8_in_2 : decode cX8_in 2 = .ok (.lcmp, 1) := by decide +kernel
theorem dX8_in_3 : decode cX8_in 3 = .ok (.ifCond .lt 14, 3) := by decide +kernel
theorem dX8_in_6 : decode cX8_in 6 = .ok (.lload_n 0, 1) := by decide +kernel
theorem dX8_in_7 : decode cX8_in 7 = .ok (.lload 4, 2) := by decide +kernel
theorem dX8_in_9 : decode cX8_in 9 = .ok (.lcmp, 1) := by decide +kernel
theorem dX8_in_10 : decode cX8_in 10 = .ok (.ifCond .gt 7, 3) := by decide +kernel
theorem dX8_in_13 : decode cX8_in 13 = .ok (.iconst 1, 1) := by decide +kernel
theorem dX8_in_14 : decode cX8_in 14 = .ok (.goto 4, 3) := by decide +kernel
theorem dX8_in_17 : decode cX8_in 17 = .ok (.iconst 0, 1) := by decide +kernel
theorem dX8_in_18 : decode cX8_in 18 = .ok (.ireturn, 1) := by decide +kernel
theorem dX8_bad_0 : decode cX8_bad 0 = .ok (.aload_n 0, 1) := by decide +kernel
theorem dX8_bad_1 : decode cX8_bad 1 = .ok (.getfield 20, 3) := by decide +kernel
theorem dX8_bad_4 : decode cX8_bad 4 = .ok (.iconst 0, 1) := by decide +kernel
theorem dX8_bad_5 : decode cX8_bad 5 = .ok (.dup2, 1) := by decide +kernel
theorem dX8_bad_6 : decode cX8_bad 6 = .ok (.iaload, 1) := by decide +kernel
theorem dX8_bad_7 : decode cX8_bad 7 = .ok (.iconst 1, 1) := by decide +kernel
theorem dX8_bad_8 : decode cX8_bad 8 = .ok (.iadd, 1) := by decide +kernel
theorem dX8_bad_9 : decode cX8_bad 9 = .ok (.iastore, 1) := by decide +kernel
theorem dX8_bad_10 : decode cX8_bad 10 = .ok (.iload_n 1, 1) := by decide +kernel
theorem dX8_bad_11 : decode cX8_bad 11 = .ok (.ireturn, 1) := by decide +kernel
theorem dX8_no_0 : decode cX8_no 0 = .ok (.aload_n 0, 1) := by decide +kernel
theorem dX8_no_1 : decode cX8_no 1 = .ok (.getfield 20, 3) := by decide +kernel
theorem dX8_no_4 : decode cX8_no 4 = .ok (.iconst 1, 1) := by decide +kernel
theorem dX8_no_5 : decode cX8_no 5 = .ok (.dup2, 1) := by decide +kernel
theorem dX8_no_6 : decode cX8_no 6 = .ok (.iaload, 1) := by decide +kernel
theorem dX8_no_7 : decode cX8_no 7 = .ok (.iconst 1, 1) := by decide +kernel
theorem dX8_no_8 : decode cX8_no 8 = .ok (.iadd, 1) := by decide +kernel
theorem dX8_no_9 : decode cX8_no 9 = .ok (.iastore, 1) := by decide +kernel
theorem dX8_no_10 : decode cX8_no 10 = .ok (.bipush (-3), 2) := by decide +kernel
theorem dX8_no_12 : decode cX8_no 12 = .ok (.ireturn, 1) := by decide +kernel
theorem dX8_full_0 : decode cX8_full 0 = .ok (.aload_n 0, 1) := by decide +kernel
theorem dX8_full_1 : decode cX8_full 1 = .ok (.getfield 20, 3) := by decide +kernel
theorem dX8_full_4 : decode cX8_full 4 = .ok (.iconst 2, 1) := by decide +kernel
theorem dX8_full_5 : decode cX8_full 5 = .ok (.dup2, 1) := by decide +kernel
theorem dX8_full_6 : decode cX8_full 6 = .ok (.iaload, 1) := by decide +kernel
theorem dX8_full_7 : decode cX8_full 7 = .ok (.iconst 1, 1) := by decide +kernel
theorem dX8_full_8 : decode cX8_full 8 = .ok (.iadd, 1) := by decide +kernel
theorem dX8_full_9 : decode cX8_full 9 = .ok (.iastore, 1) := by decide +kernel
theorem dX8_full_10 : decode cX8_full 10 = .ok (.bipush (-4), 2) := by decide +kernel
theorem dX8_full_12 : decode cX8_full 12 = .ok (.ireturn, 1) := by decide +kernel
theorem dX8_begin_0 : decode cX8_begin 0 = .ok (.iconst 0, 1) := by decide +kernel
theorem dX8_begin_1 : decode cX8_begin 1 = .ok (.istore_n 3, 1) := by decide +kernel
theorem dX8_begin_2 : decode cX8_begin 2 = .ok (.iload_n 3, 1) := by decide +kernel
theorem dX8_begin_3 : decode cX8_begin 3 = .ok (.sipush 151, 3) := by decide +kernel
theorem dX8_begin_6 : decode cX8_begin 6 = .ok (.if_icmp .ge 13, 3) := by decide +kernel
theorem dX8_begin_9 : decode cX8_begin 9 = .ok (.aload_n 0, 1) := by decide +kernel
theorem dX8_begin_10 : decode cX8_begin 10 = .ok (.iload_n 3, 1) := by decide +kernel
theorem dX8_begin_11 : decode cX8_begin 11 = .ok (.iconst 0, 1) := by decide +kernel
theorem dX8_begin_12 : decode cX8_begin 12 = .ok (.iastore, 1) := by decide +kernel
theorem dX8_begin_13 : decode cX8_begin 13 = .ok (.iinc 3 1, 3) := by decide +kernel
theorem dX8_begin_16 : decode cX8_begin 16 = .ok (.goto (-14), 3) := by decide +kernel
theorem dX8_begin_19 : decode cX8_begin 19 = .ok (.aload_n 0, 1) := by decide +kernel
theorem dX8_begin_20 : decode cX8_begin 20 = .ok (.iconst 1, 1) := by decide +kernel
theorem dX8_begin_21 : decode cX8_begin 21 = .ok (.iload_n 1, 1) := by decide +kernel
theorem dX8_begin_22 : decode cX8_begin 22 = .ok (.iastore, 1) := by decide +kernel
theorem dX8_begin_23 : decode cX8_begin 23 = .ok (.aload_n 0, 1) := by decide +kernel
theorem dX8_begin_24 : decode cX8_begin 24 = .ok (.iconst 2, 1) := by decide +kernel
theorem dX8_begin_25 : decode cX8_begin 25 = .ok (.iload_n 2, 1) := by decide +kernel
theorem dX8_begin_26 : decode cX8_begin 26 = .ok (.iastore, 1) := by decide +kernel
theorem dX8_begin_27 : decode cX8_begin 27 = .ok (.aload_n 0, 1) := by decide +kernel
theorem dX8_begin_28 : decode cX8_begin 28 = .ok (.iconst 4, 1) := by decide +kernel
theorem dX8_begin_29 : decode cX8_begin 29 = .ok (.iconst 1, 1) := by decide +kernel
theorem dX8_begin_30 : decode cX8_begin 30 = .ok (.iastore, 1) := by decide +kernel
theorem dX8_begin_31 : decode cX8_begin 31 = .ok (.iconst 0, 1) := by decide +kernel
theorem dX8_begin_32 : decode cX8_begin 32 = .ok (.istore_n 3, 1) := by decide +kernel
theorem dX8_begin_33 : decode cX8_begin 33 = .ok (.iload_n 3, 1) := by decide +kernel
theorem dX8_begin_34 : decode cX8_begin 34 = .ok (.bipush 8, 2) := by decide +kernel
theorem dX8_begin_36 : decode cX8_begin 36 = .ok (.if_icmp .ge 16, 3) := by decide +kernel
theorem dX8_begin_39 : decode cX8_begin 39 = .ok (.aload_n 0, 1) := by decide +kernel
theorem dX8_begin_40 : decode cX8_begin 40 = .ok (.bipush 7, 2) := by decide +kernel
theorem dX8_begin_42 : decode cX8_begin 42 = .ok (.iload_n 3, 1) := by decide +kernel
theorem dX8_begin_43 : decode cX8_begin 43 = .ok (.iadd, 1) := by decide +kernel
theorem dX8_begin_44 : decode cX8_begin 44 = .ok (.iconst 5, 1) := by decide +kernel
theorem dX8_begin_45 : decode cX8_begin 45 = .ok (.iastore, 1) := by decide +kernel
theorem dX8_begin_46 : decode cX8_begin 46 = .ok (.iinc 3 1, 3) := by decide +kernel
theorem dX8_begin_49 : decode cX8_begin 49 = .ok (.goto (-16), 3) := by decide +kernel
theorem dX8_begin_52 : decode cX8_begin 52 = .ok (.return_, 1) := by decide +kernel
theorem dX8_heirs_0 : decode cX8_heirs 0 = .ok (.aload_n 0, 1) := by decide +kernel
theorem dX8_heirs_1 : decode cX8_heirs 1 = .ok (.getfield 7, 3) := by decide +kernel
theorem dX8_heirs_4 : decode cX8_heirs 4 = .ok (.iconst 0, 1) := by decide +kernel
theorem dX8_heirs_5 : decode cX8_heirs 5 = .ok (.iaload, 1) := by decide +kernel
theorem dX8_heirs_6 : decode cX8_heirs 6 = .ok (.ireturn, 1) := by decide +kernel
theorem dX8_isHeir_0 : decode cX8_isHeir 0 = .ok (.iload_n 1, 1) := by decide +kernel
theorem dX8_isHeir_1 : decode cX8_isHeir 1 = .ok (.i2l, 1) := by decide +kernel
theorem dX8_isHeir_2 : decode cX8_isHeir 2 = .ok (.lconst 0, 1) := by decide +kernel
theorem dX8_isHeir_3 : decode cX8_isHeir 3 = .ok (.aload_n 0, 1) := by decide +kernel
theorem dX8_isHeir_4 : decode cX8_isHeir 4 = .ok (.invokevirtual 74, 3) := by decide +kernel
theorem dX8_isHeir_7 : decode cX8_isHeir 7 = .ok (.iconst 1, 1) := by decide +kernel
theorem dX8_isHeir_8 : decode cX8_isHeir 8 = .ok (.isub, 1) := by decide +kernel
theorem dX8_isHeir_9 : decode cX8_isHeir 9 = .ok (.i2l, 1) := by decide +kernel
theorem dX8_isHeir_10 : decode cX8_isHeir 10 = .ok (.invokestatic 78, 3) := by decide +kernel
theorem dX8_isHeir_13 : decode cX8_isHeir 13 = .ok (.ireturn, 1) := by decide +kernel
theorem dX8_isRoom_0 : decode cX8_isRoom 0 = .ok (.iload_n 0, 1) := by decide +kernel
theorem dX8_isRoom_1 : decode cX8_isRoom 1 = .ok (.i2l, 1) := by decide +kernel
theorem dX8_isRoom_2 : decode cX8_isRoom 2 = .ok (.lconst 0, 1) := by decide +kernel
theorem dX8_isRoom_3 : decode cX8_isRoom 3 = .ok (.ldc2_w 82, 3) := by decide +kernel
theorem dX8_isRoom_6 : decode cX8_isRoom 6 = .ok (.invokestatic 78, 3) := by decide +kernel
theorem dX8_isRoom_9 : decode cX8_isRoom 9 = .ok (.ireturn, 1) := by decide +kernel
theorem dX8_get_0 : decode cX8_get 0 = .ok (.aload_n 0, 1) := by decide +kernel
theorem dX8_get_1 : decode cX8_get 1 = .ok (.getfield 7, 3) := by decide +kernel
theorem dX8_get_4 : decode cX8_get 4 = .ok (.bipush 91, 2) := by decide +kernel
theorem dX8_get_6 : decode cX8_get 6 = .ok (.bipush 7, 2) := by decide +kernel
theorem dX8_get_8 : decode cX8_get 8 = .ok (.iload_n 1, 1) := by decide +kernel
theorem dX8_get_9 : decode cX8_get 9 = .ok (.imul, 1) := by decide +kernel
theorem dX8_get_10 : decode cX8_get 10 = .ok (.iadd, 1) := by decide +kernel
theorem dX8_get_11 : decode cX8_get 11 = .ok (.iload_n 2, 1) := by decide +kernel
theorem dX8_get_12 : decode cX8_get 12 = .ok (.iadd, 1) := by decide +kernel
theorem dX8_get_13 : decode cX8_get 13 = .ok (.iaload, 1) := by decide +kernel
theorem dX8_get_14 : decode cX8_get 14 = .ok (.ireturn, 1) := by decide +kernel
theorem dX8_set_0 : decode cX8_set 0 = .ok (.aload_n 0, 1) := by decide +kernel
theorem dX8_set_1 : decode cX8_set 1 = .ok (.getfield 7, 3) := by decide +kernel
theorem dX8_set_4 : decode cX8_set 4 = .ok (.bipush 91, 2) := by decide +kernel
theorem dX8_set_6 : decode cX8_set 6 = .ok (.bipush 7, 2) := by decide +kernel
theorem dX8_set_8 : decode cX8_set 8 = .ok (.iload_n 1, 1) := by decide +kernel
theorem dX8_set_9 : decode cX8_set 9 = .ok (.imul, 1) := by decide +kernel
theorem dX8_set_10 : decode cX8_set 10 = .ok (.iadd, 1) := by decide +kernel
theorem dX8_set_11 : decode cX8_set 11 = .ok (.iload_n 2, 1) := by decide +kernel
theorem dX8_set_12 : decode cX8_set 12 = .ok (.iadd, 1) := by decide +kernel
theorem dX8_set_13 : decode cX8_set 13 = .ok (.iload_n 3, 1) := by decide +kernel
theorem dX8_set_14 : decode cX8_set 14 = .ok (.iastore, 1) := by decide +kernel
theorem dX8_set_15 : decode cX8_set 15 = .ok (.return_, 1) := by decide +kernel
theorem dX8_creaks_0 : decode cX8_creaks 0 = .ok (.aload_n 0, 1) := by decide +kernel
theorem dX8_creaks_1 : decode cX8_creaks 1 = .ok (.getfield 7, 3) := by decide +kernel
theorem dX8_creaks_4 : decode cX8_creaks 4 = .ok (.bipush 15, 2) := by decide +kernel
theorem dX8_creaks_6 : decode cX8_creaks 6 = .ok (.bipush 8, 2) := by decide +kernel
theorem dX8_creaks_8 : decode cX8_creaks 8 = .ok (.iload_n 1, 1) := by decide +kernel
theorem dX8_creaks_9 : decode cX8_creaks 9 = .ok (.imul, 1) := by decide +kernel
theorem dX8_creaks_10 : decode cX8_creaks 10 = .ok (.iadd, 1) := by decide +kernel
theorem dX8_creaks_11 : decode cX8_creaks 11 = .ok (.iload_n 2, 1) := by decide +kernel
theorem dX8_creaks_12 : decode cX8_creaks 12 = .ok (.iadd, 1) := by decide +kernel
theorem dX8_creaks_13 : decode cX8_creaks 13 = .ok (.iaload, 1) := by decide +kernel
theorem dX8_creaks_14 : decode cX8_creaks 14 = .ok (.ireturn, 1) := by decide +kernel
theorem dX8_house_0 : decode cX8_house 0 = .ok (.iload_n 1, 1) := by decide +kernel
theorem dX8_house_1 : decode cX8_house 1 = .ok (.i2l, 1) := by decide +kernel
theorem dX8_house_2 : decode cX8_house 2 = .ok (.lconst 0, 1) := by decide +kernel
theorem dX8_house_3 : decode cX8_house 3 = .ok (.ldc2_w 84, 3) := by decide +kernel
theorem dX8_house_6 : decode cX8_house 6 = .ok (.invokestatic 78, 3) := by decide +kernel
theorem dX8_house_9 : decode cX8_house 9 = .ok (.ifCond .eq 15, 3) := by decide +kernel
theorem dX8_house_12 : decode cX8_house 12 = .ok (.iload_n 2, 1) := by decide +kernel
theorem dX8_house_13 : decode cX8_house 13 = .ok (.i2l, 1) := by decide +kernel
theorem dX8_house_14 : decode cX8_house 14 = .ok (.lconst 0, 1) := by decide +kernel
theorem dX8_house_15 : decode cX8_house 15 = .ok (.ldc2_w 84, 3) := by decide +kernel
theorem dX8_house_18 : decode cX8_house 18 = .ok (.invokestatic 78, 3) := by decide +kernel
theorem dX8_house_21 : decode cX8_house 21 = .ok (.ifCond .ne 10, 3) := by decide +kernel
theorem dX8_house_24 : decode cX8_house 24 = .ok (.aload_n 0, 1) := by decide +kernel
theorem dX8_house_25 : decode cX8_house 25 = .ok (.bipush (-2), 2) := by decide +kernel
theorem dX8_house_27 : decode cX8_house 27 = .ok (.invokevirtual 86, 3) := by decide +kernel
theorem dX8_house_30 : decode cX8_house 30 = .ok (.ireturn, 1) := by decide +kernel
theorem dX8_house_31 : decode cX8_house 31 = .ok (.aload_n 0, 1) := by decide +kernel
theorem dX8_house_32 : decode cX8_house 32 = .ok (.invokevirtual 74, 3) := by decide +kernel
theorem dX8_house_35 : decode cX8_house 35 = .ok (.istore_n 3, 1) := by decide +kernel
theorem dX8_house_36 : decode cX8_house 36 = .ok (.aload_n 0, 1) := by decide +kernel
theorem dX8_house_37 : decode cX8_house 37 = .ok (.getfield 7, 3) := by decide +kernel
theorem dX8_house_40 : decode cX8_house 40 = .ok (.iload_n 1, 1) := by decide +kernel
theorem dX8_house_41 : decode cX8_house 41 = .ok (.iload_n 2, 1) := by decide +kernel
theorem dX8_house_42 : decode cX8_house 42 = .ok (.invokestatic 70, 3) := by decide +kernel
theorem dX8_house_45 : decode cX8_house 45 = .ok (.iload_n 3, 1) := by decide +kernel
theorem dX8_house_46 : decode cX8_house 46 = .ok (.ireturn, 1) := by decide +kernel
theorem dX8_room_0 : decode cX8_room 0 = .ok (.iload_n 1, 1) := by decide +kernel
theorem dX8_room_1 : decode cX8_room 1 = .ok (.invokestatic 90, 3) := by decide +kernel
theorem dX8_room_4 : decode cX8_room 4 = .ok (.ifCond .eq 15, 3) := by decide +kernel
theorem dX8_room_7 : decode cX8_room 7 = .ok (.iload_n 2, 1) := by decide +kernel
theorem dX8_room_8 : decode cX8_room 8 = .ok (.i2l, 1) := by decide +kernel
theorem dX8_room_9 : decode cX8_room 9 = .ok (.lconst 0, 1) := by decide +kernel
theorem dX8_room_10 : decode cX8_room 10 = .ok (.ldc2_w 94, 3) := by decide +kernel
theorem dX8_room_13 : decode cX8_room 13 = .ok (.invokestatic 78, 3) := by decide +kernel
theorem dX8_room_16 : decode cX8_room 16 = .ok (.ifCond .ne 10, 3) := by decide +kernel
theorem dX8_room_19 : decode cX8_room 19 = .ok (.aload_n 0, 1) := by decide +kernel
theorem dX8_room_20 : decode cX8_room 20 = .ok (.bipush (-2), 2) := by decide +kernel
theorem dX8_room_22 : decode cX8_room 22 = .ok (.invokevirtual 86, 3) := by decide +kernel
theorem dX8_room_25 : decode cX8_room 25 = .ok (.ireturn, 1) := by decide +kernel
theorem dX8_room_26 : decode cX8_room 26 = .ok (.aload_n 0, 1) := by decide +kernel
theorem dX8_room_27 : decode cX8_room 27 = .ok (.getfield 7, 3) := by decide +kernel
theorem dX8_room_30 : decode cX8_room 30 = .ok (.bipush 7, 2) := by decide +kernel
theorem dX8_room_32 : decode cX8_room 32 = .ok (.iload_n 1, 1) := by decide +kernel
theorem dX8_room_33 : decode cX8_room 33 = .ok (.iadd, 1) := by decide +kernel
theorem dX8_room_34 : decode cX8_room 34 = .ok (.iaload, 1) := by decide +kernel
theorem dX8_room_35 : decode cX8_room 35 = .ok (.istore_n 3, 1) := by decide +kernel
theorem dX8_room_36 : decode cX8_room 36 = .ok (.aload_n 0, 1) := by decide +kernel
theorem dX8_room_37 : decode cX8_room 37 = .ok (.getfield 7, 3) := by decide +kernel
theorem dX8_room_40 : decode cX8_room 40 = .ok (.bipush 7, 2) := by decide +kernel
theorem dX8_room_42 : decode cX8_room 42 = .ok (.iload_n 1, 1) := by decide +kernel
theorem dX8_room_43 : decode cX8_room 43 = .ok (.iadd, 1) := by decide +kernel
theorem dX8_room_44 : decode cX8_room 44 = .ok (.iload_n 2, 1) := by decide +kernel
theorem dX8_room_45 : decode cX8_room 45 = .ok (.iastore, 1) := by decide +kernel
theorem dX8_room_46 : decode cX8_room 46 = .ok (.iload_n 3, 1) := by decide +kernel
theorem dX8_room_47 : decode cX8_room 47 = .ok (.ireturn, 1) := by decide +kernel
theorem dX8_layDoor_0 : decode cX8_layDoor 0 = .ok (.aload_n 0, 1) := by decide +kernel
theorem dX8_layDoor_1 : decode cX8_layDoor 1 = .ok (.bipush 15, 2) := by decide +kernel
theorem dX8_layDoor_3 : decode cX8_layDoor 3 = .ok (.bipush 8, 2) := by decide +kernel
theorem dX8_layDoor_5 : decode cX8_layDoor 5 = .ok (.iload_n 1, 1) := by decide +kernel
theorem dX8_layDoor_6 : decode cX8_layDoor 6 = .ok (.imul, 1) := by decide +kernel
theorem dX8_layDoor_7 : decode cX8_layDoor 7 = .ok (.iadd, 1) := by decide +kernel
theorem dX8_layDoor_8 : decode cX8_layDoor 8 = .ok (.iload_n 2, 1) := by decide +kernel
theorem dX8_layDoor_9 : decode cX8_layDoor 9 = .ok (.iadd, 1) := by decide +kernel
theorem dX8_layDoor_10 : decode cX8_layDoor 10 = .ok (.iload_n 3, 1) := by decide +kernel
theorem dX8_layDoor_11 : decode cX8_layDoor 11 = .ok (.iastore, 1) := by decide +kernel
theorem dX8_layDoor_12 : decode cX8_layDoor 12 = .ok (.aload_n 0, 1) := by decide +kernel
theorem dX8_layDoor_13 : decode cX8_layDoor 13 = .ok (.bipush 15, 2) := by decide +kernel
theorem dX8_layDoor_15 : decode cX8_layDoor 15 = .ok (.bipush 8, 2) := by decide +kernel
theorem dX8_layDoor_17 : decode cX8_layDoor 17 = .ok (.iload_n 2, 1) := by decide +kernel
theorem dX8_layDoor_18 : decode cX8_layDoor 18 = .ok (.imul, 1) := by decide +kernel
theorem dX8_layDoor_19 : decode cX8_layDoor 19 = .ok (.iadd, 1) := by decide +kernel
theorem dX8_layDoor_20 : decode cX8_layDoor 20 = .ok (.iload_n 1, 1) := by decide +kernel
theorem dX8_layDoor_21 : decode cX8_layDoor 21 = .ok (.iadd, 1) := by decide +kernel
theorem dX8_layDoor_22 : decode cX8_layDoor 22 = .ok (.iload_n 3, 1) := by decide +kernel
theorem dX8_layDoor_23 : decode cX8_layDoor 23 = .ok (.iastore, 1) := by decide +kernel
theorem dX8_layDoor_24 : decode cX8_layDoor 24 = .ok (.return_, 1) := by decide +kernel
theorem dX8_door_0 : decode cX8_door 0 = .ok (.iload_n 1, 1) := by decide +kernel
theorem dX8_door_1 : decode cX8_door 1 = .ok (.invokestatic 90, 3) := by decide +kernel
theorem dX8_door_4 : decode cX8_door 4 = .ok (.ifCond .eq 27, 3) := by decide +kernel
theorem dX8_door_7 : decode cX8_door 7 = .ok (.iload_n 2, 1) := by decide +kernel
theorem dX8_door_8 : decode cX8_door 8 = .ok (.invokestatic 90, 3) := by decide +kernel
theorem dX8_door_11 : decode cX8_door 11 = .ok (.ifCond .eq 20, 3) := by decide +kernel
theorem dX8_door_14 : decode cX8_door 14 = .ok (.iload_n 1, 1) := by decide +kernel
theorem dX8_door_15 : decode cX8_door 15 = .ok (.iload_n 2, 1) := by decide +kernel
theorem dX8_door_16 : decode cX8_door 16 = .ok (.if_icmp .eq 15, 3) := by decide +kernel
theorem dX8_door_19 : decode cX8_door 19 = .ok (.iload_n 3, 1) := by decide +kernel
theorem dX8_door_20 : decode cX8_door 20 = .ok (.i2l, 1) := by decide +kernel
theorem dX8_door_21 : decode cX8_door 21 = .ok (.lconst 1, 1) := by decide +kernel
theorem dX8_door_22 : decode cX8_door 22 = .ok (.ldc2_w 94, 3) := by decide +kernel
theorem dX8_door_25 : decode cX8_door 25 = .ok (.invokestatic 78, 3) := by decide +kernel
theorem dX8_door_28 : decode cX8_door 28 = .ok (.ifCond .ne 10, 3) := by decide +kernel
theorem dX8_door_31 : decode cX8_door 31 = .ok (.aload_n 0, 1) := by decide +kernel
theorem dX8_door_32 : decode cX8_door 32 = .ok (.bipush (-2), 2) := by decide +kernel
theorem dX8_door_34 : decode cX8_door 34 = .ok (.invokevirtual 86, 3) := by decide +kernel
theorem dX8_door_37 : decode cX8_door 37 = .ok (.ireturn, 1) := by decide +kernel
theorem dX8_door_38 : decode cX8_door 38 = .ok (.aload_n 0, 1) := by decide +kernel
theorem dX8_door_39 : decode cX8_door 39 = .ok (.iload_n 1, 1) := by decide +kernel
theorem dX8_door_40 : decode cX8_door 40 = .ok (.iload_n 2, 1) := by decide +kernel
theorem dX8_door_41 : decode cX8_door 41 = .ok (.invokevirtual 96, 3) := by decide +kernel
theorem dX8_door_44 : decode cX8_door 44 = .ok (.istore 4, 2) := by decide +kernel
theorem dX8_door_46 : decode cX8_door 46 = .ok (.aload_n 0, 1) := by decide +kernel
theorem dX8_door_47 : decode cX8_door 47 = .ok (.getfield 7, 3) := by decide +kernel
theorem dX8_door_50 : decode cX8_door 50 = .ok (.iload_n 1, 1) := by decide +kernel
theorem dX8_door_51 : decode cX8_door 51 = .ok (.iload_n 2, 1) := by decide +kernel
theorem dX8_door_52 : decode cX8_door 52 = .ok (.iload_n 3, 1) := by decide +kernel
theorem dX8_door_53 : decode cX8_door 53 = .ok (.invokestatic 100, 3) := by decide +kernel
theorem dX8_door_56 : decode cX8_door 56 = .ok (.iload 4, 2) := by decide +kernel
theorem dX8_door_58 : decode cX8_door 58 = .ok (.ireturn, 1) := by decide +kernel
theorem dX8_list_0 : decode cX8_list 0 = .ok (.iload_n 1, 1) := by decide +kernel
theorem dX8_list_1 : decode cX8_list 1 = .ok (.invokestatic 90, 3) := by decide +kernel
theorem dX8_list_4 : decode cX8_list 4 = .ok (.ifCond .ne 10, 3) := by decide +kernel
theorem dX8_list_7 : decode cX8_list 7 = .ok (.aload_n 0, 1) := by decide +kernel
theorem dX8_list_8 : decode cX8_list 8 = .ok (.bipush (-2), 2) := by decide +kernel
theorem dX8_list_10 : decode cX8_list 10 = .ok (.invokevirtual 86, 3) := by decide +kernel
theorem dX8_list_13 : decode cX8_list 13 = .ok (.ireturn, 1) := by decide +kernel
theorem dX8_list_14 : decode cX8_list 14 = .ok (.aload_n 0, 1) := by decide +kernel
theorem dX8_list_15 : decode cX8_list 15 = .ok (.getfield 7, 3) := by decide +kernel
theorem dX8_list_18 : decode cX8_list 18 = .ok (.iconst 4, 1) := by decide +kernel
theorem dX8_list_19 : decode cX8_list 19 = .ok (.iaload, 1) := by decide +kernel
theorem dX8_list_20 : decode cX8_list 20 = .ok (.bipush 12, 2) := by decide +kernel
theorem dX8_list_22 : decode cX8_list 22 = .ok (.if_icmp .ne 8, 3) := by decide +kernel
theorem dX8_list_25 : decode cX8_list 25 = .ok (.aload_n 0, 1) := by decide +kernel
theorem dX8_list_26 : decode cX8_list 26 = .ok (.invokevirtual 104, 3) := by decide +kernel
theorem dX8_list_29 : decode cX8_list 29 = .ok (.ireturn, 1) := by decide +kernel
theorem dX8_list_30 : decode cX8_list 30 = .ok (.aload_n 0, 1) := by decide +kernel
theorem dX8_list_31 : decode cX8_list 31 = .ok (.getfield 7, 3) := by decide +kernel
theorem dX8_list_34 : decode cX8_list 34 = .ok (.bipush 79, 2) := by decide +kernel
theorem dX8_list_36 : decode cX8_list 36 = .ok (.aload_n 0, 1) := by decide +kernel
theorem dX8_list_37 : decode cX8_list 37 = .ok (.getfield 7, 3) := by decide +kernel
theorem dX8_list_40 : decode cX8_list 40 = .ok (.iconst 4, 1) := by decide +kernel
theorem dX8_list_41 : decode cX8_list 41 = .ok (.iaload, 1) := by decide +kernel
theorem dX8_list_42 : decode cX8_list 42 = .ok (.iadd, 1) := by decide +kernel
theorem dX8_list_43 : decode cX8_list 43 = .ok (.iload_n 1, 1) := by decide +kernel
theorem dX8_list_44 : decode cX8_list 44 = .ok (.iastore, 1) := by decide +kernel
theorem dX8_list_45 : decode cX8_list 45 = .ok (.aload_n 0, 1) := by decide +kernel
theorem dX8_list_46 : decode cX8_list 46 = .ok (.getfield 7, 3) := by decide +kernel
theorem dX8_list_49 : decode cX8_list 49 = .ok (.iconst 4, 1) := by decide +kernel
theorem dX8_list_50 : decode cX8_list 50 = .ok (.dup2, 1) := by decide +kernel
theorem dX8_list_51 : decode cX8_list 51 = .ok (.iaload, 1) := by decide +kernel
theorem dX8_list_52 : decode cX8_list 52 = .ok (.iconst 1, 1) := by decide +kernel
theorem dX8_list_53 : decode cX8_list 53 = .ok (.iadd, 1) := by decide +kernel
theorem dX8_list_54 : decode cX8_list 54 = .ok (.iastore, 1) := by decide +kernel
theorem dX8_list_55 : decode cX8_list 55 = .ok (.aload_n 0, 1) := by decide +kernel
theorem dX8_list_56 : decode cX8_list 56 = .ok (.getfield 7, 3) := by decide +kernel
theorem dX8_list_59 : decode cX8_list 59 = .ok (.iconst 4, 1) := by decide +kernel
theorem dX8_list_60 : decode cX8_list 60 = .ok (.iaload, 1) := by decide +kernel
theorem dX8_list_61 : decode cX8_list 61 = .ok (.ireturn, 1) := by decide +kernel
theorem dX8_only_0 : decode cX8_only 0 = .ok (.iload_n 1, 1) := by decide +kernel
theorem dX8_only_1 : decode cX8_only 1 = .ok (.invokestatic 90, 3) := by decide +kernel
theorem dX8_only_4 : decode cX8_only 4 = .ok (.ifCond .ne 10, 3) := by decide +kernel
theorem dX8_only_7 : decode cX8_only 7 = .ok (.aload_n 0, 1) := by decide +kernel
theorem dX8_only_8 : decode cX8_only 8 = .ok (.bipush (-2), 2) := by decide +kernel
theorem dX8_only_10 : decode cX8_only 10 = .ok (.invokevirtual 86, 3) := by decide +kernel
theorem dX8_only_13 : decode cX8_only 13 = .ok (.ireturn, 1) := by decide +kernel
theorem dX8_only_14 : decode cX8_only 14 = .ok (.aload_n 0, 1) := by decide +kernel
theorem dX8_only_15 : decode cX8_only 15 = .ok (.getfield 7, 3) := by decide +kernel
theorem dX8_only_18 : decode cX8_only 18 = .ok (.iconst 4, 1) := by decide +kernel
theorem dX8_only_19 : decode cX8_only 19 = .ok (.iaload, 1) := by decide +kernel
theorem dX8_only_20 : decode cX8_only 20 = .ok (.istore_n 2, 1) := by decide +kernel
theorem dX8_only_21 : decode cX8_only 21 = .ok (.aload_n 0, 1) := by decide +kernel
theorem dX8_only_22 : decode cX8_only 22 = .ok (.getfield 7, 3) := by decide +kernel
theorem dX8_only_25 : decode cX8_only 25 = .ok (.bipush 79, 2) := by decide +kernel
theorem dX8_only_27 : decode cX8_only 27 = .ok (.iload_n 1, 1) := by decide +kernel
theorem dX8_only_28 : decode cX8_only 28 = .ok (.iastore, 1) := by decide +kernel
theorem dX8_only_29 : decode cX8_only 29 = .ok (.aload_n 0, 1) := by decide +kernel
theorem dX8_only_30 : decode cX8_only 30 = .ok (.getfield 7, 3) := by decide +kernel
theorem dX8_only_33 : decode cX8_only 33 = .ok (.iconst 4, 1) := by decide +kernel
theorem dX8_only_34 : decode cX8_only 34 = .ok (.iconst 1, 1) := by decide +kernel
theorem dX8_only_35 : decode cX8_only 35 = .ok (.iastore, 1) := by decide +kernel
theorem dX8_only_36 : decode cX8_only 36 = .ok (.iload_n 2, 1) := by decide +kernel
theorem dX8_only_37 : decode cX8_only 37 = .ok (.ireturn, 1) := by decide +kernel
theorem dX8_eyes_0 : decode cX8_eyes 0 = .ok (.iload_n 1, 1) := by decide +kernel
theorem dX8_eyes_1 : decode cX8_eyes 1 = .ok (.i2l, 1) := by decide +kernel
theorem dX8_eyes_2 : decode cX8_eyes 2 = .ok (.lconst 0, 1) := by decide +kernel
theorem dX8_eyes_3 : decode cX8_eyes 3 = .ok (.ldc2_w 84, 3) := by decide +kernel
theorem dX8_eyes_6 : decode cX8_eyes 6 = .ok (.invokestatic 78, 3) := by decide +kernel
theorem dX8_eyes_9 : decode cX8_eyes 9 = .ok (.ifCond .ne 10, 3) := by decide +kernel
theorem dX8_eyes_12 : decode cX8_eyes 12 = .ok (.aload_n 0, 1) := by decide +kernel
theorem dX8_eyes_13 : decode cX8_eyes 13 = .ok (.bipush (-2), 2) := by decide +kernel
theorem dX8_eyes_15 : decode cX8_eyes 15 = .ok (.invokevirtual 86, 3) := by decide +kernel
theorem dX8_eyes_18 : decode cX8_eyes 18 = .ok (.ireturn, 1) := by decide +kernel
theorem dX8_eyes_19 : decode cX8_eyes 19 = .ok (.aload_n 0, 1) := by decide +kernel
theorem dX8_eyes_20 : decode cX8_eyes 20 = .ok (.getfield 7, 3) := by decide +kernel
theorem dX8_eyes_23 : decode cX8_eyes 23 = .ok (.iconst 1, 1) := by decide +kernel
theorem dX8_eyes_24 : decode cX8_eyes 24 = .ok (.iaload, 1) := by decide +kernel
theorem dX8_eyes_25 : decode cX8_eyes 25 = .ok (.istore_n 2, 1) := by decide +kernel
theorem dX8_eyes_26 : decode cX8_eyes 26 = .ok (.aload_n 0, 1) := by decide +kernel
theorem dX8_eyes_27 : decode cX8_eyes 27 = .ok (.getfield 7, 3) := by decide +kernel
theorem dX8_eyes_30 : decode cX8_eyes 30 = .ok (.iconst 1, 1) := by decide +kernel
theorem dX8_eyes_31 : decode cX8_eyes 31 = .ok (.iload_n 1, 1) := by decide +kernel
theorem dX8_eyes_32 : decode cX8_eyes 32 = .ok (.iastore, 1) := by decide +kernel
theorem dX8_eyes_33 : decode cX8_eyes 33 = .ok (.iload_n 2, 1) := by decide +kernel
theorem dX8_eyes_34 : decode cX8_eyes 34 = .ok (.ireturn, 1) := by decide +kernel
theorem dX8_layHeir_0 : decode cX8_layHeir 0 = .ok (.bipush 91, 2) := by decide +kernel
theorem dX8_layHeir_2 : decode cX8_layHeir 2 = .ok (.bipush 7, 2) := by decide +kernel
theorem dX8_layHeir_4 : decode cX8_layHeir 4 = .ok (.aload_n 0, 1) := by decide +kernel
theorem dX8_layHeir_5 : decode cX8_layHeir 5 = .ok (.iconst 0, 1) := by decide +kernel
theorem dX8_layHeir_6 : decode cX8_layHeir 6 = .ok (.iaload, 1) := by decide +kernel
theorem dX8_layHeir_7 : decode cX8_layHeir 7 = .ok (.imul, 1) := by decide +kernel
theorem dX8_layHeir_8 : decode cX8_layHeir 8 = .ok (.iadd, 1) := by decide +kernel
theorem dX8_layHeir_9 : decode cX8_layHeir 9 = .ok (.istore 4, 2) := by decide +kernel
theorem dX8_layHeir_11 : decode cX8_layHeir 11 = .ok (.iconst 0, 1) := by decide +kernel
theorem dX8_layHeir_12 : decode cX8_layHeir 12 = .ok (.istore 5, 2) := by decide +kernel
theorem dX8_layHeir_14 : decode cX8_layHeir 14 = .ok (.iload 5, 2) := by decide +kernel
theorem dX8_layHeir_16 : decode cX8_layHeir 16 = .ok (.bipush 7, 2) := by decide +kernel
theorem dX8_layHeir_18 : decode cX8_layHeir 18 = .ok (.if_icmp .ge 17, 3) := by decide +kernel
theorem dX8_layHeir_21 : decode cX8_layHeir 21 = .ok (.aload_n 0, 1) := by decide +kernel
theorem dX8_layHeir_22 : decode cX8_layHeir 22 = .ok (.iload 4, 2) := by decide +kernel
theorem dX8_layHeir_24 : decode cX8_layHeir 24 = .ok (.iload 5, 2) := by decide +kernel
theorem dX8_layHeir_26 : decode cX8_layHeir 26 = .ok (.iadd, 1) := by decide +kernel
theorem dX8_layHeir_27 : decode cX8_layHeir 27 = .ok (.iconst 0, 1) := by decide +kernel
theorem dX8_layHeir_28 : decode cX8_layHeir 28 = .ok (.iastore, 1) := by decide +kernel
theorem dX8_layHeir_29 : decode cX8_layHeir 29 = .ok (.iinc 5 1, 3) := by decide +kernel
theorem dX8_layHeir_32 : decode cX8_layHeir 32 = .ok (.goto (-18), 3) := by decide +kernel
theorem dX8_layHeir_35 : decode cX8_layHeir 35 = .ok (.aload_n 0, 1) := by decide +kernel
theorem dX8_layHeir_36 : decode cX8_layHeir 36 = .ok (.iload 4, 2) := by decide +kernel
theorem dX8_layHeir_38 : decode cX8_layHeir 38 = .ok (.iconst 0, 1) := by decide +kernel
theorem dX8_layHeir_39 : decode cX8_layHeir 39 = .ok (.iadd, 1) := by decide +kernel
theorem dX8_layHeir_40 : decode cX8_layHeir 40 = .ok (.iload_n 1, 1) := by decide +kernel
theorem dX8_layHeir_41 : decode cX8_layHeir 41 = .ok (.iastore, 1) := by decide +kernel
theorem dX8_layHeir_42 : decode cX8_layHeir 42 = .ok (.aload_n 0, 1) := by decide +kernel
theorem dX8_layHeir_43 : decode cX8_layHeir 43 = .ok (.iload 4, 2) := by decide +kernel
theorem dX8_layHeir_45 : decode cX8_layHeir 45 = .ok (.iconst 1, 1) := by decide +kernel
theorem dX8_layHeir_46 : decode cX8_layHeir 46 = .ok (.iadd, 1) := by decide +kernel
theorem dX8_layHeir_47 : decode cX8_layHeir 47 = .ok (.iload_n 2, 1) := by decide +kernel
theorem dX8_layHeir_48 : decode cX8_layHeir 48 = .ok (.iastore, 1) := by decide +kernel
theorem dX8_layHeir_49 : decode cX8_layHeir 49 = .ok (.aload_n 0, 1) := by decide +kernel
theorem dX8_layHeir_50 : decode cX8_layHeir 50 = .ok (.iload 4, 2) := by decide +kernel
theorem dX8_layHeir_52 : decode cX8_layHeir 52 = .ok (.iconst 2, 1) := by decide +kernel
theorem dX8_layHeir_53 : decode cX8_layHeir 53 = .ok (.iadd, 1) := by decide +kernel
theorem dX8_layHeir_54 : decode cX8_layHeir 54 = .ok (.iload_n 3, 1) := by decide +kernel
theorem dX8_layHeir_55 : decode cX8_layHeir 55 = .ok (.iastore, 1) := by decide +kernel
theorem dX8_layHeir_56 : decode cX8_layHeir 56 = .ok (.aload_n 0, 1) := by decide +kernel
theorem dX8_layHeir_57 : decode cX8_layHeir 57 = .ok (.iload 4, 2) := by decide +kernel
theorem dX8_layHeir_59 : decode cX8_layHeir 59 = .ok (.iconst 5, 1) := by decide +kernel
theorem dX8_layHeir_60 : decode cX8_layHeir 60 = .ok (.iadd, 1) := by decide +kernel
theorem dX8_layHeir_61 : decode cX8_layHeir 61 = .ok (.iconst (-1), 1) := by decide +kernel
theorem dX8_layHeir_62 : decode cX8_layHeir 62 = .ok (.iastore, 1) := by decide +kernel
theorem dX8_layHeir_63 : decode cX8_layHeir 63 = .ok (.aload_n 0, 1) := by decide +kernel
theorem dX8_layHeir_64 : decode cX8_layHeir 64 = .ok (.iconst 0, 1) := by decide +kernel
theorem dX8_layHeir_65 : decode cX8_layHeir 65 = .ok (.dup2, 1) := by decide +kernel
theorem dX8_layHeir_66 : decode cX8_layHeir 66 = .ok (.iaload, 1) := by decide +kernel
theorem dX8_layHeir_67 : decode cX8_layHeir 67 = .ok (.iconst 1, 1) := by decide +kernel
theorem dX8_layHeir_68 : decode cX8_layHeir 68 = .ok (.iadd, 1) := by decide +kernel
theorem dX8_layHeir_69 : decode cX8_layHeir 69 = .ok (.iastore, 1) := by decide +kernel
theorem dX8_layHeir_70 : decode cX8_layHeir 70 = .ok (.return_, 1) := by decide +kernel
theorem dX8_heir_0 : decode cX8_heir 0 = .ok (.iload_n 1, 1) := by decide +kernel
theorem dX8_heir_1 : decode cX8_heir 1 = .ok (.i2l, 1) := by decide +kernel
theorem dX8_heir_2 : decode cX8_heir 2 = .ok (.lconst 0, 1) := by decide +kernel
theorem dX8_heir_3 : decode cX8_heir 3 = .ok (.ldc2_w 107, 3) := by decide +kernel
theorem dX8_heir_6 : decode cX8_heir 6 = .ok (.invokestatic 78, 3) := by decide +kernel
theorem dX8_heir_9 : decode cX8_heir 9 = .ok (.ifCond .eq 22, 3) := by decide +kernel
theorem dX8_heir_12 : decode cX8_heir 12 = .ok (.iload_n 2, 1) := by decide +kernel
theorem dX8_heir_13 : decode cX8_heir 13 = .ok (.invokestatic 90, 3) := by decide +kernel
theorem dX8_heir_16 : decode cX8_heir 16 = .ok (.ifCond .eq 15, 3) := by decide +kernel
theorem dX8_heir_19 : decode cX8_heir 19 = .ok (.iload_n 3, 1) := by decide +kernel
theorem dX8_heir_20 : decode cX8_heir 20 = .ok (.i2l, 1) := by decide +kernel
theorem dX8_heir_21 : decode cX8_heir 21 = .ok (.lconst 0, 1) := by decide +kernel
theorem dX8_heir_22 : decode cX8_heir 22 = .ok (.ldc2_w 94, 3) := by decide +kernel
theorem dX8_heir_25 : decode cX8_heir 25 = .ok (.invokestatic 78, 3) := by decide +kernel
theorem dX8_heir_28 : decode cX8_heir 28 = .ok (.ifCond .ne 10, 3) := by decide +kernel
theorem dX8_heir_31 : decode cX8_heir 31 = .ok (.aload_n 0, 1) := by decide +kernel
theorem dX8_heir_32 : decode cX8_heir 32 = .ok (.bipush (-2), 2) := by decide +kernel
theorem dX8_heir_34 : decode cX8_heir 34 = .ok (.invokevirtual 86, 3) := by decide +kernel
theorem dX8_heir_37 : decode cX8_heir 37 = .ok (.ireturn, 1) := by decide +kernel
theorem dX8_heir_38 : decode cX8_heir 38 = .ok (.aload_n 0, 1) := by decide +kernel
theorem dX8_heir_39 : decode cX8_heir 39 = .ok (.invokevirtual 74, 3) := by decide +kernel
theorem dX8_heir_42 : decode cX8_heir 42 = .ok (.bipush 6, 2) := by decide +kernel
theorem dX8_heir_44 : decode cX8_heir 44 = .ok (.if_icmp .ne 8, 3) := by decide +kernel
theorem dX8_heir_47 : decode cX8_heir 47 = .ok (.aload_n 0, 1) := by decide +kernel
theorem dX8_heir_48 : decode cX8_heir 48 = .ok (.invokevirtual 104, 3) := by decide +kernel
theorem dX8_heir_51 : decode cX8_heir 51 = .ok (.ireturn, 1) := by decide +kernel
theorem dX8_heir_52 : decode cX8_heir 52 = .ok (.aload_n 0, 1) := by decide +kernel
theorem dX8_heir_53 : decode cX8_heir 53 = .ok (.getfield 7, 3) := by decide +kernel
theorem dX8_heir_56 : decode cX8_heir 56 = .ok (.iload_n 1, 1) := by decide +kernel
theorem dX8_heir_57 : decode cX8_heir 57 = .ok (.iload_n 2, 1) := by decide +kernel
theorem dX8_heir_58 : decode cX8_heir 58 = .ok (.iload_n 3, 1) := by decide +kernel
theorem dX8_heir_59 : decode cX8_heir 59 = .ok (.invokestatic 109, 3) := by decide +kernel
theorem dX8_heir_62 : decode cX8_heir 62 = .ok (.aload_n 0, 1) := by decide +kernel
theorem dX8_heir_63 : decode cX8_heir 63 = .ok (.getfield 7, 3) := by decide +kernel
theorem dX8_heir_66 : decode cX8_heir 66 = .ok (.bipush 6, 2) := by decide +kernel
theorem dX8_heir_68 : decode cX8_heir 68 = .ok (.iconst 0, 1) := by decide +kernel
theorem dX8_heir_69 : decode cX8_heir 69 = .ok (.iastore, 1) := by decide +kernel
theorem dX8_heir_70 : decode cX8_heir 70 = .ok (.aload_n 0, 1) := by decide +kernel
theorem dX8_heir_71 : decode cX8_heir 71 = .ok (.invokevirtual 74, 3) := by decide +kernel
theorem dX8_heir_74 : decode cX8_heir 74 = .ok (.iconst 1, 1) := by decide +kernel
theorem dX8_heir_75 : decode cX8_heir 75 = .ok (.isub, 1) := by decide +kernel
theorem dX8_heir_76 : decode cX8_heir 76 = .ok (.ireturn, 1) := by decide +kernel
theorem dX8_layHand_0 : decode cX8_layHand 0 = .ok (.aload_n 0, 1) := by decide +kernel
theorem dX8_layHand_1 : decode cX8_layHand 1 = .ok (.aload_n 0, 1) := by decide +kernel
theorem dX8_layHand_2 : decode cX8_layHand 2 = .ok (.getfield 7, 3) := by decide +kernel
theorem dX8_layHand_5 : decode cX8_layHand 5 = .ok (.iconst 3, 1) := by decide +kernel
theorem dX8_layHand_6 : decode cX8_layHand 6 = .ok (.iaload, 1) := by decide +kernel
theorem dX8_layHand_7 : decode cX8_layHand 7 = .ok (.putfield 112, 3) := by decide +kernel
theorem dX8_layHand_10 : decode cX8_layHand 10 = .ok (.aload_n 0, 1) := by decide +kernel
theorem dX8_layHand_11 : decode cX8_layHand 11 = .ok (.aload_n 0, 1) := by decide +kernel
theorem dX8_layHand_12 : decode cX8_layHand 12 = .ok (.getfield 7, 3) := by decide +kernel
theorem dX8_layHand_15 : decode cX8_layHand 15 = .ok (.iconst 1, 1) := by decide +kernel
theorem dX8_layHand_16 : decode cX8_layHand 16 = .ok (.iaload, 1) := by decide +kernel
theorem dX8_layHand_17 : decode cX8_layHand 17 = .ok (.putfield 116, 3) := by decide +kernel
theorem dX8_layHand_20 : decode cX8_layHand 20 = .ok (.iconst 0, 1) := by decide +kernel
theorem dX8_layHand_21 : decode cX8_layHand 21 = .ok (.istore_n 1, 1) := by decide +kernel
theorem dX8_layHand_22 : decode cX8_layHand 22 = .ok (.iload_n 1, 1) := by decide +kernel
theorem dX8_layHand_23 : decode cX8_layHand 23 = .ok (.aload_n 0, 1) := by decide +kernel
theorem dX8_layHand_24 : decode cX8_layHand 24 = .ok (.invokevirtual 74, 3) := by decide +kernel
theorem dX8_layHand_27 : decode cX8_layHand 27 = .ok (.if_icmp .ge 57, 3) := by decide +kernel
theorem dX8_layHand_30 : decode cX8_layHand 30 = .ok (.aload_n 0, 1) := by decide +kernel
theorem dX8_layHand_31 : decode cX8_layHand 31 = .ok (.getfield 27, 3) := by decide +kernel
theorem dX8_layHand_34 : decode cX8_layHand 34 = .ok (.iload_n 1, 1) := by decide +kernel
theorem dX8_layHand_35 : decode cX8_layHand 35 = .ok (.aload_n 0, 1) := by decide +kernel
theorem dX8_layHand_36 : decode cX8_layHand 36 = .ok (.iload_n 1, 1) := by decide +kernel
theorem dX8_layHand_37 : decode cX8_layHand 37 = .ok (.iconst 1, 1) := by decide +kernel
theorem dX8_layHand_38 : decode cX8_layHand 38 = .ok (.invokevirtual 119, 3) := by decide +kernel
theorem dX8_layHand_41 : decode cX8_layHand 41 = .ok (.iastore, 1) := by decide +kernel
theorem dX8_layHand_42 : decode cX8_layHand 42 = .ok (.aload_n 0, 1) := by decide +kernel
theorem dX8_layHand_43 : decode cX8_layHand 43 = .ok (.getfield 30, 3) := by decide +kernel
theorem dX8_layHand_46 : decode cX8_layHand 46 = .ok (.iload_n 1, 1) := by decide +kernel
theorem dX8_layHand_47 : decode cX8_layHand 47 = .ok (.aload_n 0, 1) := by decide +kernel
theorem dX8_layHand_48 : decode cX8_layHand 48 = .ok (.iload_n 1, 1) := by decide +kernel
theorem dX8_layHand_49 : decode cX8_layHand 49 = .ok (.iconst 3, 1) := by decide +kernel
theorem dX8_layHand_50 : decode cX8_layHand 50 = .ok (.invokevirtual 119, 3) := by decide +kernel
theorem dX8_layHand_53 : decode cX8_layHand 53 = .ok (.iastore, 1) := by decide +kernel
theorem dX8_layHand_54 : decode cX8_layHand 54 = .ok (.aload_n 0, 1) := by decide +kernel
theorem dX8_layHand_55 : decode cX8_layHand 55 = .ok (.getfield 33, 3) := by decide +kernel
theorem dX8_layHand_58 : decode cX8_layHand 58 = .ok (.iload_n 1, 1) := by decide +kernel
theorem dX8_layHand_59 : decode cX8_layHand 59 = .ok (.aload_n 0, 1) := by decide +kernel
theorem dX8_layHand_60 : decode cX8_layHand 60 = .ok (.iload_n 1, 1) := by decide +kernel
theorem dX8_layHand_61 : decode cX8_layHand 61 = .ok (.iconst 4, 1) := by decide +kernel
theorem dX8_layHand_62 : decode cX8_layHand 62 = .ok (.invokevirtual 119, 3) := by decide +kernel
theorem dX8_layHand_65 : decode cX8_layHand 65 = .ok (.iastore, 1) := by decide +kernel
theorem dX8_layHand_66 : decode cX8_layHand 66 = .ok (.aload_n 0, 1) := by decide +kernel
theorem dX8_layHand_67 : decode cX8_layHand 67 = .ok (.getfield 36, 3) := by decide +kernel
theorem dX8_layHand_70 : decode cX8_layHand 70 = .ok (.iload_n 1, 1) := by decide +kernel
theorem dX8_layHand_71 : decode cX8_layHand 71 = .ok (.aload_n 0, 1) := by decide +kernel
theorem dX8_layHand_72 : decode cX8_layHand 72 = .ok (.iload_n 1, 1) := by decide +kernel
theorem dX8_layHand_73 : decode cX8_layHand 73 = .ok (.iconst 5, 1) := by decide +kernel
theorem dX8_layHand_74 : decode cX8_layHand 74 = .ok (.invokevirtual 119, 3) := by decide +kernel
theorem dX8_layHand_77 : decode cX8_layHand 77 = .ok (.iastore, 1) := by decide +kernel
theorem dX8_layHand_78 : decode cX8_layHand 78 = .ok (.iinc 1 1, 3) := by decide +kernel
theorem dX8_layHand_81 : decode cX8_layHand 81 = .ok (.goto (-59), 3) := by decide +kernel
theorem dX8_layHand_84 : decode cX8_layHand 84 = .ok (.return_, 1) := by decide +kernel
theorem dX8_isOther_0 : decode cX8_isOther 0 = .ok (.iconst 0, 1) := by decide +kernel
theorem dX8_isOther_1 : decode cX8_isOther 1 = .ok (.istore_n 2, 1) := by decide +kernel
theorem dX8_isOther_2 : decode cX8_isOther 2 = .ok (.iconst 0, 1) := by decide +kernel
theorem dX8_isOther_3 : decode cX8_isOther 3 = .ok (.istore_n 3, 1) := by decide +kernel
theorem dX8_isOther_4 : decode cX8_isOther 4 = .ok (.iload_n 3, 1) := by decide +kernel
theorem dX8_isOther_5 : decode cX8_isOther 5 = .ok (.aload_n 0, 1) := by decide +kernel
theorem dX8_isOther_6 : decode cX8_isOther 6 = .ok (.invokevirtual 74, 3) := by decide +kernel
theorem dX8_isOther_9 : decode cX8_isOther 9 = .ok (.if_icmp .ge 48, 3) := by decide +kernel
theorem dX8_isOther_12 : decode cX8_isOther 12 = .ok (.iload_n 2, 1) := by decide +kernel
theorem dX8_isOther_13 : decode cX8_isOther 13 = .ok (.ifCond .ne 32, 3) := by decide +kernel
theorem dX8_isOther_16 : decode cX8_isOther 16 = .ok (.iload_n 3, 1) := by decide +kernel
theorem dX8_isOther_17 : decode cX8_isOther 17 = .ok (.iload_n 1, 1) := by decide +kernel
theorem dX8_isOther_18 : decode cX8_isOther 18 = .ok (.if_icmp .eq 31, 3) := by decide +kernel
theorem dX8_isOther_21 : decode cX8_isOther 21 = .ok (.aload_n 0, 1) := by decide +kernel
theorem dX8_isOther_22 : decode cX8_isOther 22 = .ok (.getfield 33, 3) := by decide +kernel
theorem dX8_isOther_25 : decode cX8_isOther 25 = .ok (.iload_n 3, 1) := by decide +kernel
theorem dX8_isOther_26 : decode cX8_isOther 26 = .ok (.iaload, 1) := by decide +kernel
theorem dX8_isOther_27 : decode cX8_isOther 27 = .ok (.ifCond .ne 22, 3) := by decide +kernel
theorem dX8_isOther_30 : decode cX8_isOther 30 = .ok (.aload_n 0, 1) := by decide +kernel
theorem dX8_isOther_31 : decode cX8_isOther 31 = .ok (.getfield 27, 3) := by decide +kernel
theorem dX8_isOther_34 : decode cX8_isOther 34 = .ok (.iload_n 3, 1) := by decide +kernel
theorem dX8_isOther_35 : decode cX8_isOther 35 = .ok (.iaload, 1) := by decide +kernel
theorem dX8_isOther_36 : decode cX8_isOther 36 = .ok (.aload_n 0, 1) := by decide +kernel
theorem dX8_isOther_37 : decode cX8_isOther 37 = .ok (.getfield 27, 3) := by decide +kernel
theorem dX8_isOther_40 : decode cX8_isOther 40 = .ok (.iload_n 1, 1) := by decide +kernel
theorem dX8_isOther_41 : decode cX8_isOther 41 = .ok (.iaload, 1) := by decide +kernel
theorem dX8_isOther_42 : decode cX8_isOther 42 = .ok (.if_icmp .ne 7, 3) := by decide +kernel
theorem dX8_isOther_45 : decode cX8_isOther 45 = .ok (.iconst 1, 1) := by decide +kernel
theorem dX8_isOther_46 : decode cX8_isOther 46 = .ok (.goto 4, 3) := by decide +kernel
theorem dX8_isOther_49 : decode cX8_isOther 49 = .ok (.iconst 0, 1) := by decide +kernel
theorem dX8_isOther_50 : decode cX8_isOther 50 = .ok (.istore_n 2, 1) := by decide +kernel
theorem dX8_isOther_51 : decode cX8_isOther 51 = .ok (.iinc 3 1, 3) := by decide +kernel
theorem dX8_isOther_54 : decode cX8_isOther 54 = .ok (.goto (-50), 3) := by decide +kernel
theorem dX8_isOther_57 : decode cX8_isOther 57 = .ok (.iload_n 2, 1) := by decide +kernel
theorem dX8_isOther_58 : decode cX8_isOther 58 = .ok (.ireturn, 1) := by decide +kernel
theorem dX8_least_0 : decode cX8_least 0 = .ok (.iload_n 0, 1) := by decide +kernel
theorem dX8_least_1 : decode cX8_least 1 = .ok (.iload_n 1, 1) := by decide +kernel
theorem dX8_least_2 : decode cX8_least 2 = .ok (.if_icmp .ge 7, 3) := by decide +kernel
theorem dX8_least_5 : decode cX8_least 5 = .ok (.iload_n 0, 1) := by decide +kernel
theorem dX8_least_6 : decode cX8_least 6 = .ok (.goto 4, 3) := by decide +kernel
theorem dX8_least_9 : decode cX8_least 9 = .ok (.iload_n 1, 1) := by decide +kernel
theorem dX8_least_10 : decode cX8_least 10 = .ok (.ireturn, 1) := by decide +kernel
theorem dX8_most_0 : decode cX8_most 0 = .ok (.iload_n 0, 1) := by decide +kernel
theorem dX8_most_1 : decode cX8_most 1 = .ok (.iload_n 1, 1) := by decide +kernel
theorem dX8_most_2 : decode cX8_most 2 = .ok (.if_icmp .le 7, 3) := by decide +kernel
theorem dX8_most_5 : decode cX8_most 5 = .ok (.iload_n 0, 1) := by decide +kernel
theorem dX8_most_6 : decode cX8_most 6 = .ok (.goto 4, 3) := by decide +kernel
theorem dX8_most_9 : decode cX8_most 9 = .ok (.iload_n 1, 1) := by decide +kernel
theorem dX8_most_10 : decode cX8_most 10 = .ok (.ireturn, 1) := by decide +kernel
theorem dX8_hiddenOf_0 : decode cX8_hiddenOf 0 = .ok (.aload_n 0, 1) := by decide +kernel
theorem dX8_hiddenOf_1 : decode cX8_hiddenOf 1 = .ok (.getfield 7, 3) := by decide +kernel
theorem dX8_hiddenOf_4 : decode cX8_hiddenOf 4 = .ok (.bipush 7, 2) := by decide +kernel
theorem dX8_hiddenOf_6 : decode cX8_hiddenOf 6 = .ok (.aload_n 0, 1) := by decide +kernel
theorem dX8_hiddenOf_7 : decode cX8_hiddenOf 7 = .ok (.getfield 27, 3) := by decide +kernel
theorem dX8_hiddenOf_10 : decode cX8_hiddenOf 10 = .ok (.iload_n 1, 1) := by decide +kernel
theorem dX8_hiddenOf_11 : decode cX8_hiddenOf 11 = .ok (.iaload, 1) := by decide +kernel
theorem dX8_hiddenOf_12 : decode cX8_hiddenOf 12 = .ok (.iadd, 1) := by decide +kernel
theorem dX8_hiddenOf_13 : decode cX8_hiddenOf 13 = .ok (.iaload, 1) := by decide +kernel
theorem dX8_hiddenOf_14 : decode cX8_hiddenOf 14 = .ok (.aload_n 0, 1) := by decide +kernel
theorem dX8_hiddenOf_15 : decode cX8_hiddenOf 15 = .ok (.iload_n 1, 1) := by decide +kernel
theorem dX8_hiddenOf_16 : decode cX8_hiddenOf 16 = .ok (.iconst 2, 1) := by decide +kernel
theorem dX8_hiddenOf_17 : decode cX8_hiddenOf 17 = .ok (.invokevirtual 119, 3) := by decide +kernel
theorem dX8_hiddenOf_20 : decode cX8_hiddenOf 20 = .ok (.iadd, 1) := by decide +kernel
theorem dX8_hiddenOf_21 : decode cX8_hiddenOf 21 = .ok (.istore_n 2, 1) := by decide +kernel
theorem dX8_hiddenOf_22 : decode cX8_hiddenOf 22 = .ok (.iload_n 2, 1) := by decide +kernel
theorem dX8_hiddenOf_23 : decode cX8_hiddenOf 23 = .ok (.iconst 5, 1) := by decide +kernel
theorem dX8_hiddenOf_24 : decode cX8_hiddenOf 24 = .ok (.aload_n 0, 1) := by decide +kernel
theorem dX8_hiddenOf_25 : decode cX8_hiddenOf 25 = .ok (.getfield 30, 3) := by decide +kernel
theorem dX8_hiddenOf_28 : decode cX8_hiddenOf 28 = .ok (.iload_n 1, 1) := by decide +kernel
theorem dX8_hiddenOf_29 : decode cX8_hiddenOf 29 = .ok (.iaload, 1) := by decide +kernel
theorem dX8_hiddenOf_30 : decode cX8_hiddenOf 30 = .ok (.invokestatic 122, 3) := by decide +kernel
theorem dX8_hiddenOf_33 : decode cX8_hiddenOf 33 = .ok (.iadd, 1) := by decide +kernel
theorem dX8_hiddenOf_34 : decode cX8_hiddenOf 34 = .ok (.istore_n 3, 1) := by decide +kernel
theorem dX8_hiddenOf_35 : decode cX8_hiddenOf 35 = .ok (.iconst 0, 1) := by decide +kernel
theorem dX8_hiddenOf_36 : decode cX8_hiddenOf 36 = .ok (.iload_n 2, 1) := by decide +kernel
theorem dX8_hiddenOf_37 : decode cX8_hiddenOf 37 = .ok (.iconst 3, 1) := by decide +kernel
theorem dX8_hiddenOf_38 : decode cX8_hiddenOf 38 = .ok (.isub, 1) := by decide +kernel
theorem dX8_hiddenOf_39 : decode cX8_hiddenOf 39 = .ok (.invokestatic 125, 3) := by decide +kernel
theorem dX8_hiddenOf_42 : decode cX8_hiddenOf 42 = .ok (.istore 4, 2) := by decide +kernel
theorem dX8_hiddenOf_44 : decode cX8_hiddenOf 44 = .ok (.aload_n 0, 1) := by decide +kernel
theorem dX8_hiddenOf_45 : decode cX8_hiddenOf 45 = .ok (.iload_n 1, 1) := by decide +kernel
theorem dX8_hiddenOf_46 : decode cX8_hiddenOf 46 = .ok (.iconst 0, 1) := by decide +kernel
theorem dX8_hiddenOf_47 : decode cX8_hiddenOf 47 = .ok (.invokevirtual 119, 3) := by decide +kernel
theorem dX8_hiddenOf_50 : decode cX8_hiddenOf 50 = .ok (.tableswitch 89 1 5 #[34, 37, 53, 55, 78], 34) := by decide +kernel
theorem dX8_hiddenOf_84 : decode cX8_hiddenOf 84 = .ok (.iload 4, 2) := by decide +kernel
theorem dX8_hiddenOf_86 : decode cX8_hiddenOf 86 = .ok (.ireturn, 1) := by decide +kernel
theorem dX8_hiddenOf_87 : decode cX8_hiddenOf 87 = .ok (.aload_n 0, 1) := by decide +kernel
theorem dX8_hiddenOf_88 : decode cX8_hiddenOf 88 = .ok (.iload_n 1, 1) := by decide +kernel
theorem dX8_hiddenOf_89 : decode cX8_hiddenOf 89 = .ok (.invokevirtual 128, 3) := by decide +kernel
theorem dX8_hiddenOf_92 : decode cX8_hiddenOf 92 = .ok (.ifCond .eq 9, 3) := by decide +kernel
theorem dX8_hiddenOf_95 : decode cX8_hiddenOf 95 = .ok (.iload_n 2, 1) := by decide +kernel
theorem dX8_hiddenOf_96 : decode cX8_hiddenOf 96 = .ok (.iconst 2, 1) := by decide +kernel
theorem dX8_hiddenOf_97 : decode cX8_hiddenOf 97 = .ok (.idiv, 1) := by decide +kernel
theorem dX8_hiddenOf_98 : decode cX8_hiddenOf 98 = .ok (.goto 4, 3) := by decide +kernel
theorem dX8_hiddenOf_101 : decode cX8_hiddenOf 101 = .ok (.iload_n 2, 1) := by decide +kernel
theorem dX8_hiddenOf_102 : decode cX8_hiddenOf 102 = .ok (.ireturn, 1) := by decide +kernel
theorem dX8_hiddenOf_103 : decode cX8_hiddenOf 103 = .ok (.iload_n 3, 1) := by decide +kernel
theorem dX8_hiddenOf_104 : decode cX8_hiddenOf 104 = .ok (.ireturn, 1) := by decide +kernel
theorem dX8_hiddenOf_105 : decode cX8_hiddenOf 105 = .ok (.aload_n 0, 1) := by decide +kernel
theorem dX8_hiddenOf_106 : decode cX8_hiddenOf 106 = .ok (.getfield 30, 3) := by decide +kernel
theorem dX8_hiddenOf_109 : decode cX8_hiddenOf 109 = .ok (.iload_n 1, 1) := by decide +kernel
theorem dX8_hiddenOf_110 : decode cX8_hiddenOf 110 = .ok (.iaload, 1) := by decide +kernel
theorem dX8_hiddenOf_111 : decode cX8_hiddenOf 111 = .ok (.ifCond .ne 14, 3) := by decide +kernel
theorem dX8_hiddenOf_114 : decode cX8_hiddenOf 114 = .ok (.iconst 0, 1) := by decide +kernel
theorem dX8_hiddenOf_115 : decode cX8_hiddenOf 115 = .ok (.iload 4, 2) := by decide +kernel
theorem dX8_hiddenOf_117 : decode cX8_hiddenOf 117 = .ok (.iconst 2, 1) := by decide +kernel
theorem dX8_hiddenOf_118 : decode cX8_hiddenOf 118 = .ok (.isub, 1) := by decide +kernel
theorem dX8_hiddenOf_119 : decode cX8_hiddenOf 119 = .ok (.invokestatic 125, 3) := by decide +kernel
theorem dX8_hiddenOf_122 : decode cX8_hiddenOf 122 = .ok (.goto 5, 3) := by decide +kernel
theorem dX8_hiddenOf_125 : decode cX8_hiddenOf 125 = .ok (.iload 4, 2) := by decide +kernel
theorem dX8_hiddenOf_127 : decode cX8_hiddenOf 127 = .ok (.ireturn, 1) := by decide +kernel
theorem dX8_hiddenOf_128 : decode cX8_hiddenOf 128 = .ok (.iload_n 3, 1) := by decide +kernel
theorem dX8_hiddenOf_129 : decode cX8_hiddenOf 129 = .ok (.aload_n 0, 1) := by decide +kernel
theorem dX8_hiddenOf_130 : decode cX8_hiddenOf 130 = .ok (.getfield 7, 3) := by decide +kernel
theorem dX8_hiddenOf_133 : decode cX8_hiddenOf 133 = .ok (.iconst 2, 1) := by decide +kernel
theorem dX8_hiddenOf_134 : decode cX8_hiddenOf 134 = .ok (.iaload, 1) := by decide +kernel
theorem dX8_hiddenOf_135 : decode cX8_hiddenOf 135 = .ok (.invokestatic 122, 3) := by decide +kernel
theorem dX8_hiddenOf_138 : decode cX8_hiddenOf 138 = .ok (.ireturn, 1) := by decide +kernel
theorem dX8_hiddenOf_139 : decode cX8_hiddenOf 139 = .ok (.iload_n 2, 1) := by decide +kernel
theorem dX8_hiddenOf_140 : decode cX8_hiddenOf 140 = .ok (.ireturn, 1) := by decide +kernel
theorem dX8_looksIn_0 : decode cX8_looksIn 0 = .ok (.iload_n 1, 1) := by decide +kernel
theorem dX8_looksIn_1 : decode cX8_looksIn 1 = .ok (.aload_n 0, 1) := by decide +kernel
theorem dX8_looksIn_2 : decode cX8_looksIn 2 = .ok (.getfield 7, 3) := by decide +kernel
theorem dX8_looksIn_5 : decode cX8_looksIn 5 = .ok (.iconst 4, 1) := by decide +kernel
theorem dX8_looksIn_6 : decode cX8_looksIn 6 = .ok (.iaload, 1) := by decide +kernel
theorem dX8_looksIn_7 : decode cX8_looksIn 7 = .ok (.irem, 1) := by decide +kernel
theorem dX8_looksIn_8 : decode cX8_looksIn 8 = .ok (.istore_n 2, 1) := by decide +kernel
theorem dX8_looksIn_9 : decode cX8_looksIn 9 = .ok (.aload_n 0, 1) := by decide +kernel
theorem dX8_looksIn_10 : decode cX8_looksIn 10 = .ok (.getfield 7, 3) := by decide +kernel
theorem dX8_looksIn_13 : decode cX8_looksIn 13 = .ok (.bipush 79, 2) := by decide +kernel
theorem dX8_looksIn_15 : decode cX8_looksIn 15 = .ok (.iload_n 1, 1) := by decide +kernel
theorem dX8_looksIn_16 : decode cX8_looksIn 16 = .ok (.bipush 7, 2) := by decide +kernel
theorem dX8_looksIn_18 : decode cX8_looksIn 18 = .ok (.irem, 1) := by decide +kernel
theorem dX8_looksIn_19 : decode cX8_looksIn 19 = .ok (.bipush 6, 2) := by decide +kernel
theorem dX8_looksIn_21 : decode cX8_looksIn 21 = .ok (.if_icmp .ne 16, 3) := by decide +kernel
theorem dX8_looksIn_24 : decode cX8_looksIn 24 = .ok (.aload_n 0, 1) := by decide +kernel
theorem dX8_looksIn_25 : decode cX8_looksIn 25 = .ok (.getfield 7, 3) := by decide +kernel
theorem dX8_looksIn_28 : decode cX8_looksIn 28 = .ok (.iconst 4, 1) := by decide +kernel
theorem dX8_looksIn_29 : decode cX8_looksIn 29 = .ok (.iaload, 1) := by decide +kernel
theorem dX8_looksIn_30 : decode cX8_looksIn 30 = .ok (.iconst 1, 1) := by decide +kernel
theorem dX8_looksIn_31 : decode cX8_looksIn 31 = .ok (.isub, 1) := by decide +kernel
theorem dX8_looksIn_32 : decode cX8_looksIn 32 = .ok (.iload_n 2, 1) := by decide +kernel
theorem dX8_looksIn_33 : decode cX8_looksIn 33 = .ok (.isub, 1) := by decide +kernel
theorem dX8_looksIn_34 : decode cX8_looksIn 34 = .ok (.goto 4, 3) := by decide +kernel
theorem dX8_looksIn_37 : decode cX8_looksIn 37 = .ok (.iload_n 2, 1) := by decide +kernel
theorem dX8_looksIn_38 : decode cX8_looksIn 38 = .ok (.iadd, 1) := by decide +kernel
theorem dX8_looksIn_39 : decode cX8_looksIn 39 = .ok (.iaload, 1) := by decide +kernel
theorem dX8_looksIn_40 : decode cX8_looksIn 40 = .ok (.ireturn, 1) := by decide +kernel
theorem dX8_goNight_0 : decode cX8_goNight 0 = .ok (.iconst 0, 1) := by decide +kernel
theorem dX8_goNight_1 : decode cX8_goNight 1 = .ok (.istore_n 1, 1) := by decide +kernel
theorem dX8_goNight_2 : decode cX8_goNight 2 = .ok (.aload_n 0, 1) := by decide +kernel
theorem dX8_goNight_3 : decode cX8_goNight 3 = .ok (.aload_n 0, 1) := by decide +kernel
theorem dX8_goNight_4 : decode cX8_goNight 4 = .ok (.getfield 112, 3) := by decide +kernel
theorem dX8_goNight_7 : decode cX8_goNight 7 = .ok (.invokevirtual 131, 3) := by decide +kernel
theorem dX8_goNight_10 : decode cX8_goNight 10 = .ok (.istore_n 2, 1) := by decide +kernel
theorem dX8_goNight_11 : decode cX8_goNight 11 = .ok (.iconst 0, 1) := by decide +kernel
theorem dX8_goNight_12 : decode cX8_goNight 12 = .ok (.istore_n 3, 1) := by decide +kernel
theorem dX8_goNight_13 : decode cX8_goNight 13 = .ok (.iload_n 3, 1) := by decide +kernel
theorem dX8_goNight_14 : decode cX8_goNight 14 = .ok (.aload_n 0, 1) := by decide +kernel
theorem dX8_goNight_15 : decode cX8_goNight 15 = .ok (.invokevirtual 74, 3) := by decide +kernel
theorem dX8_goNight_18 : decode cX8_goNight 18 = .ok (.if_icmp .ge 20, 3) := by decide +kernel
theorem dX8_goNight_21 : decode cX8_goNight 21 = .ok (.aload_n 0, 1) := by decide +kernel
theorem dX8_goNight_22 : decode cX8_goNight 22 = .ok (.getfield 39, 3) := by decide +kernel
theorem dX8_goNight_25 : decode cX8_goNight 25 = .ok (.iload_n 3, 1) := by decide +kernel
theorem dX8_goNight_26 : decode cX8_goNight 26 = .ok (.aload_n 0, 1) := by decide +kernel
theorem dX8_goNight_27 : decode cX8_goNight 27 = .ok (.iload_n 3, 1) := by decide +kernel
theorem dX8_goNight_28 : decode cX8_goNight 28 = .ok (.invokevirtual 134, 3) := by decide +kernel
theorem dX8_goNight_31 : decode cX8_goNight 31 = .ok (.iastore, 1) := by decide +kernel
theorem dX8_goNight_32 : decode cX8_goNight 32 = .ok (.iinc 3 1, 3) := by decide +kernel
theorem dX8_goNight_35 : decode cX8_goNight 35 = .ok (.goto (-22), 3) := by decide +kernel
theorem dX8_goNight_38 : decode cX8_goNight 38 = .ok (.iconst 0, 1) := by decide +kernel
theorem dX8_goNight_39 : decode cX8_goNight 39 = .ok (.istore_n 3, 1) := by decide +kernel
theorem dX8_goNight_40 : decode cX8_goNight 40 = .ok (.iload_n 3, 1) := by decide +kernel
theorem dX8_goNight_41 : decode cX8_goNight 41 = .ok (.aload_n 0, 1) := by decide +kernel
theorem dX8_goNight_42 : decode cX8_goNight 42 = .ok (.invokevirtual 74, 3) := by decide +kernel
theorem dX8_goNight_45 : decode cX8_goNight 45 = .ok (.if_icmp .ge 129, 3) := by decide +kernel
theorem dX8_goNight_48 : decode cX8_goNight 48 = .ok (.aload_n 0, 1) := by decide +kernel
theorem dX8_goNight_49 : decode cX8_goNight 49 = .ok (.getfield 33, 3) := by decide +kernel
theorem dX8_goNight_52 : decode cX8_goNight 52 = .ok (.iload_n 3, 1) := by decide +kernel
theorem dX8_goNight_53 : decode cX8_goNight 53 = .ok (.iaload, 1) := by decide +kernel
theorem dX8_goNight_54 : decode cX8_goNight 54 = .ok (.ifCond .ne 114, 3) := by decide +kernel
theorem dX8_goNight_57 : decode cX8_goNight 57 = .ok (.aload_n 0, 1) := by decide +kernel
theorem dX8_goNight_58 : decode cX8_goNight 58 = .ok (.getfield 39, 3) := by decide +kernel
theorem dX8_goNight_61 : decode cX8_goNight 61 = .ok (.iload_n 3, 1) := by decide +kernel
theorem dX8_goNight_62 : decode cX8_goNight 62 = .ok (.iaload, 1) := by decide +kernel
theorem dX8_goNight_63 : decode cX8_goNight 63 = .ok (.aload_n 0, 1) := by decide +kernel
theorem dX8_goNight_64 : decode cX8_goNight 64 = .ok (.getfield 7, 3) := by decide +kernel
theorem dX8_goNight_67 : decode cX8_goNight 67 = .ok (.iconst 2, 1) := by decide +kernel
theorem dX8_goNight_68 : decode cX8_goNight 68 = .ok (.iaload, 1) := by decide +kernel
theorem dX8_goNight_69 : decode cX8_goNight 69 = .ok (.if_icmp .ge 7, 3) := by decide +kernel
theorem dX8_goNight_72 : decode cX8_goNight 72 = .ok (.iconst 1, 1) := by decide +kernel
theorem dX8_goNight_73 : decode cX8_goNight 73 = .ok (.goto 31, 3) := by decide +kernel
theorem dX8_goNight_76 : decode cX8_goNight 76 = .ok (.aload_n 0, 1) := by decide +kernel
theorem dX8_goNight_77 : decode cX8_goNight 77 = .ok (.getfield 27, 3) := by decide +kernel
theorem dX8_goNight_80 : decode cX8_goNight 80 = .ok (.iload_n 3, 1) := by decide +kernel
theorem dX8_goNight_81 : decode cX8_goNight 81 = .ok (.iaload, 1) := by decide +kernel
theorem dX8_goNight_82 : decode cX8_goNight 82 = .ok (.iload_n 2, 1) := by decide +kernel
theorem dX8_goNight_83 : decode cX8_goNight 83 = .ok (.if_icmp .ne 20, 3) := by decide +kernel
theorem dX8_goNight_86 : decode cX8_goNight 86 = .ok (.aload_n 0, 1) := by decide +kernel
theorem dX8_goNight_87 : decode cX8_goNight 87 = .ok (.getfield 39, 3) := by decide +kernel
theorem dX8_goNight_90 : decode cX8_goNight 90 = .ok (.iload_n 3, 1) := by decide +kernel
theorem dX8_goNight_91 : decode cX8_goNight 91 = .ok (.iaload, 1) := by decide +kernel
theorem dX8_goNight_92 : decode cX8_goNight 92 = .ok (.aload_n 0, 1) := by decide +kernel
theorem dX8_goNight_93 : decode cX8_goNight 93 = .ok (.getfield 116, 3) := by decide +kernel
theorem dX8_goNight_96 : decode cX8_goNight 96 = .ok (.if_icmp .ge 7, 3) := by decide +kernel
theorem dX8_goNight_99 : decode cX8_goNight 99 = .ok (.iconst 2, 1) := by decide +kernel
theorem dX8_goNight_100 : decode cX8_goNight 100 = .ok (.goto 4, 3) := by decide +kernel
theorem dX8_goNight_103 : decode cX8_goNight 103 = .ok (.iconst 0, 1) := by decide +kernel
theorem dX8_goNight_104 : decode cX8_goNight 104 = .ok (.istore 4, 2) := by decide +kernel
theorem dX8_goNight_106 : decode cX8_goNight 106 = .ok (.aload_n 0, 1) := by decide +kernel
theorem dX8_goNight_107 : decode cX8_goNight 107 = .ok (.getfield 33, 3) := by decide +kernel
theorem dX8_goNight_110 : decode cX8_goNight 110 = .ok (.iload_n 3, 1) := by decide +kernel
theorem dX8_goNight_111 : decode cX8_goNight 111 = .ok (.iload 4, 2) := by decide +kernel
theorem dX8_goNight_113 : decode cX8_goNight 113 = .ok (.iastore, 1) := by decide +kernel
theorem dX8_goNight_114 : decode cX8_goNight 114 = .ok (.aload_n 0, 1) := by decide +kernel
theorem dX8_goNight_115 : decode cX8_goNight 115 = .ok (.getfield 36, 3) := by decide +kernel
theorem dX8_goNight_118 : decode cX8_goNight 118 = .ok (.iload_n 3, 1) := by decide +kernel
theorem dX8_goNight_119 : decode cX8_goNight 119 = .ok (.iload 4, 2) := by decide +kernel
theorem dX8_goNight_121 : decode cX8_goNight 121 = .ok (.ifCond .ne 7, 3) := by decide +kernel
theorem dX8_goNight_124 : decode cX8_goNight 124 = .ok (.iconst (-1), 1) := by decide +kernel
theorem dX8_goNight_125 : decode cX8_goNight 125 = .ok (.goto 7, 3) := by decide +kernel
theorem dX8_goNight_128 : decode cX8_goNight 128 = .ok (.aload_n 0, 1) := by decide +kernel
theorem dX8_goNight_129 : decode cX8_goNight 129 = .ok (.getfield 112, 3) := by decide +kernel
theorem dX8_goNight_132 : decode cX8_goNight 132 = .ok (.iastore, 1) := by decide +kernel
theorem dX8_goNight_133 : decode cX8_goNight 133 = .ok (.aload_n 0, 1) := by decide +kernel
theorem dX8_goNight_134 : decode cX8_goNight 134 = .ok (.getfield 30, 3) := by decide +kernel
theorem dX8_goNight_137 : decode cX8_goNight 137 = .ok (.iload_n 3, 1) := by decide +kernel
theorem dX8_goNight_138 : decode cX8_goNight 138 = .ok (.dup2, 1) := by decide +kernel
theorem dX8_goNight_139 : decode cX8_goNight 139 = .ok (.iaload, 1) := by decide +kernel
theorem dX8_goNight_140 : decode cX8_goNight 140 = .ok (.iload 4, 2) := by decide +kernel
theorem dX8_goNight_142 : decode cX8_goNight 142 = .ok (.ifCond .ne 7, 3) := by decide +kernel
theorem dX8_goNight_145 : decode cX8_goNight 145 = .ok (.iconst 1, 1) := by decide +kernel
theorem dX8_goNight_146 : decode cX8_goNight 146 = .ok (.goto 4, 3) := by decide +kernel
theorem dX8_goNight_149 : decode cX8_goNight 149 = .ok (.iconst 0, 1) := by decide +kernel
theorem dX8_goNight_150 : decode cX8_goNight 150 = .ok (.iadd, 1) := by decide +kernel
theorem dX8_goNight_151 : decode cX8_goNight 151 = .ok (.iastore, 1) := by decide +kernel
theorem dX8_goNight_152 : decode cX8_goNight 152 = .ok (.iload_n 1, 1) := by decide +kernel
theorem dX8_goNight_153 : decode cX8_goNight 153 = .ok (.iload 4, 2) := by decide +kernel
theorem dX8_goNight_155 : decode cX8_goNight 155 = .ok (.iconst 2, 1) := by decide +kernel
theorem dX8_goNight_156 : decode cX8_goNight 156 = .ok (.if_icmp .ne 9, 3) := by decide +kernel
theorem dX8_goNight_159 : decode cX8_goNight 159 = .ok (.iconst 1, 1) := by decide +kernel
theorem dX8_goNight_160 : decode cX8_goNight 160 = .ok (.iload_n 3, 1) := by decide +kernel
theorem dX8_goNight_161 : decode cX8_goNight 161 = .ok (.ishl, 1) := by decide +kernel
theorem dX8_goNight_162 : decode cX8_goNight 162 = .ok (.goto 4, 3) := by decide +kernel
theorem dX8_goNight_165 : decode cX8_goNight 165 = .ok (.iconst 0, 1) := by decide +kernel
theorem dX8_goNight_166 : decode cX8_goNight 166 = .ok (.ior, 1) := by decide +kernel
theorem dX8_goNight_167 : decode cX8_goNight 167 = .ok (.istore_n 1, 1) := by decide +kernel
theorem dX8_goNight_168 : decode cX8_goNight 168 = .ok (.iinc 3 1, 3) := by decide +kernel
theorem dX8_goNight_171 : decode cX8_goNight 171 = .ok (.goto (-131), 3) := by decide +kernel
theorem dX8_goNight_174 : decode cX8_goNight 174 = .ok (.aload_n 0, 1) := by decide +kernel
theorem dX8_goNight_175 : decode cX8_goNight 175 = .ok (.dup, 1) := by decide +kernel
theorem dX8_goNight_176 : decode cX8_goNight 176 = .ok (.getfield 112, 3) := by decide +kernel
theorem dX8_goNight_179 : decode cX8_goNight 179 = .ok (.iconst 1, 1) := by decide +kernel
theorem dX8_goNight_180 : decode cX8_goNight 180 = .ok (.iadd, 1) := by decide +kernel
theorem dX8_goNight_181 : decode cX8_goNight 181 = .ok (.putfield 112, 3) := by decide +kernel
theorem dX8_goNight_184 : decode cX8_goNight 184 = .ok (.iload_n 1, 1) := by decide +kernel
theorem dX8_goNight_185 : decode cX8_goNight 185 = .ok (.ireturn, 1) := by decide +kernel
theorem dX8_keep_0 : decode cX8_keep 0 = .ok (.aload_n 0, 1) := by decide +kernel
theorem dX8_keep_1 : decode cX8_keep 1 = .ok (.getfield 7, 3) := by decide +kernel
theorem dX8_keep_4 : decode cX8_keep 4 = .ok (.bipush 6, 2) := by decide +kernel
theorem dX8_keep_6 : decode cX8_keep 6 = .ok (.iaload, 1) := by decide +kernel
theorem dX8_keep_7 : decode cX8_keep 7 = .ok (.bipush 8, 2) := by decide +kernel
theorem dX8_keep_9 : decode cX8_keep 9 = .ok (.if_icmp .ne 47, 3) := by decide +kernel
theorem dX8_keep_12 : decode cX8_keep 12 = .ok (.iconst 0, 1) := by decide +kernel
theorem dX8_keep_13 : decode cX8_keep 13 = .ok (.istore_n 1, 1) := by decide +kernel
theorem dX8_keep_14 : decode cX8_keep 14 = .ok (.iload_n 1, 1) := by decide +kernel
theorem dX8_keep_15 : decode cX8_keep 15 = .ok (.sipush 217, 3) := by decide +kernel
theorem dX8_keep_18 : decode cX8_keep 18 = .ok (.if_icmp .ge 29, 3) := by decide +kernel
theorem dX8_keep_21 : decode cX8_keep 21 = .ok (.aload_n 0, 1) := by decide +kernel
theorem dX8_keep_22 : decode cX8_keep 22 = .ok (.getfield 7, 3) := by decide +kernel
theorem dX8_keep_25 : decode cX8_keep 25 = .ok (.sipush 151, 3) := by decide +kernel
theorem dX8_keep_28 : decode cX8_keep 28 = .ok (.iload_n 1, 1) := by decide +kernel
theorem dX8_keep_29 : decode cX8_keep 29 = .ok (.iadd, 1) := by decide +kernel
theorem dX8_keep_30 : decode cX8_keep 30 = .ok (.aload_n 0, 1) := by decide +kernel
theorem dX8_keep_31 : decode cX8_keep 31 = .ok (.getfield 7, 3) := by decide +kernel
theorem dX8_keep_34 : decode cX8_keep 34 = .ok (.sipush 182, 3) := by decide +kernel
theorem dX8_keep_37 : decode cX8_keep 37 = .ok (.iload_n 1, 1) := by decide +kernel
theorem dX8_keep_38 : decode cX8_keep 38 = .ok (.iadd, 1) := by decide +kernel
theorem dX8_keep_39 : decode cX8_keep 39 = .ok (.iaload, 1) := by decide +kernel
theorem dX8_keep_40 : decode cX8_keep 40 = .ok (.iastore, 1) := by decide +kernel
theorem dX8_keep_41 : decode cX8_keep 41 = .ok (.iinc 1 1, 3) := by decide +kernel
theorem dX8_keep_44 : decode cX8_keep 44 = .ok (.goto (-30), 3) := by decide +kernel
theorem dX8_keep_47 : decode cX8_keep 47 = .ok (.aload_n 0, 1) := by decide +kernel
theorem dX8_keep_48 : decode cX8_keep 48 = .ok (.getfield 7, 3) := by decide +kernel
theorem dX8_keep_51 : decode cX8_keep 51 = .ok (.bipush 6, 2) := by decide +kernel
theorem dX8_keep_53 : decode cX8_keep 53 = .ok (.bipush 7, 2) := by decide +kernel
theorem dX8_keep_55 : decode cX8_keep 55 = .ok (.iastore, 1) := by decide +kernel
theorem dX8_keep_56 : decode cX8_keep 56 = .ok (.sipush 151, 3) := by decide +kernel
theorem dX8_keep_59 : decode cX8_keep 59 = .ok (.bipush 31, 2) := by decide +kernel
theorem dX8_keep_61 : decode cX8_keep 61 = .ok (.aload_n 0, 1) := by decide +kernel
theorem dX8_keep_62 : decode cX8_keep 62 = .ok (.getfield 7, 3) := by decide +kernel
theorem dX8_keep_65 : decode cX8_keep 65 = .ok (.bipush 6, 2) := by decide +kernel
theorem dX8_keep_67 : decode cX8_keep 67 = .ok (.iaload, 1) := by decide +kernel
theorem dX8_keep_68 : decode cX8_keep 68 = .ok (.imul, 1) := by decide +kernel
theorem dX8_keep_69 : decode cX8_keep 69 = .ok (.iadd, 1) := by decide +kernel
theorem dX8_keep_70 : decode cX8_keep 70 = .ok (.istore_n 1, 1) := by decide +kernel
theorem dX8_keep_71 : decode cX8_keep 71 = .ok (.aload_n 0, 1) := by decide +kernel
theorem dX8_keep_72 : decode cX8_keep 72 = .ok (.getfield 7, 3) := by decide +kernel
theorem dX8_keep_75 : decode cX8_keep 75 = .ok (.iload_n 1, 1) := by decide +kernel
theorem dX8_keep_76 : decode cX8_keep 76 = .ok (.aload_n 0, 1) := by decide +kernel
theorem dX8_keep_77 : decode cX8_keep 77 = .ok (.getfield 7, 3) := by decide +kernel
theorem dX8_keep_80 : decode cX8_keep 80 = .ok (.iconst 3, 1) := by decide +kernel
theorem dX8_keep_81 : decode cX8_keep 81 = .ok (.iaload, 1) := by decide +kernel
theorem dX8_keep_82 : decode cX8_keep 82 = .ok (.iastore, 1) := by decide +kernel
theorem dX8_keep_83 : decode cX8_keep 83 = .ok (.iconst 0, 1) := by decide +kernel
theorem dX8_keep_84 : decode cX8_keep 84 = .ok (.istore_n 2, 1) := by decide +kernel
theorem dX8_keep_85 : decode cX8_keep 85 = .ok (.iload_n 2, 1) := by decide +kernel
theorem dX8_keep_86 : decode cX8_keep 86 = .ok (.bipush 6, 2) := by decide +kernel
theorem dX8_keep_88 : decode cX8_keep 88 = .ok (.if_icmp .ge 62, 3) := by decide +kernel
theorem dX8_keep_91 : decode cX8_keep 91 = .ok (.aload_n 0, 1) := by decide +kernel
theorem dX8_keep_92 : decode cX8_keep 92 = .ok (.getfield 7, 3) := by decide +kernel
theorem dX8_keep_95 : decode cX8_keep 95 = .ok (.iload_n 1, 1) := by decide +kernel
theorem dX8_keep_96 : decode cX8_keep 96 = .ok (.iconst 1, 1) := by decide +kernel
theorem dX8_keep_97 : decode cX8_keep 97 = .ok (.iadd, 1) := by decide +kernel
theorem dX8_keep_98 : decode cX8_keep 98 = .ok (.iconst 5, 1) := by decide +kernel
theorem dX8_keep_99 : decode cX8_keep 99 = .ok (.iload_n 2, 1) := by decide +kernel
theorem dX8_keep_100 : decode cX8_keep 100 = .ok (.imul, 1) := by decide +kernel
theorem dX8_keep_101 : decode cX8_keep 101 = .ok (.iadd, 1) := by decide +kernel
theorem dX8_keep_102 : decode cX8_keep 102 = .ok (.aload_n 0, 1) := by decide +kernel
theorem dX8_keep_103 : decode cX8_keep 103 = .ok (.iload_n 2, 1) := by decide +kernel
theorem dX8_keep_104 : decode cX8_keep 104 = .ok (.iconst 1, 1) := by decide +kernel
theorem dX8_keep_105 : decode cX8_keep 105 = .ok (.invokevirtual 119, 3) := by decide +kernel
theorem dX8_keep_108 : decode cX8_keep 108 = .ok (.iastore, 1) := by decide +kernel
theorem dX8_keep_109 : decode cX8_keep 109 = .ok (.iconst 0, 1) := by decide +kernel
theorem dX8_keep_110 : decode cX8_keep 110 = .ok (.istore_n 3, 1) := by decide +kernel
theorem dX8_keep_111 : decode cX8_keep 111 = .ok (.iload_n 3, 1) := by decide +kernel
theorem dX8_keep_112 : decode cX8_keep 112 = .ok (.iconst 4, 1) := by decide +kernel
theorem dX8_keep_113 : decode cX8_keep 113 = .ok (.if_icmp .ge 31, 3) := by decide +kernel
theorem dX8_keep_116 : decode cX8_keep 116 = .ok (.aload_n 0, 1) := by decide +kernel
theorem dX8_keep_117 : decode cX8_keep 117 = .ok (.getfield 7, 3) := by decide +kernel
theorem dX8_keep_120 : decode cX8_keep 120 = .ok (.iload_n 1, 1) := by decide +kernel
theorem dX8_keep_121 : decode cX8_keep 121 = .ok (.iconst 2, 1) := by decide +kernel
theorem dX8_keep_122 : decode cX8_keep 122 = .ok (.iadd, 1) := by decide +kernel
theorem dX8_keep_123 : decode cX8_keep 123 = .ok (.iconst 5, 1) := by decide +kernel
theorem dX8_keep_124 : decode cX8_keep 124 = .ok (.iload_n 2, 1) := by decide +kernel
theorem dX8_keep_125 : decode cX8_keep 125 = .ok (.imul, 1) := by decide +kernel
theorem dX8_keep_126 : decode cX8_keep 126 = .ok (.iadd, 1) := by decide +kernel
theorem dX8_keep_127 : decode cX8_keep 127 = .ok (.iload_n 3, 1) := by decide +kernel
theorem dX8_keep_128 : decode cX8_keep 128 = .ok (.iadd, 1) := by decide +kernel
theorem dX8_keep_129 : decode cX8_keep 129 = .ok (.aload_n 0, 1) := by decide +kernel
theorem dX8_keep_130 : decode cX8_keep 130 = .ok (.iload_n 2, 1) := by decide +kernel
theorem dX8_keep_131 : decode cX8_keep 131 = .ok (.iconst 3, 1) := by decide +kernel
theorem dX8_keep_132 : decode cX8_keep 132 = .ok (.iload_n 3, 1) := by decide +kernel
theorem dX8_keep_133 : decode cX8_keep 133 = .ok (.iadd, 1) := by decide +kernel
theorem dX8_keep_134 : decode cX8_keep 134 = .ok (.invokevirtual 119, 3) := by decide +kernel
theorem dX8_keep_137 : decode cX8_keep 137 = .ok (.iastore, 1) := by decide +kernel
theorem dX8_keep_138 : decode cX8_keep 138 = .ok (.iinc 3 1, 3) := by decide +kernel
theorem dX8_keep_141 : decode cX8_keep 141 = .ok (.goto (-30), 3) := by decide +kernel
theorem dX8_keep_144 : decode cX8_keep 144 = .ok (.iinc 2 1, 3) := by decide +kernel
theorem dX8_keep_147 : decode cX8_keep 147 = .ok (.goto (-62), 3) := by decide +kernel
theorem dX8_keep_150 : decode cX8_keep 150 = .ok (.aload_n 0, 1) := by decide +kernel
theorem dX8_keep_151 : decode cX8_keep 151 = .ok (.getfield 7, 3) := by decide +kernel
theorem dX8_keep_154 : decode cX8_keep 154 = .ok (.bipush 6, 2) := by decide +kernel
theorem dX8_keep_156 : decode cX8_keep 156 = .ok (.dup2, 1) := by decide +kernel
theorem dX8_keep_157 : decode cX8_keep 157 = .ok (.iaload, 1) := by decide +kernel
theorem dX8_keep_158 : decode cX8_keep 158 = .ok (.iconst 1, 1) := by decide +kernel
theorem dX8_keep_159 : decode cX8_keep 159 = .ok (.iadd, 1) := by decide +kernel
theorem dX8_keep_160 : decode cX8_keep 160 = .ok (.iastore, 1) := by decide +kernel
theorem dX8_keep_161 : decode cX8_keep 161 = .ok (.return_, 1) := by decide +kernel
theorem dX8_move_0 : decode cX8_move 0 = .ok (.aload_n 0, 1) := by decide +kernel
theorem dX8_move_1 : decode cX8_move 1 = .ok (.iload_n 1, 1) := by decide +kernel
theorem dX8_move_2 : decode cX8_move 2 = .ok (.invokevirtual 137, 3) := by decide +kernel
theorem dX8_move_5 : decode cX8_move 5 = .ok (.ifCond .eq 10, 3) := by decide +kernel
theorem dX8_move_8 : decode cX8_move 8 = .ok (.iload_n 2, 1) := by decide +kernel
theorem dX8_move_9 : decode cX8_move 9 = .ok (.invokestatic 90, 3) := by decide +kernel
theorem dX8_move_12 : decode cX8_move 12 = .ok (.ifCond .ne 10, 3) := by decide +kernel
theorem dX8_move_15 : decode cX8_move 15 = .ok (.aload_n 0, 1) := by decide +kernel
theorem dX8_move_16 : decode cX8_move 16 = .ok (.bipush (-2), 2) := by decide +kernel
theorem dX8_move_18 : decode cX8_move 18 = .ok (.invokevirtual 86, 3) := by decide +kernel
theorem dX8_move_21 : decode cX8_move 21 = .ok (.ireturn, 1) := by decide +kernel
theorem dX8_move_22 : decode cX8_move 22 = .ok (.aload_n 0, 1) := by decide +kernel
theorem dX8_move_23 : decode cX8_move 23 = .ok (.aload_n 0, 1) := by decide +kernel
theorem dX8_move_24 : decode cX8_move 24 = .ok (.iload_n 1, 1) := by decide +kernel
theorem dX8_move_25 : decode cX8_move 25 = .ok (.iconst 1, 1) := by decide +kernel
theorem dX8_move_26 : decode cX8_move 26 = .ok (.invokevirtual 119, 3) := by decide +kernel
theorem dX8_move_29 : decode cX8_move 29 = .ok (.iload_n 2, 1) := by decide +kernel
theorem dX8_move_30 : decode cX8_move 30 = .ok (.invokevirtual 96, 3) := by decide +kernel
theorem dX8_move_33 : decode cX8_move 33 = .ok (.istore_n 3, 1) := by decide +kernel
theorem dX8_move_34 : decode cX8_move 34 = .ok (.aload_n 0, 1) := by decide +kernel
theorem dX8_move_35 : decode cX8_move 35 = .ok (.iload_n 1, 1) := by decide +kernel
theorem dX8_move_36 : decode cX8_move 36 = .ok (.iconst 4, 1) := by decide +kernel
theorem dX8_move_37 : decode cX8_move 37 = .ok (.invokevirtual 119, 3) := by decide +kernel
theorem dX8_move_40 : decode cX8_move 40 = .ok (.ifCond .ne 18, 3) := by decide +kernel
theorem dX8_move_43 : decode cX8_move 43 = .ok (.iload_n 3, 1) := by decide +kernel
theorem dX8_move_44 : decode cX8_move 44 = .ok (.ifCond .eq 14, 3) := by decide +kernel
theorem dX8_move_47 : decode cX8_move 47 = .ok (.aload_n 0, 1) := by decide +kernel
theorem dX8_move_48 : decode cX8_move 48 = .ok (.iload_n 1, 1) := by decide +kernel
theorem dX8_move_49 : decode cX8_move 49 = .ok (.bipush 6, 2) := by decide +kernel
theorem dX8_move_51 : decode cX8_move 51 = .ok (.invokevirtual 119, 3) := by decide +kernel
theorem dX8_move_54 : decode cX8_move 54 = .ok (.iconst 1, 1) := by decide +kernel
theorem dX8_move_55 : decode cX8_move 55 = .ok (.if_icmp .ne 8, 3) := by decide +kernel
theorem dX8_move_58 : decode cX8_move 58 = .ok (.aload_n 0, 1) := by decide +kernel
theorem dX8_move_59 : decode cX8_move 59 = .ok (.invokevirtual 140, 3) := by decide +kernel
theorem dX8_move_62 : decode cX8_move 62 = .ok (.ireturn, 1) := by decide +kernel
theorem dX8_move_63 : decode cX8_move 63 = .ok (.aload_n 0, 1) := by decide +kernel
theorem dX8_move_64 : decode cX8_move 64 = .ok (.invokevirtual 143, 3) := by decide +kernel
theorem dX8_move_67 : decode cX8_move 67 = .ok (.aload_n 0, 1) := by decide +kernel
theorem dX8_move_68 : decode cX8_move 68 = .ok (.iload_n 1, 1) := by decide +kernel
theorem dX8_move_69 : decode cX8_move 69 = .ok (.iconst 1, 1) := by decide +kernel
theorem dX8_move_70 : decode cX8_move 70 = .ok (.iload_n 2, 1) := by decide +kernel
theorem dX8_move_71 : decode cX8_move 71 = .ok (.invokevirtual 146, 3) := by decide +kernel
theorem dX8_move_74 : decode cX8_move 74 = .ok (.aload_n 0, 1) := by decide +kernel
theorem dX8_move_75 : decode cX8_move 75 = .ok (.iload_n 1, 1) := by decide +kernel
theorem dX8_move_76 : decode cX8_move 76 = .ok (.iconst 3, 1) := by decide +kernel
theorem dX8_move_77 : decode cX8_move 77 = .ok (.iconst 0, 1) := by decide +kernel
theorem dX8_move_78 : decode cX8_move 78 = .ok (.invokevirtual 146, 3) := by decide +kernel
theorem dX8_move_81 : decode cX8_move 81 = .ok (.aload_n 0, 1) := by decide +kernel
theorem dX8_move_82 : decode cX8_move 82 = .ok (.iload_n 1, 1) := by decide +kernel
theorem dX8_move_83 : decode cX8_move 83 = .ok (.bipush 6, 2) := by decide +kernel
theorem dX8_move_85 : decode cX8_move 85 = .ok (.iconst 1, 1) := by decide +kernel
theorem dX8_move_86 : decode cX8_move 86 = .ok (.invokevirtual 146, 3) := by decide +kernel
theorem dX8_move_89 : decode cX8_move 89 = .ok (.iload_n 3, 1) := by decide +kernel
theorem dX8_move_90 : decode cX8_move 90 = .ok (.ireturn, 1) := by decide +kernel
theorem dX8_night_0 : decode cX8_night 0 = .ok (.aload_n 0, 1) := by decide +kernel
theorem dX8_night_1 : decode cX8_night 1 = .ok (.invokevirtual 143, 3) := by decide +kernel
theorem dX8_night_4 : decode cX8_night 4 = .ok (.aload_n 0, 1) := by decide +kernel
theorem dX8_night_5 : decode cX8_night 5 = .ok (.invokevirtual 150, 3) := by decide +kernel
theorem dX8_night_8 : decode cX8_night 8 = .ok (.aload_n 0, 1) := by decide +kernel
theorem dX8_night_9 : decode cX8_night 9 = .ok (.invokevirtual 153, 3) := by decide +kernel
theorem dX8_night_12 : decode cX8_night 12 = .ok (.istore_n 1, 1) := by decide +kernel
theorem dX8_night_13 : decode cX8_night 13 = .ok (.aload_n 0, 1) := by decide +kernel
theorem dX8_night_14 : decode cX8_night 14 = .ok (.getfield 7, 3) := by decide +kernel
theorem dX8_night_17 : decode cX8_night 17 = .ok (.iconst 3, 1) := by decide +kernel
theorem dX8_night_18 : decode cX8_night 18 = .ok (.aload_n 0, 1) := by decide +kernel
theorem dX8_night_19 : decode cX8_night 19 = .ok (.getfield 112, 3) := by decide +kernel
theorem dX8_night_22 : decode cX8_night 22 = .ok (.iastore, 1) := by decide +kernel
theorem dX8_night_23 : decode cX8_night 23 = .ok (.iconst 0, 1) := by decide +kernel
theorem dX8_night_24 : decode cX8_night 24 = .ok (.istore_n 2, 1) := by decide +kernel
theorem dX8_night_25 : decode cX8_night 25 = .ok (.iload_n 2, 1) := by decide +kernel
theorem dX8_night_26 : decode cX8_night 26 = .ok (.aload_n 0, 1) := by decide +kernel
theorem dX8_night_27 : decode cX8_night 27 = .ok (.invokevirtual 74, 3) := by decide +kernel
theorem dX8_night_30 : decode cX8_night 30 = .ok (.if_icmp .ge 53, 3) := by decide +kernel
theorem dX8_night_33 : decode cX8_night 33 = .ok (.aload_n 0, 1) := by decide +kernel
theorem dX8_night_34 : decode cX8_night 34 = .ok (.iload_n 2, 1) := by decide +kernel
theorem dX8_night_35 : decode cX8_night 35 = .ok (.iconst 3, 1) := by decide +kernel
theorem dX8_night_36 : decode cX8_night 36 = .ok (.aload_n 0, 1) := by decide +kernel
theorem dX8_night_37 : decode cX8_night 37 = .ok (.getfield 30, 3) := by decide +kernel
theorem dX8_night_40 : decode cX8_night 40 = .ok (.iload_n 2, 1) := by decide +kernel
theorem dX8_night_41 : decode cX8_night 41 = .ok (.iaload, 1) := by decide +kernel
theorem dX8_night_42 : decode cX8_night 42 = .ok (.invokevirtual 146, 3) := by decide +kernel
theorem dX8_night_45 : decode cX8_night 45 = .ok (.aload_n 0, 1) := by decide +kernel
theorem dX8_night_46 : decode cX8_night 46 = .ok (.iload_n 2, 1) := by decide +kernel
theorem dX8_night_47 : decode cX8_night 47 = .ok (.iconst 4, 1) := by decide +kernel
theorem dX8_night_48 : decode cX8_night 48 = .ok (.aload_n 0, 1) := by decide +kernel
theorem dX8_night_49 : decode cX8_night 49 = .ok (.getfield 33, 3) := by decide +kernel
theorem dX8_night_52 : decode cX8_night 52 = .ok (.iload_n 2, 1) := by decide +kernel
theorem dX8_night_53 : decode cX8_night 53 = .ok (.iaload, 1) := by decide +kernel
theorem dX8_night_54 : decode cX8_night 54 = .ok (.invokevirtual 146, 3) := by decide +kernel
theorem dX8_night_57 : decode cX8_night 57 = .ok (.aload_n 0, 1) := by decide +kernel
theorem dX8_night_58 : decode cX8_night 58 = .ok (.iload_n 2, 1) := by decide +kernel
theorem dX8_night_59 : decode cX8_night 59 = .ok (.iconst 5, 1) := by decide +kernel
theorem dX8_night_60 : decode cX8_night 60 = .ok (.aload_n 0, 1) := by decide +kernel
theorem dX8_night_61 : decode cX8_night 61 = .ok (.getfield 36, 3) := by decide +kernel
theorem dX8_night_64 : decode cX8_night 64 = .ok (.iload_n 2, 1) := by decide +kernel
theorem dX8_night_65 : decode cX8_night 65 = .ok (.iaload, 1) := by decide +kernel
theorem dX8_night_66 : decode cX8_night 66 = .ok (.invokevirtual 146, 3) := by decide +kernel
theorem dX8_night_69 : decode cX8_night 69 = .ok (.aload_n 0, 1) := by decide +kernel
theorem dX8_night_70 : decode cX8_night 70 = .ok (.iload_n 2, 1) := by decide +kernel
theorem dX8_night_71 : decode cX8_night 71 = .ok (.bipush 6, 2) := by decide +kernel
theorem dX8_night_73 : decode cX8_night 73 = .ok (.iconst 0, 1) := by decide +kernel
theorem dX8_night_74 : decode cX8_night 74 = .ok (.invokevirtual 146, 3) := by decide +kernel
theorem dX8_night_77 : decode cX8_night 77 = .ok (.iinc 2 1, 3) := by decide +kernel
theorem dX8_night_80 : decode cX8_night 80 = .ok (.goto (-55), 3) := by decide +kernel
theorem dX8_night_83 : decode cX8_night 83 = .ok (.iload_n 1, 1) := by decide +kernel
theorem dX8_night_84 : decode cX8_night 84 = .ok (.ireturn, 1) := by decide +kernel
theorem dX8_undo_0 : decode cX8_undo 0 = .ok (.aload_n 0, 1) := by decide +kernel
theorem dX8_undo_1 : decode cX8_undo 1 = .ok (.getfield 7, 3) := by decide +kernel
theorem dX8_undo_4 : decode cX8_undo 4 = .ok (.bipush 6, 2) := by decide +kernel
theorem dX8_undo_6 : decode cX8_undo 6 = .ok (.iaload, 1) := by decide +kernel
theorem dX8_undo_7 : decode cX8_undo 7 = .ok (.ifCond .ne 8, 3) := by decide +kernel
theorem dX8_undo_10 : decode cX8_undo 10 = .ok (.aload_n 0, 1) := by decide +kernel
theorem dX8_undo_11 : decode cX8_undo 11 = .ok (.invokevirtual 140, 3) := by decide +kernel
theorem dX8_undo_14 : decode cX8_undo 14 = .ok (.ireturn, 1) := by decide +kernel
theorem dX8_undo_15 : decode cX8_undo 15 = .ok (.aload_n 0, 1) := by decide +kernel
theorem dX8_undo_16 : decode cX8_undo 16 = .ok (.getfield 7, 3) := by decide +kernel
theorem dX8_undo_19 : decode cX8_undo 19 = .ok (.bipush 6, 2) := by decide +kernel
theorem dX8_undo_21 : decode cX8_undo 21 = .ok (.dup2, 1) := by decide +kernel
theorem dX8_undo_22 : decode cX8_undo 22 = .ok (.iaload, 1) := by decide +kernel
theorem dX8_undo_23 : decode cX8_undo 23 = .ok (.iconst 1, 1) := by decide +kernel
theorem dX8_undo_24 : decode cX8_undo 24 = .ok (.isub, 1) := by decide +kernel
theorem dX8_undo_25 : decode cX8_undo 25 = .ok (.iastore, 1) := by decide +kernel
theorem dX8_undo_26 : decode cX8_undo 26 = .ok (.sipush 151, 3) := by decide +kernel
theorem dX8_undo_29 : decode cX8_undo 29 = .ok (.bipush 31, 2) := by decide +kernel
theorem dX8_undo_31 : decode cX8_undo 31 = .ok (.aload_n 0, 1) := by decide +kernel
theorem dX8_undo_32 : decode cX8_undo 32 = .ok (.getfield 7, 3) := by decide +kernel
theorem dX8_undo_35 : decode cX8_undo 35 = .ok (.bipush 6, 2) := by decide +kernel
theorem dX8_undo_37 : decode cX8_undo 37 = .ok (.iaload, 1) := by decide +kernel
theorem dX8_undo_38 : decode cX8_undo 38 = .ok (.imul, 1) := by decide +kernel
theorem dX8_undo_39 : decode cX8_undo 39 = .ok (.iadd, 1) := by decide +kernel
theorem dX8_undo_40 : decode cX8_undo 40 = .ok (.istore_n 1, 1) := by decide +kernel
theorem dX8_undo_41 : decode cX8_undo 41 = .ok (.aload_n 0, 1) := by decide +kernel
theorem dX8_undo_42 : decode cX8_undo 42 = .ok (.getfield 7, 3) := by decide +kernel
theorem dX8_undo_45 : decode cX8_undo 45 = .ok (.iconst 3, 1) := by decide +kernel
theorem dX8_undo_46 : decode cX8_undo 46 = .ok (.aload_n 0, 1) := by decide +kernel
theorem dX8_undo_47 : decode cX8_undo 47 = .ok (.getfield 7, 3) := by decide +kernel
theorem dX8_undo_50 : decode cX8_undo 50 = .ok (.iload_n 1, 1) := by decide +kernel
theorem dX8_undo_51 : decode cX8_undo 51 = .ok (.iaload, 1) := by decide +kernel
theorem dX8_undo_52 : decode cX8_undo 52 = .ok (.iastore, 1) := by decide +kernel
theorem dX8_undo_53 : decode cX8_undo 53 = .ok (.iconst 0, 1) := by decide +kernel
theorem dX8_undo_54 : decode cX8_undo 54 = .ok (.istore_n 2, 1) := by decide +kernel
theorem dX8_undo_55 : decode cX8_undo 55 = .ok (.iload_n 2, 1) := by decide +kernel
theorem dX8_undo_56 : decode cX8_undo 56 = .ok (.bipush 6, 2) := by decide +kernel
theorem dX8_undo_58 : decode cX8_undo 58 = .ok (.if_icmp .ge 62, 3) := by decide +kernel
theorem dX8_undo_61 : decode cX8_undo 61 = .ok (.aload_n 0, 1) := by decide +kernel
theorem dX8_undo_62 : decode cX8_undo 62 = .ok (.iload_n 2, 1) := by decide +kernel
theorem dX8_undo_63 : decode cX8_undo 63 = .ok (.iconst 1, 1) := by decide +kernel
theorem dX8_undo_64 : decode cX8_undo 64 = .ok (.aload_n 0, 1) := by decide +kernel
theorem dX8_undo_65 : decode cX8_undo 65 = .ok (.getfield 7, 3) := by decide +kernel
theorem dX8_undo_68 : decode cX8_undo 68 = .ok (.iload_n 1, 1) := by decide +kernel
theorem dX8_undo_69 : decode cX8_undo 69 = .ok (.iconst 1, 1) := by decide +kernel
theorem dX8_undo_70 : decode cX8_undo 70 = .ok (.iadd, 1) := by decide +kernel
theorem dX8_undo_71 : decode cX8_undo 71 = .ok (.iconst 5, 1) := by decide +kernel
theorem dX8_undo_72 : decode cX8_undo 72 = .ok (.iload_n 2, 1) := by decide +kernel
theorem dX8_undo_73 : decode cX8_undo 73 = .ok (.imul, 1) := by decide +kernel
theorem dX8_undo_74 : decode cX8_undo 74 = .ok (.iadd, 1) := by decide +kernel
theorem dX8_undo_75 : decode cX8_undo 75 = .ok (.iaload, 1) := by decide +kernel
theorem dX8_undo_76 : decode cX8_undo 76 = .ok (.invokevirtual 146, 3) := by decide +kernel
theorem dX8_undo_79 : decode cX8_undo 79 = .ok (.iconst 0, 1) := by decide +kernel
theorem dX8_undo_80 : decode cX8_undo 80 = .ok (.istore_n 3, 1) := by decide +kernel
theorem dX8_undo_81 : decode cX8_undo 81 = .ok (.iload_n 3, 1) := by decide +kernel
theorem dX8_undo_82 : decode cX8_undo 82 = .ok (.iconst 4, 1) := by decide +kernel
theorem dX8_undo_83 : decode cX8_undo 83 = .ok (.if_icmp .ge 31, 3) := by decide +kernel
theorem dX8_undo_86 : decode cX8_undo 86 = .ok (.aload_n 0, 1) := by decide +kernel
theorem dX8_undo_87 : decode cX8_undo 87 = .ok (.iload_n 2, 1) := by decide +kernel
theorem dX8_undo_88 : decode cX8_undo 88 = .ok (.iconst 3, 1) := by decide +kernel
theorem dX8_undo_89 : decode cX8_undo 89 = .ok (.iload_n 3, 1) := by decide +kernel
theorem dX8_undo_90 : decode cX8_undo 90 = .ok (.iadd, 1) := by decide +kernel
theorem dX8_undo_91 : decode cX8_undo 91 = .ok (.aload_n 0, 1) := by decide +kernel
theorem dX8_undo_92 : decode cX8_undo 92 = .ok (.getfield 7, 3) := by decide +kernel
theorem dX8_undo_95 : decode cX8_undo 95 = .ok (.iload_n 1, 1) := by decide +kernel
theorem dX8_undo_96 : decode cX8_undo 96 = .ok (.iconst 2, 1) := by decide +kernel
theorem dX8_undo_97 : decode cX8_undo 97 = .ok (.iadd, 1) := by decide +kernel
theorem dX8_undo_98 : decode cX8_undo 98 = .ok (.iconst 5, 1) := by decide +kernel
theorem dX8_undo_99 : decode cX8_undo 99 = .ok (.iload_n 2, 1) := by decide +kernel
theorem dX8_undo_100 : decode cX8_undo 100 = .ok (.imul, 1) := by decide +kernel
theorem dX8_undo_101 : decode cX8_undo 101 = .ok (.iadd, 1) := by decide +kernel
theorem dX8_undo_102 : decode cX8_undo 102 = .ok (.iload_n 3, 1) := by decide +kernel
theorem dX8_undo_103 : decode cX8_undo 103 = .ok (.iadd, 1) := by decide +kernel
theorem dX8_undo_104 : decode cX8_undo 104 = .ok (.iaload, 1) := by decide +kernel
theorem dX8_undo_105 : decode cX8_undo 105 = .ok (.invokevirtual 146, 3) := by decide +kernel
theorem dX8_undo_108 : decode cX8_undo 108 = .ok (.iinc 3 1, 3) := by decide +kernel
theorem dX8_undo_111 : decode cX8_undo 111 = .ok (.goto (-30), 3) := by decide +kernel
theorem dX8_undo_114 : decode cX8_undo 114 = .ok (.iinc 2 1, 3) := by decide +kernel
theorem dX8_undo_117 : decode cX8_undo 117 = .ok (.goto (-62), 3) := by decide +kernel
theorem dX8_undo_120 : decode cX8_undo 120 = .ok (.aload_n 0, 1) := by decide +kernel
theorem dX8_undo_121 : decode cX8_undo 121 = .ok (.getfield 7, 3) := by decide +kernel
theorem dX8_undo_124 : decode cX8_undo 124 = .ok (.iconst 3, 1) := by decide +kernel
theorem dX8_undo_125 : decode cX8_undo 125 = .ok (.iaload, 1) := by decide +kernel
theorem dX8_undo_126 : decode cX8_undo 126 = .ok (.ireturn, 1) := by decide +kernel
theorem dX8_of_0 : decode cX8_of 0 = .ok (.aload_n 0, 1) := by decide +kernel
theorem dX8_of_1 : decode cX8_of 1 = .ok (.iload_n 1, 1) := by decide +kernel
theorem dX8_of_2 : decode cX8_of 2 = .ok (.invokevirtual 137, 3) := by decide +kernel
theorem dX8_of_5 : decode cX8_of 5 = .ok (.ifCond .eq 15, 3) := by decide +kernel
theorem dX8_of_8 : decode cX8_of 8 = .ok (.iload_n 2, 1) := by decide +kernel
theorem dX8_of_9 : decode cX8_of 9 = .ok (.i2l, 1) := by decide +kernel
theorem dX8_of_10 : decode cX8_of 10 = .ok (.lconst 0, 1) := by decide +kernel
theorem dX8_of_11 : decode cX8_of 11 = .ok (.ldc2_w 156, 3) := by decide +kernel
theorem dX8_of_14 : decode cX8_of 14 = .ok (.invokestatic 78, 3) := by decide +kernel
theorem dX8_of_17 : decode cX8_of 17 = .ok (.ifCond .ne 10, 3) := by decide +kernel
theorem dX8_of_20 : decode cX8_of 20 = .ok (.aload_n 0, 1) := by decide +kernel
theorem dX8_of_21 : decode cX8_of 21 = .ok (.bipush (-2), 2) := by decide +kernel
theorem dX8_of_23 : decode cX8_of 23 = .ok (.invokevirtual 86, 3) := by decide +kernel
theorem dX8_of_26 : decode cX8_of 26 = .ok (.ireturn, 1) := by decide +kernel
theorem dX8_of_27 : decode cX8_of 27 = .ok (.aload_n 0, 1) := by decide +kernel
theorem dX8_of_28 : decode cX8_of 28 = .ok (.invokevirtual 150, 3) := by decide +kernel
theorem dX8_of_31 : decode cX8_of 31 = .ok (.iload_n 2, 1) := by decide +kernel
theorem dX8_of_32 : decode cX8_of 32 = .ok (.iconst 4, 1) := by decide +kernel
theorem dX8_of_33 : decode cX8_of 33 = .ok (.if_icmp .ge 12, 3) := by decide +kernel
theorem dX8_of_36 : decode cX8_of 36 = .ok (.aload_n 0, 1) := by decide +kernel
theorem dX8_of_37 : decode cX8_of 37 = .ok (.iload_n 1, 1) := by decide +kernel
theorem dX8_of_38 : decode cX8_of 38 = .ok (.iload_n 2, 1) := by decide +kernel
theorem dX8_of_39 : decode cX8_of 39 = .ok (.invokevirtual 119, 3) := by decide +kernel
theorem dX8_of_42 : decode cX8_of 42 = .ok (.goto 24, 3) := by decide +kernel
theorem dX8_of_45 : decode cX8_of 45 = .ok (.iload_n 2, 1) := by decide +kernel
theorem dX8_of_46 : decode cX8_of 46 = .ok (.iconst 4, 1) := by decide +kernel
theorem dX8_of_47 : decode cX8_of 47 = .ok (.if_icmp .ne 11, 3) := by decide +kernel
theorem dX8_of_50 : decode cX8_of 50 = .ok (.aload_n 0, 1) := by decide +kernel
theorem dX8_of_51 : decode cX8_of 51 = .ok (.iload_n 1, 1) := by decide +kernel
theorem dX8_of_52 : decode cX8_of 52 = .ok (.invokevirtual 134, 3) := by decide +kernel
theorem dX8_of_55 : decode cX8_of 55 = .ok (.goto 11, 3) := by decide +kernel
theorem dX8_of_58 : decode cX8_of 58 = .ok (.aload_n 0, 1) := by decide +kernel
theorem dX8_of_59 : decode cX8_of 59 = .ok (.iload_n 1, 1) := by decide +kernel
theorem dX8_of_60 : decode cX8_of 60 = .ok (.iload_n 2, 1) := by decide +kernel
theorem dX8_of_61 : decode cX8_of 61 = .ok (.iconst 1, 1) := by decide +kernel
theorem dX8_of_62 : decode cX8_of 62 = .ok (.isub, 1) := by decide +kernel
theorem dX8_of_63 : decode cX8_of 63 = .ok (.invokevirtual 119, 3) := by decide +kernel
theorem dX8_of_66 : decode cX8_of 66 = .ok (.ireturn, 1) := by decide +kernel
theorem dX8_looks_0 : decode cX8_looks 0 = .ok (.iload_n 1, 1) := by decide +kernel
theorem dX8_looks_1 : decode cX8_looks 1 = .ok (.i2l, 1) := by decide +kernel
theorem dX8_looks_2 : decode cX8_looks 2 = .ok (.lconst 0, 1) := by decide +kernel
theorem dX8_looks_3 : decode cX8_looks 3 = .ok (.ldc2_w 158, 3) := by decide +kernel
theorem dX8_looks_6 : decode cX8_looks 6 = .ok (.invokestatic 78, 3) := by decide +kernel
theorem dX8_looks_9 : decode cX8_looks 9 = .ok (.ifCond .eq 11, 3) := by decide +kernel
theorem dX8_looks_12 : decode cX8_looks 12 = .ok (.aload_n 0, 1) := by decide +kernel
theorem dX8_looks_13 : decode cX8_looks 13 = .ok (.iload_n 1, 1) := by decide +kernel
theorem dX8_looks_14 : decode cX8_looks 14 = .ok (.invokevirtual 131, 3) := by decide +kernel
theorem dX8_looks_17 : decode cX8_looks 17 = .ok (.goto 9, 3) := by decide +kernel
theorem dX8_looks_20 : decode cX8_looks 20 = .ok (.aload_n 0, 1) := by decide +kernel
theorem dX8_looks_21 : decode cX8_looks 21 = .ok (.bipush (-2), 2) := by decide +kernel
theorem dX8_looks_23 : decode cX8_looks 23 = .ok (.invokevirtual 86, 3) := by decide +kernel
theorem dX8_looks_26 : decode cX8_looks 26 = .ok (.ireturn, 1) := by decide +kernel
theorem dX8_byThen_0 : decode cX8_byThen 0 = .ok (.aload_n 0, 1) := by decide +kernel
theorem dX8_byThen_1 : decode cX8_byThen 1 = .ok (.iload_n 1, 1) := by decide +kernel
theorem dX8_byThen_2 : decode cX8_byThen 2 = .ok (.invokevirtual 137, 3) := by decide +kernel
theorem dX8_byThen_5 : decode cX8_byThen 5 = .ok (.ifCond .eq 25, 3) := by decide +kernel
theorem dX8_byThen_8 : decode cX8_byThen 8 = .ok (.iload_n 2, 1) := by decide +kernel
theorem dX8_byThen_9 : decode cX8_byThen 9 = .ok (.i2l, 1) := by decide +kernel
theorem dX8_byThen_10 : decode cX8_byThen 10 = .ok (.lconst 1, 1) := by decide +kernel
theorem dX8_byThen_11 : decode cX8_byThen 11 = .ok (.ldc2_w 160, 3) := by decide +kernel
theorem dX8_byThen_14 : decode cX8_byThen 14 = .ok (.invokestatic 78, 3) := by decide +kernel
theorem dX8_byThen_17 : decode cX8_byThen 17 = .ok (.ifCond .eq 13, 3) := by decide +kernel
theorem dX8_byThen_20 : decode cX8_byThen 20 = .ok (.iload_n 3, 1) := by decide +kernel
theorem dX8_byThen_21 : decode cX8_byThen 21 = .ok (.i2l, 1) := by decide +kernel
theorem dX8_byThen_22 : decode cX8_byThen 22 = .ok (.lconst 0, 1) := by decide +kernel
theorem dX8_byThen_23 : decode cX8_byThen 23 = .ok (.lconst 1, 1) := by decide +kernel
theorem dX8_byThen_24 : decode cX8_byThen 24 = .ok (.invokestatic 78, 3) := by decide +kernel
theorem dX8_byThen_27 : decode cX8_byThen 27 = .ok (.ifCond .ne 10, 3) := by decide +kernel
theorem dX8_byThen_30 : decode cX8_byThen 30 = .ok (.aload_n 0, 1) := by decide +kernel
theorem dX8_byThen_31 : decode cX8_byThen 31 = .ok (.bipush (-2), 2) := by decide +kernel
theorem dX8_byThen_33 : decode cX8_byThen 33 = .ok (.invokevirtual 86, 3) := by decide +kernel
theorem dX8_byThen_36 : decode cX8_byThen 36 = .ok (.ireturn, 1) := by decide +kernel
theorem dX8_byThen_37 : decode cX8_byThen 37 = .ok (.aload_n 0, 1) := by decide +kernel
theorem dX8_byThen_38 : decode cX8_byThen 38 = .ok (.invokevirtual 150, 3) := by decide +kernel
theorem dX8_byThen_41 : decode cX8_byThen 41 = .ok (.iconst 0, 1) := by decide +kernel
theorem dX8_byThen_42 : decode cX8_byThen 42 = .ok (.istore 4, 2) := by decide +kernel
theorem dX8_byThen_44 : decode cX8_byThen 44 = .ok (.iload 4, 2) := by decide +kernel
theorem dX8_byThen_46 : decode cX8_byThen 46 = .ok (.iload_n 2, 1) := by decide +kernel
theorem dX8_byThen_47 : decode cX8_byThen 47 = .ok (.if_icmp .ge 15, 3) := by decide +kernel
theorem dX8_byThen_50 : decode cX8_byThen 50 = .ok (.aload_n 0, 1) := by decide +kernel
theorem dX8_byThen_51 : decode cX8_byThen 51 = .ok (.invokevirtual 153, 3) := by decide +kernel
theorem dX8_byThen_54 : decode cX8_byThen 54 = .ok (.istore 5, 2) := by decide +kernel
theorem dX8_byThen_56 : decode cX8_byThen 56 = .ok (.iinc 4 1, 3) := by decide +kernel
theorem dX8_byThen_59 : decode cX8_byThen 59 = .ok (.goto (-15), 3) := by decide +kernel
theorem dX8_byThen_62 : decode cX8_byThen 62 = .ok (.iload_n 3, 1) := by decide +kernel
theorem dX8_byThen_63 : decode cX8_byThen 63 = .ok (.ifCond .ne 12, 3) := by decide +kernel
theorem dX8_byThen_66 : decode cX8_byThen 66 = .ok (.aload_n 0, 1) := by decide +kernel
theorem dX8_byThen_67 : decode cX8_byThen 67 = .ok (.getfield 33, 3) := by decide +kernel
theorem dX8_byThen_70 : decode cX8_byThen 70 = .ok (.iload_n 1, 1) := by decide +kernel
theorem dX8_byThen_71 : decode cX8_byThen 71 = .ok (.iaload, 1) := by decide +kernel
theorem dX8_byThen_72 : decode cX8_byThen 72 = .ok (.goto 9, 3) := by decide +kernel
theorem dX8_byThen_75 : decode cX8_byThen 75 = .ok (.aload_n 0, 1) := by decide +kernel
theorem dX8_byThen_76 : decode cX8_byThen 76 = .ok (.getfield 36, 3) := by decide +kernel
theorem dX8_byThen_79 : decode cX8_byThen 79 = .ok (.iload_n 1, 1) := by decide +kernel
theorem dX8_byThen_80 : decode cX8_byThen 80 = .ok (.iaload, 1) := by decide +kernel
theorem dX8_byThen_81 : decode cX8_byThen 81 = .ok (.ireturn, 1) := by decide +kernel
theorem dX8_goTill_0 : decode cX8_goTill 0 = .ok (.iconst 0, 1) := by decide +kernel
theorem dX8_goTill_1 : decode cX8_goTill 1 = .ok (.istore_n 1, 1) := by decide +kernel
theorem dX8_goTill_2 : decode cX8_goTill 2 = .ok (.iconst 0, 1) := by decide +kernel
theorem dX8_goTill_3 : decode cX8_goTill 3 = .ok (.istore_n 2, 1) := by decide +kernel
theorem dX8_goTill_4 : decode cX8_goTill 4 = .ok (.iload_n 2, 1) := by decide +kernel
theorem dX8_goTill_5 : decode cX8_goTill 5 = .ok (.bipush 60, 2) := by decide +kernel
theorem dX8_goTill_7 : decode cX8_goTill 7 = .ok (.if_icmp .ge 18, 3) := by decide +kernel
theorem dX8_goTill_10 : decode cX8_goTill 10 = .ok (.iload_n 1, 1) := by decide +kernel
theorem dX8_goTill_11 : decode cX8_goTill 11 = .ok (.ifCond .ne 14, 3) := by decide +kernel
theorem dX8_goTill_14 : decode cX8_goTill 14 = .ok (.aload_n 0, 1) := by decide +kernel
theorem dX8_goTill_15 : decode cX8_goTill 15 = .ok (.invokevirtual 153, 3) := by decide +kernel
theorem dX8_goTill_18 : decode cX8_goTill 18 = .ok (.istore_n 1, 1) := by decide +kernel
theorem dX8_goTill_19 : decode cX8_goTill 19 = .ok (.iinc 2 1, 3) := by decide +kernel
theorem dX8_goTill_22 : decode cX8_goTill 22 = .ok (.goto (-18), 3) := by decide +kernel
theorem dX8_goTill_25 : decode cX8_goTill 25 = .ok (.iload_n 1, 1) := by decide +kernel
theorem dX8_goTill_26 : decode cX8_goTill 26 = .ok (.ireturn, 1) := by decide +kernel
theorem dX8_first_0 : decode cX8_first 0 = .ok (.iload_n 1, 1) := by decide +kernel
theorem dX8_first_1 : decode cX8_first 1 = .ok (.i2l, 1) := by decide +kernel
theorem dX8_first_2 : decode cX8_first 2 = .ok (.lconst 0, 1) := by decide +kernel
theorem dX8_first_3 : decode cX8_first 3 = .ok (.lconst 1, 1) := by decide +kernel
theorem dX8_first_4 : decode cX8_first 4 = .ok (.invokestatic 78, 3) := by decide +kernel
theorem dX8_first_7 : decode cX8_first 7 = .ok (.ifCond .ne 10, 3) := by decide +kernel
theorem dX8_first_10 : decode cX8_first 10 = .ok (.aload_n 0, 1) := by decide +kernel
theorem dX8_first_11 : decode cX8_first 11 = .ok (.bipush (-2), 2) := by decide +kernel
theorem dX8_first_13 : decode cX8_first 13 = .ok (.invokevirtual 86, 3) := by decide +kernel
theorem dX8_first_16 : decode cX8_first 16 = .ok (.ireturn, 1) := by decide +kernel
theorem dX8_first_17 : decode cX8_first 17 = .ok (.aload_n 0, 1) := by decide +kernel
theorem dX8_first_18 : decode cX8_first 18 = .ok (.invokevirtual 150, 3) := by decide +kernel
theorem dX8_first_21 : decode cX8_first 21 = .ok (.aload_n 0, 1) := by decide +kernel
theorem dX8_first_22 : decode cX8_first 22 = .ok (.invokevirtual 162, 3) := by decide +kernel
theorem dX8_first_25 : decode cX8_first 25 = .ok (.istore_n 2, 1) := by decide +kernel
theorem dX8_first_26 : decode cX8_first 26 = .ok (.iload_n 2, 1) := by decide +kernel
theorem dX8_first_27 : decode cX8_first 27 = .ok (.ifCond .ne 7, 3) := by decide +kernel
theorem dX8_first_30 : decode cX8_first 30 = .ok (.iconst (-1), 1) := by decide +kernel
theorem dX8_first_31 : decode cX8_first 31 = .ok (.goto 17, 3) := by decide +kernel
theorem dX8_first_34 : decode cX8_first 34 = .ok (.iload_n 1, 1) := by decide +kernel
theorem dX8_first_35 : decode cX8_first 35 = .ok (.ifCond .ne 12, 3) := by decide +kernel
theorem dX8_first_38 : decode cX8_first 38 = .ok (.aload_n 0, 1) := by decide +kernel
theorem dX8_first_39 : decode cX8_first 39 = .ok (.getfield 112, 3) := by decide +kernel
theorem dX8_first_42 : decode cX8_first 42 = .ok (.iconst 1, 1) := by decide +kernel
theorem dX8_first_43 : decode cX8_first 43 = .ok (.isub, 1) := by decide +kernel
theorem dX8_first_44 : decode cX8_first 44 = .ok (.goto 4, 3) := by decide +kernel
theorem dX8_first_47 : decode cX8_first 47 = .ok (.iload_n 2, 1) := by decide +kernel
theorem dX8_first_48 : decode cX8_first 48 = .ok (.ireturn, 1) := by decide +kernel
theorem dX8_passed_0 : decode cX8_passed 0 = .ok (.iconst 0, 1) := by decide +kernel
theorem dX8_passed_1 : decode cX8_passed 1 = .ok (.istore_n 1, 1) := by decide +kernel
theorem dX8_passed_2 : decode cX8_passed 2 = .ok (.aload_n 0, 1) := by decide +kernel
theorem dX8_passed_3 : decode cX8_passed 3 = .ok (.aload_n 0, 1) := by decide +kernel
theorem dX8_passed_4 : decode cX8_passed 4 = .ok (.getfield 7, 3) := by decide +kernel
theorem dX8_passed_7 : decode cX8_passed 7 = .ok (.iconst 3, 1) := by decide +kernel
theorem dX8_passed_8 : decode cX8_passed 8 = .ok (.iaload, 1) := by decide +kernel
theorem dX8_passed_9 : decode cX8_passed 9 = .ok (.invokevirtual 131, 3) := by decide +kernel
theorem dX8_passed_12 : decode cX8_passed 12 = .ok (.istore_n 2, 1) := by decide +kernel
theorem dX8_passed_13 : decode cX8_passed 13 = .ok (.aload_n 0, 1) := by decide +kernel
theorem dX8_passed_14 : decode cX8_passed 14 = .ok (.invokevirtual 150, 3) := by decide +kernel
theorem dX8_passed_17 : decode cX8_passed 17 = .ok (.iconst 0, 1) := by decide +kernel
theorem dX8_passed_18 : decode cX8_passed 18 = .ok (.istore_n 3, 1) := by decide +kernel
theorem dX8_passed_19 : decode cX8_passed 19 = .ok (.iload_n 3, 1) := by decide +kernel
theorem dX8_passed_20 : decode cX8_passed 20 = .ok (.aload_n 0, 1) := by decide +kernel
theorem dX8_passed_21 : decode cX8_passed 21 = .ok (.invokevirtual 74, 3) := by decide +kernel
theorem dX8_passed_24 : decode cX8_passed 24 = .ok (.if_icmp .ge 77, 3) := by decide +kernel
theorem dX8_passed_27 : decode cX8_passed 27 = .ok (.aload_n 0, 1) := by decide +kernel
theorem dX8_passed_28 : decode cX8_passed 28 = .ok (.iload_n 3, 1) := by decide +kernel
theorem dX8_passed_29 : decode cX8_passed 29 = .ok (.invokevirtual 134, 3) := by decide +kernel
theorem dX8_passed_32 : decode cX8_passed 32 = .ok (.istore 4, 2) := by decide +kernel
theorem dX8_passed_34 : decode cX8_passed 34 = .ok (.aload_n 0, 1) := by decide +kernel
theorem dX8_passed_35 : decode cX8_passed 35 = .ok (.getfield 33, 3) := by decide +kernel
theorem dX8_passed_38 : decode cX8_passed 38 = .ok (.iload_n 3, 1) := by decide +kernel
theorem dX8_passed_39 : decode cX8_passed 39 = .ok (.iaload, 1) := by decide +kernel
theorem dX8_passed_40 : decode cX8_passed 40 = .ok (.ifCond .ne 37, 3) := by decide +kernel
theorem dX8_passed_43 : decode cX8_passed 43 = .ok (.aload_n 0, 1) := by decide +kernel
theorem dX8_passed_44 : decode cX8_passed 44 = .ok (.getfield 27, 3) := by decide +kernel
theorem dX8_passed_47 : decode cX8_passed 47 = .ok (.iload_n 3, 1) := by decide +kernel
theorem dX8_passed_48 : decode cX8_passed 48 = .ok (.iaload, 1) := by decide +kernel
theorem dX8_passed_49 : decode cX8_passed 49 = .ok (.iload_n 2, 1) := by decide +kernel
theorem dX8_passed_50 : decode cX8_passed 50 = .ok (.if_icmp .ne 27, 3) := by decide +kernel
theorem dX8_passed_53 : decode cX8_passed 53 = .ok (.iload 4, 2) := by decide +kernel
theorem dX8_passed_55 : decode cX8_passed 55 = .ok (.aload_n 0, 1) := by decide +kernel
theorem dX8_passed_56 : decode cX8_passed 56 = .ok (.getfield 7, 3) := by decide +kernel
theorem dX8_passed_59 : decode cX8_passed 59 = .ok (.iconst 2, 1) := by decide +kernel
theorem dX8_passed_60 : decode cX8_passed 60 = .ok (.iaload, 1) := by decide +kernel
theorem dX8_passed_61 : decode cX8_passed 61 = .ok (.if_icmp .lt 16, 3) := by decide +kernel
theorem dX8_passed_64 : decode cX8_passed 64 = .ok (.iload 4, 2) := by decide +kernel
theorem dX8_passed_66 : decode cX8_passed 66 = .ok (.aload_n 0, 1) := by decide +kernel
theorem dX8_passed_67 : decode cX8_passed 67 = .ok (.getfield 116, 3) := by decide +kernel
theorem dX8_passed_70 : decode cX8_passed 70 = .ok (.if_icmp .lt 7, 3) := by decide +kernel
theorem dX8_passed_73 : decode cX8_passed 73 = .ok (.iconst 1, 1) := by decide +kernel
theorem dX8_passed_74 : decode cX8_passed 74 = .ok (.goto 4, 3) := by decide +kernel
theorem dX8_passed_77 : decode cX8_passed 77 = .ok (.iconst 0, 1) := by decide +kernel
theorem dX8_passed_78 : decode cX8_passed 78 = .ok (.istore 5, 2) := by decide +kernel
theorem dX8_passed_80 : decode cX8_passed 80 = .ok (.iload_n 1, 1) := by decide +kernel
theorem dX8_passed_81 : decode cX8_passed 81 = .ok (.iload 5, 2) := by decide +kernel
theorem dX8_passed_83 : decode cX8_passed 83 = .ok (.ifCond .eq 9, 3) := by decide +kernel
theorem dX8_passed_86 : decode cX8_passed 86 = .ok (.iconst 1, 1) := by decide +kernel
theorem dX8_passed_87 : decode cX8_passed 87 = .ok (.iload_n 3, 1) := by decide +kernel
theorem dX8_passed_88 : decode cX8_passed 88 = .ok (.ishl, 1) := by decide +kernel
theorem dX8_passed_89 : decode cX8_passed 89 = .ok (.goto 4, 3) := by decide +kernel
theorem dX8_passed_92 : decode cX8_passed 92 = .ok (.iconst 0, 1) := by decide +kernel
theorem dX8_passed_93 : decode cX8_passed 93 = .ok (.ior, 1) := by decide +kernel
theorem dX8_passed_94 : decode cX8_passed 94 = .ok (.istore_n 1, 1) := by decide +kernel
theorem dX8_passed_95 : decode cX8_passed 95 = .ok (.iinc 3 1, 3) := by decide +kernel
theorem dX8_passed_98 : decode cX8_passed 98 = .ok (.goto (-79), 3) := by decide +kernel
theorem dX8_passed_101 : decode cX8_passed 101 = .ok (.iload_n 1, 1) := by decide +kernel
theorem dX8_passed_102 : decode cX8_passed 102 = .ok (.ireturn, 1) := by decide +kernel
theorem dX8_foundIn_0 : decode cX8_foundIn 0 = .ok (.iconst 0, 1) := by decide +kernel
theorem dX8_foundIn_1 : decode cX8_foundIn 1 = .ok (.istore_n 2, 1) := by decide +kernel
theorem dX8_foundIn_2 : decode cX8_foundIn 2 = .ok (.iload_n 2, 1) := by decide +kernel
theorem dX8_foundIn_3 : decode cX8_foundIn 3 = .ok (.bipush 60, 2) := by decide +kernel
theorem dX8_foundIn_5 : decode cX8_foundIn 5 = .ok (.if_icmp .ge 25, 3) := by decide +kernel
theorem dX8_foundIn_8 : decode cX8_foundIn 8 = .ok (.aload_n 0, 1) := by decide +kernel
theorem dX8_foundIn_9 : decode cX8_foundIn 9 = .ok (.invokevirtual 153, 3) := by decide +kernel
theorem dX8_foundIn_12 : decode cX8_foundIn 12 = .ok (.istore_n 3, 1) := by decide +kernel
theorem dX8_foundIn_13 : decode cX8_foundIn 13 = .ok (.iload_n 3, 1) := by decide +kernel
theorem dX8_foundIn_14 : decode cX8_foundIn 14 = .ok (.iload_n 1, 1) := by decide +kernel
theorem dX8_foundIn_15 : decode cX8_foundIn 15 = .ok (.ishr, 1) := by decide +kernel
theorem dX8_foundIn_16 : decode cX8_foundIn 16 = .ok (.iconst 1, 1) := by decide +kernel
theorem dX8_foundIn_17 : decode cX8_foundIn 17 = .ok (.iand, 1) := by decide +kernel
theorem dX8_foundIn_18 : decode cX8_foundIn 18 = .ok (.iconst 1, 1) := by decide +kernel
theorem dX8_foundIn_19 : decode cX8_foundIn 19 = .ok (.if_icmp .ne 5, 3) := by decide +kernel
theorem dX8_foundIn_22 : decode cX8_foundIn 22 = .ok (.iload_n 2, 1) := by decide +kernel
theorem dX8_foundIn_23 : decode cX8_foundIn 23 = .ok (.ireturn, 1) := by decide +kernel
theorem dX8_foundIn_24 : decode cX8_foundIn 24 = .ok (.iinc 2 1, 3) := by decide +kernel
theorem dX8_foundIn_27 : decode cX8_foundIn 27 = .ok (.goto (-25), 3) := by decide +kernel
theorem dX8_foundIn_30 : decode cX8_foundIn 30 = .ok (.ldc 165, 2) := by decide +kernel
theorem dX8_foundIn_32 : decode cX8_foundIn 32 = .ok (.ireturn, 1) := by decide +kernel
theorem dX8_hide_0 : decode cX8_hide 0 = .ok (.aload_n 0, 1) := by decide +kernel
theorem dX8_hide_1 : decode cX8_hide 1 = .ok (.iload_n 1, 1) := by decide +kernel
theorem dX8_hide_2 : decode cX8_hide 2 = .ok (.invokevirtual 137, 3) := by decide +kernel
theorem dX8_hide_5 : decode cX8_hide 5 = .ok (.ifCond .ne 10, 3) := by decide +kernel
theorem dX8_hide_8 : decode cX8_hide 8 = .ok (.aload_n 0, 1) := by decide +kernel
theorem dX8_hide_9 : decode cX8_hide 9 = .ok (.bipush (-2), 2) := by decide +kernel
theorem dX8_hide_11 : decode cX8_hide 11 = .ok (.invokevirtual 86, 3) := by decide +kernel
theorem dX8_hide_14 : decode cX8_hide 14 = .ok (.ireturn, 1) := by decide +kernel
theorem dX8_hide_15 : decode cX8_hide 15 = .ok (.aload_n 0, 1) := by decide +kernel
theorem dX8_hide_16 : decode cX8_hide 16 = .ok (.iload_n 1, 1) := by decide +kernel
theorem dX8_hide_17 : decode cX8_hide 17 = .ok (.iconst 4, 1) := by decide +kernel
theorem dX8_hide_18 : decode cX8_hide 18 = .ok (.invokevirtual 119, 3) := by decide +kernel
theorem dX8_hide_21 : decode cX8_hide 21 = .ok (.ifCond .eq 8, 3) := by decide +kernel
theorem dX8_hide_24 : decode cX8_hide 24 = .ok (.aload_n 0, 1) := by decide +kernel
theorem dX8_hide_25 : decode cX8_hide 25 = .ok (.invokevirtual 140, 3) := by decide +kernel
theorem dX8_hide_28 : decode cX8_hide 28 = .ok (.ireturn, 1) := by decide +kernel
theorem dX8_hide_29 : decode cX8_hide 29 = .ok (.iconst (-1), 1) := by decide +kernel
theorem dX8_hide_30 : decode cX8_hide 30 = .ok (.istore_n 2, 1) := by decide +kernel
theorem dX8_hide_31 : decode cX8_hide 31 = .ok (.ldc 165, 2) := by decide +kernel
theorem dX8_hide_33 : decode cX8_hide 33 = .ok (.istore_n 3, 1) := by decide +kernel
theorem dX8_hide_34 : decode cX8_hide 34 = .ok (.iconst 0, 1) := by decide +kernel
theorem dX8_hide_35 : decode cX8_hide 35 = .ok (.istore 4, 2) := by decide +kernel
theorem dX8_hide_37 : decode cX8_hide 37 = .ok (.iload 4, 2) := by decide +kernel
theorem dX8_hide_39 : decode cX8_hide 39 = .ok (.bipush 8, 2) := by decide +kernel
theorem dX8_hide_41 : decode cX8_hide 41 = .ok (.if_icmp .ge 48, 3) := by decide +kernel
theorem dX8_hide_44 : decode cX8_hide 44 = .ok (.aload_n 0, 1) := by decide +kernel
theorem dX8_hide_45 : decode cX8_hide 45 = .ok (.invokevirtual 150, 3) := by decide +kernel
theorem dX8_hide_48 : decode cX8_hide 48 = .ok (.aload_n 0, 1) := by decide +kernel
theorem dX8_hide_49 : decode cX8_hide 49 = .ok (.getfield 27, 3) := by decide +kernel
theorem dX8_hide_52 : decode cX8_hide 52 = .ok (.iload_n 1, 1) := by decide +kernel
theorem dX8_hide_53 : decode cX8_hide 53 = .ok (.iload 4, 2) := by decide +kernel
theorem dX8_hide_55 : decode cX8_hide 55 = .ok (.iastore, 1) := by decide +kernel
theorem dX8_hide_56 : decode cX8_hide 56 = .ok (.aload_n 0, 1) := by decide +kernel
theorem dX8_hide_57 : decode cX8_hide 57 = .ok (.iload_n 1, 1) := by decide +kernel
theorem dX8_hide_58 : decode cX8_hide 58 = .ok (.invokevirtual 166, 3) := by decide +kernel
theorem dX8_hide_61 : decode cX8_hide 61 = .ok (.istore 5, 2) := by decide +kernel
theorem dX8_hide_63 : decode cX8_hide 63 = .ok (.iload 5, 2) := by decide +kernel
theorem dX8_hide_65 : decode cX8_hide 65 = .ok (.iload_n 3, 1) := by decide +kernel
theorem dX8_hide_66 : decode cX8_hide 66 = .ok (.if_icmp .ge 8, 3) := by decide +kernel
theorem dX8_hide_69 : decode cX8_hide 69 = .ok (.iload 4, 2) := by decide +kernel
theorem dX8_hide_71 : decode cX8_hide 71 = .ok (.goto 4, 3) := by decide +kernel
theorem dX8_hide_74 : decode cX8_hide 74 = .ok (.iload_n 2, 1) := by decide +kernel
theorem dX8_hide_75 : decode cX8_hide 75 = .ok (.istore_n 2, 1) := by decide +kernel
theorem dX8_hide_76 : decode cX8_hide 76 = .ok (.iload_n 3, 1) := by decide +kernel
theorem dX8_hide_77 : decode cX8_hide 77 = .ok (.iload 5, 2) := by decide +kernel
theorem dX8_hide_79 : decode cX8_hide 79 = .ok (.invokestatic 122, 3) := by decide +kernel
theorem dX8_hide_82 : decode cX8_hide 82 = .ok (.istore_n 3, 1) := by decide +kernel
theorem dX8_hide_83 : decode cX8_hide 83 = .ok (.iinc 4 1, 3) := by decide +kernel
theorem dX8_hide_86 : decode cX8_hide 86 = .ok (.goto (-49), 3) := by decide +kernel
theorem dX8_hide_89 : decode cX8_hide 89 = .ok (.iload_n 2, 1) := by decide +kernel
theorem dX8_hide_90 : decode cX8_hide 90 = .ok (.ireturn, 1) := by decide +kernel
theorem dX8_moveAll_0 : decode cX8_moveAll 0 = .ok (.iconst 0, 1) := by decide +kernel
theorem dX8_moveAll_1 : decode cX8_moveAll 1 = .ok (.istore_n 1, 1) := by decide +kernel
theorem dX8_moveAll_2 : decode cX8_moveAll 2 = .ok (.iload_n 1, 1) := by decide +kernel
theorem dX8_moveAll_3 : decode cX8_moveAll 3 = .ok (.bipush 48, 2) := by decide +kernel
theorem dX8_moveAll_5 : decode cX8_moveAll 5 = .ok (.if_icmp .ge 21, 3) := by decide +kernel
theorem dX8_moveAll_8 : decode cX8_moveAll 8 = .ok (.aload_n 0, 1) := by decide +kernel
theorem dX8_moveAll_9 : decode cX8_moveAll 9 = .ok (.getfield 45, 3) := by decide +kernel
theorem dX8_moveAll_12 : decode cX8_moveAll 12 = .ok (.iload_n 1, 1) := by decide +kernel
theorem dX8_moveAll_13 : decode cX8_moveAll 13 = .ok (.aload_n 0, 1) := by decide +kernel
theorem dX8_moveAll_14 : decode cX8_moveAll 14 = .ok (.getfield 42, 3) := by decide +kernel
theorem dX8_moveAll_17 : decode cX8_moveAll 17 = .ok (.iload_n 1, 1) := by decide +kernel
theorem dX8_moveAll_18 : decode cX8_moveAll 18 = .ok (.iaload, 1) := by decide +kernel
theorem dX8_moveAll_19 : decode cX8_moveAll 19 = .ok (.iastore, 1) := by decide +kernel
theorem dX8_moveAll_20 : decode cX8_moveAll 20 = .ok (.iinc 1 1, 3) := by decide +kernel
theorem dX8_moveAll_23 : decode cX8_moveAll 23 = .ok (.goto (-21), 3) := by decide +kernel
theorem dX8_moveAll_26 : decode cX8_moveAll 26 = .ok (.iconst 0, 1) := by decide +kernel
theorem dX8_moveAll_27 : decode cX8_moveAll 27 = .ok (.istore_n 1, 1) := by decide +kernel
theorem dX8_moveAll_28 : decode cX8_moveAll 28 = .ok (.iload_n 1, 1) := by decide +kernel
theorem dX8_moveAll_29 : decode cX8_moveAll 29 = .ok (.bipush 48, 2) := by decide +kernel
theorem dX8_moveAll_31 : decode cX8_moveAll 31 = .ok (.if_icmp .ge 89, 3) := by decide +kernel
theorem dX8_moveAll_34 : decode cX8_moveAll 34 = .ok (.iconst 0, 1) := by decide +kernel
theorem dX8_moveAll_35 : decode cX8_moveAll 35 = .ok (.istore_n 2, 1) := by decide +kernel
theorem dX8_moveAll_36 : decode cX8_moveAll 36 = .ok (.iload_n 2, 1) := by decide +kernel
theorem dX8_moveAll_37 : decode cX8_moveAll 37 = .ok (.bipush 8, 2) := by decide +kernel
theorem dX8_moveAll_39 : decode cX8_moveAll 39 = .ok (.if_icmp .ge 75, 3) := by decide +kernel
theorem dX8_moveAll_42 : decode cX8_moveAll 42 = .ok (.aload_n 0, 1) := by decide +kernel
theorem dX8_moveAll_43 : decode cX8_moveAll 43 = .ok (.getfield 42, 3) := by decide +kernel
theorem dX8_moveAll_46 : decode cX8_moveAll 46 = .ok (.iload_n 1, 1) := by decide +kernel
theorem dX8_moveAll_47 : decode cX8_moveAll 47 = .ok (.iaload, 1) := by decide +kernel
theorem dX8_moveAll_48 : decode cX8_moveAll 48 = .ok (.ldc 165, 2) := by decide +kernel
theorem dX8_moveAll_50 : decode cX8_moveAll 50 = .ok (.if_icmp .ge 64, 3) := by decide +kernel
theorem dX8_moveAll_53 : decode cX8_moveAll 53 = .ok (.aload_n 0, 1) := by decide +kernel
theorem dX8_moveAll_54 : decode cX8_moveAll 54 = .ok (.iload_n 1, 1) := by decide +kernel
theorem dX8_moveAll_55 : decode cX8_moveAll 55 = .ok (.bipush 6, 2) := by decide +kernel
theorem dX8_moveAll_57 : decode cX8_moveAll 57 = .ok (.idiv, 1) := by decide +kernel
theorem dX8_moveAll_58 : decode cX8_moveAll 58 = .ok (.iload_n 2, 1) := by decide +kernel
theorem dX8_moveAll_59 : decode cX8_moveAll 59 = .ok (.invokevirtual 96, 3) := by decide +kernel
theorem dX8_moveAll_62 : decode cX8_moveAll 62 = .ok (.istore_n 3, 1) := by decide +kernel
theorem dX8_moveAll_63 : decode cX8_moveAll 63 = .ok (.aload_n 0, 1) := by decide +kernel
theorem dX8_moveAll_64 : decode cX8_moveAll 64 = .ok (.getfield 45, 3) := by decide +kernel
theorem dX8_moveAll_67 : decode cX8_moveAll 67 = .ok (.bipush 6, 2) := by decide +kernel
theorem dX8_moveAll_69 : decode cX8_moveAll 69 = .ok (.iload_n 2, 1) := by decide +kernel
theorem dX8_moveAll_70 : decode cX8_moveAll 70 = .ok (.imul, 1) := by decide +kernel
theorem dX8_moveAll_71 : decode cX8_moveAll 71 = .ok (.iload_n 3, 1) := by decide +kernel
theorem dX8_moveAll_72 : decode cX8_moveAll 72 = .ok (.ifCond .le 26, 3) := by decide +kernel
theorem dX8_moveAll_75 : decode cX8_moveAll 75 = .ok (.aload_n 0, 1) := by decide +kernel
theorem dX8_moveAll_76 : decode cX8_moveAll 76 = .ok (.getfield 45, 3) := by decide +kernel
theorem dX8_moveAll_79 : decode cX8_moveAll 79 = .ok (.bipush 6, 2) := by decide +kernel
theorem dX8_moveAll_81 : decode cX8_moveAll 81 = .ok (.iload_n 2, 1) := by decide +kernel
theorem dX8_moveAll_82 : decode cX8_moveAll 82 = .ok (.imul, 1) := by decide +kernel
theorem dX8_moveAll_83 : decode cX8_moveAll 83 = .ok (.iaload, 1) := by decide +kernel
theorem dX8_moveAll_84 : decode cX8_moveAll 84 = .ok (.aload_n 0, 1) := by decide +kernel
theorem dX8_moveAll_85 : decode cX8_moveAll 85 = .ok (.getfield 42, 3) := by decide +kernel
theorem dX8_moveAll_88 : decode cX8_moveAll 88 = .ok (.iload_n 1, 1) := by decide +kernel
theorem dX8_moveAll_89 : decode cX8_moveAll 89 = .ok (.iaload, 1) := by decide +kernel
theorem dX8_moveAll_90 : decode cX8_moveAll 90 = .ok (.iload_n 3, 1) := by decide +kernel
theorem dX8_moveAll_91 : decode cX8_moveAll 91 = .ok (.iadd, 1) := by decide +kernel
theorem dX8_moveAll_92 : decode cX8_moveAll 92 = .ok (.invokestatic 122, 3) := by decide +kernel
theorem dX8_moveAll_95 : decode cX8_moveAll 95 = .ok (.goto 12, 3) := by decide +kernel
theorem dX8_moveAll_98 : decode cX8_moveAll 98 = .ok (.aload_n 0, 1) := by decide +kernel
theorem dX8_moveAll_99 : decode cX8_moveAll 99 = .ok (.getfield 45, 3) := by decide +kernel
theorem dX8_moveAll_102 : decode cX8_moveAll 102 = .ok (.bipush 6, 2) := by decide +kernel
theorem dX8_moveAll_104 : decode cX8_moveAll 104 = .ok (.iload_n 2, 1) := by decide +kernel
theorem dX8_moveAll_105 : decode cX8_moveAll 105 = .ok (.imul, 1) := by decide +kernel
theorem dX8_moveAll_106 : decode cX8_moveAll 106 = .ok (.iaload, 1) := by decide +kernel
theorem dX8_moveAll_107 : decode cX8_moveAll 107 = .ok (.iastore, 1) := by decide +kernel
theorem dX8_moveAll_108 : decode cX8_moveAll 108 = .ok (.iinc 2 1, 3) := by decide +kernel
theorem dX8_moveAll_111 : decode cX8_moveAll 111 = .ok (.goto (-75), 3) := by decide +kernel
theorem dX8_moveAll_114 : decode cX8_moveAll 114 = .ok (.iinc 1 1, 3) := by decide +kernel
theorem dX8_moveAll_117 : decode cX8_moveAll 117 = .ok (.goto (-89), 3) := by decide +kernel
theorem dX8_moveAll_120 : decode cX8_moveAll 120 = .ok (.iconst 0, 1) := by decide +kernel
theorem dX8_moveAll_121 : decode cX8_moveAll 121 = .ok (.istore_n 1, 1) := by decide +kernel
theorem dX8_moveAll_122 : decode cX8_moveAll 122 = .ok (.iload_n 1, 1) := by decide +kernel
theorem dX8_moveAll_123 : decode cX8_moveAll 123 = .ok (.bipush 48, 2) := by decide +kernel
theorem dX8_moveAll_125 : decode cX8_moveAll 125 = .ok (.if_icmp .ge 21, 3) := by decide +kernel
theorem dX8_moveAll_128 : decode cX8_moveAll 128 = .ok (.aload_n 0, 1) := by decide +kernel
theorem dX8_moveAll_129 : decode cX8_moveAll 129 = .ok (.getfield 42, 3) := by decide +kernel
theorem dX8_moveAll_132 : decode cX8_moveAll 132 = .ok (.iload_n 1, 1) := by decide +kernel
theorem dX8_moveAll_133 : decode cX8_moveAll 133 = .ok (.aload_n 0, 1) := by decide +kernel
theorem dX8_moveAll_134 : decode cX8_moveAll 134 = .ok (.getfield 45, 3) := by decide +kernel
theorem dX8_moveAll_137 : decode cX8_moveAll 137 = .ok (.iload_n 1, 1) := by decide +kernel
theorem dX8_moveAll_138 : decode cX8_moveAll 138 = .ok (.iaload, 1) := by decide +kernel
theorem dX8_moveAll_139 : decode cX8_moveAll 139 = .ok (.iastore, 1) := by decide +kernel
theorem dX8_moveAll_140 : decode cX8_moveAll 140 = .ok (.iinc 1 1, 3) := by decide +kernel
theorem dX8_moveAll_143 : decode cX8_moveAll 143 = .ok (.goto (-21), 3) := by decide +kernel
theorem dX8_moveAll_146 : decode cX8_moveAll 146 = .ok (.return_, 1) := by decide +kernel
theorem dX8_nightOfOne_0 : decode cX8_nightOfOne 0 = .ok (.ldc 165, 2) := by decide +kernel
theorem dX8_nightOfOne_2 : decode cX8_nightOfOne 2 = .ok (.istore_n 3, 1) := by decide +kernel
theorem dX8_nightOfOne_3 : decode cX8_nightOfOne 3 = .ok (.iconst 0, 1) := by decide +kernel
theorem dX8_nightOfOne_4 : decode cX8_nightOfOne 4 = .ok (.istore 4, 2) := by decide +kernel
theorem dX8_nightOfOne_6 : decode cX8_nightOfOne 6 = .ok (.iload 4, 2) := by decide +kernel
theorem dX8_nightOfOne_8 : decode cX8_nightOfOne 8 = .ok (.bipush 48, 2) := by decide +kernel
theorem dX8_nightOfOne_10 : decode cX8_nightOfOne 10 = .ok (.if_icmp .ge 18, 3) := by decide +kernel
theorem dX8_nightOfOne_13 : decode cX8_nightOfOne 13 = .ok (.aload_n 0, 1) := by decide +kernel
theorem dX8_nightOfOne_14 : decode cX8_nightOfOne 14 = .ok (.getfield 45, 3) := by decide +kernel
theorem dX8_nightOfOne_17 : decode cX8_nightOfOne 17 = .ok (.iload 4, 2) := by decide +kernel
theorem dX8_nightOfOne_19 : decode cX8_nightOfOne 19 = .ok (.ldc 165, 2) := by decide +kernel
theorem dX8_nightOfOne_21 : decode cX8_nightOfOne 21 = .ok (.iastore, 1) := by decide +kernel
theorem dX8_nightOfOne_22 : decode cX8_nightOfOne 22 = .ok (.iinc 4 1, 3) := by decide +kernel
theorem dX8_nightOfOne_25 : decode cX8_nightOfOne 25 = .ok (.goto (-19), 3) := by decide +kernel
theorem dX8_nightOfOne_28 : decode cX8_nightOfOne 28 = .ok (.iconst 0, 1) := by decide +kernel
theorem dX8_nightOfOne_29 : decode cX8_nightOfOne 29 = .ok (.istore 4, 2) := by decide +kernel
theorem dX8_nightOfOne_31 : decode cX8_nightOfOne 31 = .ok (.iload 4, 2) := by decide +kernel
theorem dX8_nightOfOne_33 : decode cX8_nightOfOne 33 = .ok (.bipush 48, 2) := by decide +kernel
theorem dX8_nightOfOne_35 : decode cX8_nightOfOne 35 = .ok (.if_icmp .ge 186, 3) := by decide +kernel
theorem dX8_nightOfOne_38 : decode cX8_nightOfOne 38 = .ok (.aload_n 0, 1) := by decide +kernel
theorem dX8_nightOfOne_39 : decode cX8_nightOfOne 39 = .ok (.getfield 42, 3) := by decide +kernel
theorem dX8_nightOfOne_42 : decode cX8_nightOfOne 42 = .ok (.iload 4, 2) := by decide +kernel
theorem dX8_nightOfOne_44 : decode cX8_nightOfOne 44 = .ok (.iaload, 1) := by decide +kernel
theorem dX8_nightOfOne_45 : decode cX8_nightOfOne 45 = .ok (.ldc 165, 2) := by decide +kernel
theorem dX8_nightOfOne_47 : decode cX8_nightOfOne 47 = .ok (.if_icmp .ge 168, 3) := by decide +kernel
theorem dX8_nightOfOne_50 : decode cX8_nightOfOne 50 = .ok (.aload_n 0, 1) := by decide +kernel
theorem dX8_nightOfOne_51 : decode cX8_nightOfOne 51 = .ok (.getfield 27, 3) := by decide +kernel
theorem dX8_nightOfOne_54 : decode cX8_nightOfOne 54 = .ok (.iload_n 1, 1) := by decide +kernel
theorem dX8_nightOfOne_55 : decode cX8_nightOfOne 55 = .ok (.iload 4, 2) := by decide +kernel
theorem dX8_nightOfOne_57 : decode cX8_nightOfOne 57 = .ok (.bipush 6, 2) := by decide +kernel
theorem dX8_nightOfOne_59 : decode cX8_nightOfOne 59 = .ok (.idiv, 1) := by decide +kernel
theorem dX8_nightOfOne_60 : decode cX8_nightOfOne 60 = .ok (.iastore, 1) := by decide +kernel
theorem dX8_nightOfOne_61 : decode cX8_nightOfOne 61 = .ok (.aload_n 0, 1) := by decide +kernel
theorem dX8_nightOfOne_62 : decode cX8_nightOfOne 62 = .ok (.getfield 30, 3) := by decide +kernel
theorem dX8_nightOfOne_65 : decode cX8_nightOfOne 65 = .ok (.iload_n 1, 1) := by decide +kernel
theorem dX8_nightOfOne_66 : decode cX8_nightOfOne 66 = .ok (.iload 4, 2) := by decide +kernel
theorem dX8_nightOfOne_68 : decode cX8_nightOfOne 68 = .ok (.bipush 6, 2) := by decide +kernel
theorem dX8_nightOfOne_70 : decode cX8_nightOfOne 70 = .ok (.irem, 1) := by decide +kernel
theorem dX8_nightOfOne_71 : decode cX8_nightOfOne 71 = .ok (.iastore, 1) := by decide +kernel
theorem dX8_nightOfOne_72 : decode cX8_nightOfOne 72 = .ok (.aload_n 0, 1) := by decide +kernel
theorem dX8_nightOfOne_73 : decode cX8_nightOfOne 73 = .ok (.iload_n 1, 1) := by decide +kernel
theorem dX8_nightOfOne_74 : decode cX8_nightOfOne 74 = .ok (.invokevirtual 134, 3) := by decide +kernel
theorem dX8_nightOfOne_77 : decode cX8_nightOfOne 77 = .ok (.istore 5, 2) := by decide +kernel
theorem dX8_nightOfOne_79 : decode cX8_nightOfOne 79 = .ok (.iload 5, 2) := by decide +kernel
theorem dX8_nightOfOne_81 : decode cX8_nightOfOne 81 = .ok (.aload_n 0, 1) := by decide +kernel
theorem dX8_nightOfOne_82 : decode cX8_nightOfOne 82 = .ok (.getfield 7, 3) := by decide +kernel
theorem dX8_nightOfOne_85 : decode cX8_nightOfOne 85 = .ok (.iconst 2, 1) := by decide +kernel
theorem dX8_nightOfOne_86 : decode cX8_nightOfOne 86 = .ok (.iaload, 1) := by decide +kernel
theorem dX8_nightOfOne_87 : decode cX8_nightOfOne 87 = .ok (.if_icmp .lt 32, 3) := by decide +kernel
theorem dX8_nightOfOne_90 : decode cX8_nightOfOne 90 = .ok (.aload_n 0, 1) := by decide +kernel
theorem dX8_nightOfOne_91 : decode cX8_nightOfOne 91 = .ok (.iload_n 2, 1) := by decide +kernel
theorem dX8_nightOfOne_92 : decode cX8_nightOfOne 92 = .ok (.invokevirtual 131, 3) := by decide +kernel
theorem dX8_nightOfOne_95 : decode cX8_nightOfOne 95 = .ok (.aload_n 0, 1) := by decide +kernel
theorem dX8_nightOfOne_96 : decode cX8_nightOfOne 96 = .ok (.getfield 27, 3) := by decide +kernel
theorem dX8_nightOfOne_99 : decode cX8_nightOfOne 99 = .ok (.iload_n 1, 1) := by decide +kernel
theorem dX8_nightOfOne_100 : decode cX8_nightOfOne 100 = .ok (.iaload, 1) := by decide +kernel
theorem dX8_nightOfOne_101 : decode cX8_nightOfOne 101 = .ok (.if_icmp .ne 18, 3) := by decide +kernel
theorem dX8_nightOfOne_104 : decode cX8_nightOfOne 104 = .ok (.iload 5, 2) := by decide +kernel
theorem dX8_nightOfOne_106 : decode cX8_nightOfOne 106 = .ok (.aload_n 0, 1) := by decide +kernel
theorem dX8_nightOfOne_107 : decode cX8_nightOfOne 107 = .ok (.getfield 7, 3) := by decide +kernel
theorem dX8_nightOfOne_110 : decode cX8_nightOfOne 110 = .ok (.iconst 1, 1) := by decide +kernel
theorem dX8_nightOfOne_111 : decode cX8_nightOfOne 111 = .ok (.iaload, 1) := by decide +kernel
theorem dX8_nightOfOne_112 : decode cX8_nightOfOne 112 = .ok (.if_icmp .ge 7, 3) := by decide +kernel
theorem dX8_nightOfOne_115 : decode cX8_nightOfOne 115 = .ok (.iconst 1, 1) := by decide +kernel
theorem dX8_nightOfOne_116 : decode cX8_nightOfOne 116 = .ok (.goto 4, 3) := by decide +kernel
theorem dX8_nightOfOne_119 : decode cX8_nightOfOne 119 = .ok (.iconst 0, 1) := by decide +kernel
theorem dX8_nightOfOne_120 : decode cX8_nightOfOne 120 = .ok (.istore 6, 2) := by decide +kernel
theorem dX8_nightOfOne_122 : decode cX8_nightOfOne 122 = .ok (.bipush 6, 2) := by decide +kernel
theorem dX8_nightOfOne_124 : decode cX8_nightOfOne 124 = .ok (.iload 4, 2) := by decide +kernel
theorem dX8_nightOfOne_126 : decode cX8_nightOfOne 126 = .ok (.bipush 6, 2) := by decide +kernel
theorem dX8_nightOfOne_128 : decode cX8_nightOfOne 128 = .ok (.idiv, 1) := by decide +kernel
theorem dX8_nightOfOne_129 : decode cX8_nightOfOne 129 = .ok (.imul, 1) := by decide +kernel
theorem dX8_nightOfOne_130 : decode cX8_nightOfOne 130 = .ok (.iconst 5, 1) := by decide +kernel
theorem dX8_nightOfOne_131 : decode cX8_nightOfOne 131 = .ok (.iload 4, 2) := by decide +kernel
theorem dX8_nightOfOne_133 : decode cX8_nightOfOne 133 = .ok (.bipush 6, 2) := by decide +kernel
theorem dX8_nightOfOne_135 : decode cX8_nightOfOne 135 = .ok (.irem, 1) := by decide +kernel
theorem dX8_nightOfOne_136 : decode cX8_nightOfOne 136 = .ok (.iconst 1, 1) := by decide +kernel
theorem dX8_nightOfOne_137 : decode cX8_nightOfOne 137 = .ok (.iadd, 1) := by decide +kernel
theorem dX8_nightOfOne_138 : decode cX8_nightOfOne 138 = .ok (.invokestatic 122, 3) := by decide +kernel
theorem dX8_nightOfOne_141 : decode cX8_nightOfOne 141 = .ok (.iadd, 1) := by decide +kernel
theorem dX8_nightOfOne_142 : decode cX8_nightOfOne 142 = .ok (.istore 7, 2) := by decide +kernel
theorem dX8_nightOfOne_144 : decode cX8_nightOfOne 144 = .ok (.iload 6, 2) := by decide +kernel
theorem dX8_nightOfOne_146 : decode cX8_nightOfOne 146 = .ok (.ifCond .eq 17, 3) := by decide +kernel
theorem dX8_nightOfOne_149 : decode cX8_nightOfOne 149 = .ok (.iload_n 3, 1) := by decide +kernel
theorem dX8_nightOfOne_150 : decode cX8_nightOfOne 150 = .ok (.aload_n 0, 1) := by decide +kernel
theorem dX8_nightOfOne_151 : decode cX8_nightOfOne 151 = .ok (.getfield 42, 3) := by decide +kernel
theorem dX8_nightOfOne_154 : decode cX8_nightOfOne 154 = .ok (.iload 4, 2) := by decide +kernel
theorem dX8_nightOfOne_156 : decode cX8_nightOfOne 156 = .ok (.iaload, 1) := by decide +kernel
theorem dX8_nightOfOne_157 : decode cX8_nightOfOne 157 = .ok (.invokestatic 122, 3) := by decide +kernel
theorem dX8_nightOfOne_160 : decode cX8_nightOfOne 160 = .ok (.goto 4, 3) := by decide +kernel
theorem dX8_nightOfOne_163 : decode cX8_nightOfOne 163 = .ok (.iload_n 3, 1) := by decide +kernel
theorem dX8_nightOfOne_164 : decode cX8_nightOfOne 164 = .ok (.istore_n 3, 1) := by decide +kernel
theorem dX8_nightOfOne_165 : decode cX8_nightOfOne 165 = .ok (.aload_n 0, 1) := by decide +kernel
theorem dX8_nightOfOne_166 : decode cX8_nightOfOne 166 = .ok (.getfield 45, 3) := by decide +kernel
theorem dX8_nightOfOne_169 : decode cX8_nightOfOne 169 = .ok (.iload 7, 2) := by decide +kernel
theorem dX8_nightOfOne_171 : decode cX8_nightOfOne 171 = .ok (.iload 5, 2) := by decide +kernel
theorem dX8_nightOfOne_173 : decode cX8_nightOfOne 173 = .ok (.aload_n 0, 1) := by decide +kernel
theorem dX8_nightOfOne_174 : decode cX8_nightOfOne 174 = .ok (.getfield 7, 3) := by decide +kernel
theorem dX8_nightOfOne_177 : decode cX8_nightOfOne 177 = .ok (.iconst 2, 1) := by decide +kernel
theorem dX8_nightOfOne_178 : decode cX8_nightOfOne 178 = .ok (.iaload, 1) := by decide +kernel
theorem dX8_nightOfOne_179 : decode cX8_nightOfOne 179 = .ok (.if_icmp .lt 28, 3) := by decide +kernel
theorem dX8_nightOfOne_182 : decode cX8_nightOfOne 182 = .ok (.iload 6, 2) := by decide +kernel
theorem dX8_nightOfOne_184 : decode cX8_nightOfOne 184 = .ok (.ifCond .ne 23, 3) := by decide +kernel
theorem dX8_nightOfOne_187 : decode cX8_nightOfOne 187 = .ok (.aload_n 0, 1) := by decide +kernel
theorem dX8_nightOfOne_188 : decode cX8_nightOfOne 188 = .ok (.getfield 45, 3) := by decide +kernel
theorem dX8_nightOfOne_191 : decode cX8_nightOfOne 191 = .ok (.iload 7, 2) := by decide +kernel
theorem dX8_nightOfOne_193 : decode cX8_nightOfOne 193 = .ok (.iaload, 1) := by decide +kernel
theorem dX8_nightOfOne_194 : decode cX8_nightOfOne 194 = .ok (.aload_n 0, 1) := by decide +kernel
theorem dX8_nightOfOne_195 : decode cX8_nightOfOne 195 = .ok (.getfield 42, 3) := by decide +kernel
theorem dX8_nightOfOne_198 : decode cX8_nightOfOne 198 = .ok (.iload 4, 2) := by decide +kernel
theorem dX8_nightOfOne_200 : decode cX8_nightOfOne 200 = .ok (.iaload, 1) := by decide +kernel
theorem dX8_nightOfOne_201 : decode cX8_nightOfOne 201 = .ok (.invokestatic 122, 3) := by decide +kernel
theorem dX8_nightOfOne_204 : decode cX8_nightOfOne 204 = .ok (.goto 10, 3) := by decide +kernel
theorem dX8_nightOfOne_207 : decode cX8_nightOfOne 207 = .ok (.aload_n 0, 1) := by decide +kernel
theorem dX8_nightOfOne_208 : decode cX8_nightOfOne 208 = .ok (.getfield 45, 3) := by decide +kernel
theorem dX8_nightOfOne_211 : decode cX8_nightOfOne 211 = .ok (.iload 7, 2) := by decide +kernel
theorem dX8_nightOfOne_213 : decode cX8_nightOfOne 213 = .ok (.iaload, 1) := by decide +kernel
theorem dX8_nightOfOne_214 : decode cX8_nightOfOne 214 = .ok (.iastore, 1) := by decide +kernel
theorem dX8_nightOfOne_215 : decode cX8_nightOfOne 215 = .ok (.iinc 4 1, 3) := by decide +kernel
theorem dX8_nightOfOne_218 : decode cX8_nightOfOne 218 = .ok (.goto (-187), 3) := by decide +kernel
theorem dX8_nightOfOne_221 : decode cX8_nightOfOne 221 = .ok (.iconst 0, 1) := by decide +kernel
theorem dX8_nightOfOne_222 : decode cX8_nightOfOne 222 = .ok (.istore 4, 2) := by decide +kernel
theorem dX8_nightOfOne_224 : decode cX8_nightOfOne 224 = .ok (.iload 4, 2) := by decide +kernel
theorem dX8_nightOfOne_226 : decode cX8_nightOfOne 226 = .ok (.bipush 48, 2) := by decide +kernel
theorem dX8_nightOfOne_228 : decode cX8_nightOfOne 228 = .ok (.if_icmp .ge 23, 3) := by decide +kernel
theorem dX8_nightOfOne_231 : decode cX8_nightOfOne 231 = .ok (.aload_n 0, 1) := by decide +kernel
theorem dX8_nightOfOne_232 : decode cX8_nightOfOne 232 = .ok (.getfield 42, 3) := by decide +kernel
theorem dX8_nightOfOne_235 : decode cX8_nightOfOne 235 = .ok (.iload 4, 2) := by decide +kernel
theorem dX8_nightOfOne_237 : decode cX8_nightOfOne 237 = .ok (.aload_n 0, 1) := by decide +kernel
theorem dX8_nightOfOne_238 : decode cX8_nightOfOne 238 = .ok (.getfield 45, 3) := by decide +kernel
theorem dX8_nightOfOne_241 : decode cX8_nightOfOne 241 = .ok (.iload 4, 2) := by decide +kernel
theorem dX8_nightOfOne_243 : decode cX8_nightOfOne 243 = .ok (.iaload, 1) := by decide +kernel
theorem dX8_nightOfOne_244 : decode cX8_nightOfOne 244 = .ok (.iastore, 1) := by decide +kernel
theorem dX8_nightOfOne_245 : decode cX8_nightOfOne 245 = .ok (.iinc 4 1, 3) := by decide +kernel
theorem dX8_nightOfOne_248 : decode cX8_nightOfOne 248 = .ok (.goto (-24), 3) := by decide +kernel
theorem dX8_nightOfOne_251 : decode cX8_nightOfOne 251 = .ok (.iload_n 3, 1) := by decide +kernel
theorem dX8_nightOfOne_252 : decode cX8_nightOfOne 252 = .ok (.ireturn, 1) := by decide +kernel
theorem dX8_way_0 : decode cX8_way 0 = .ok (.aload_n 0, 1) := by decide +kernel
theorem dX8_way_1 : decode cX8_way 1 = .ok (.iload_n 1, 1) := by decide +kernel
theorem dX8_way_2 : decode cX8_way 2 = .ok (.invokevirtual 137, 3) := by decide +kernel
theorem dX8_way_5 : decode cX8_way 5 = .ok (.ifCond .eq 13, 3) := by decide +kernel
theorem dX8_way_8 : decode cX8_way 8 = .ok (.iload_n 2, 1) := by decide +kernel
theorem dX8_way_9 : decode cX8_way 9 = .ok (.i2l, 1) := by decide +kernel
theorem dX8_way_10 : decode cX8_way 10 = .ok (.lconst 0, 1) := by decide +kernel
theorem dX8_way_11 : decode cX8_way 11 = .ok (.lconst 1, 1) := by decide +kernel
theorem dX8_way_12 : decode cX8_way 12 = .ok (.invokestatic 78, 3) := by decide +kernel
theorem dX8_way_15 : decode cX8_way 15 = .ok (.ifCond .ne 10, 3) := by decide +kernel
theorem dX8_way_18 : decode cX8_way 18 = .ok (.aload_n 0, 1) := by decide +kernel
theorem dX8_way_19 : decode cX8_way 19 = .ok (.bipush (-2), 2) := by decide +kernel
theorem dX8_way_21 : decode cX8_way 21 = .ok (.invokevirtual 86, 3) := by decide +kernel
theorem dX8_way_24 : decode cX8_way 24 = .ok (.ireturn, 1) := by decide +kernel
theorem dX8_way_25 : decode cX8_way 25 = .ok (.aload_n 0, 1) := by decide +kernel
theorem dX8_way_26 : decode cX8_way 26 = .ok (.iload_n 1, 1) := by decide +kernel
theorem dX8_way_27 : decode cX8_way 27 = .ok (.iconst 4, 1) := by decide +kernel
theorem dX8_way_28 : decode cX8_way 28 = .ok (.invokevirtual 119, 3) := by decide +kernel
theorem dX8_way_31 : decode cX8_way 31 = .ok (.ifCond .eq 8, 3) := by decide +kernel
theorem dX8_way_34 : decode cX8_way 34 = .ok (.aload_n 0, 1) := by decide +kernel
theorem dX8_way_35 : decode cX8_way 35 = .ok (.invokevirtual 140, 3) := by decide +kernel
theorem dX8_way_38 : decode cX8_way 38 = .ok (.ireturn, 1) := by decide +kernel
theorem dX8_way_39 : decode cX8_way 39 = .ok (.aload_n 0, 1) := by decide +kernel
theorem dX8_way_40 : decode cX8_way 40 = .ok (.invokevirtual 150, 3) := by decide +kernel
theorem dX8_way_43 : decode cX8_way 43 = .ok (.iconst 0, 1) := by decide +kernel
theorem dX8_way_44 : decode cX8_way 44 = .ok (.istore_n 3, 1) := by decide +kernel
theorem dX8_way_45 : decode cX8_way 45 = .ok (.iload_n 3, 1) := by decide +kernel
theorem dX8_way_46 : decode cX8_way 46 = .ok (.bipush 48, 2) := by decide +kernel
theorem dX8_way_48 : decode cX8_way 48 = .ok (.if_icmp .ge 17, 3) := by decide +kernel
theorem dX8_way_51 : decode cX8_way 51 = .ok (.aload_n 0, 1) := by decide +kernel
theorem dX8_way_52 : decode cX8_way 52 = .ok (.getfield 42, 3) := by decide +kernel
theorem dX8_way_55 : decode cX8_way 55 = .ok (.iload_n 3, 1) := by decide +kernel
theorem dX8_way_56 : decode cX8_way 56 = .ok (.ldc 165, 2) := by decide +kernel
theorem dX8_way_58 : decode cX8_way 58 = .ok (.iastore, 1) := by decide +kernel
theorem dX8_way_59 : decode cX8_way 59 = .ok (.iinc 3 1, 3) := by decide +kernel
theorem dX8_way_62 : decode cX8_way 62 = .ok (.goto (-17), 3) := by decide +kernel
theorem dX8_way_65 : decode cX8_way 65 = .ok (.aload_n 0, 1) := by decide +kernel
theorem dX8_way_66 : decode cX8_way 66 = .ok (.getfield 42, 3) := by decide +kernel
theorem dX8_way_69 : decode cX8_way 69 = .ok (.bipush 6, 2) := by decide +kernel
theorem dX8_way_71 : decode cX8_way 71 = .ok (.aload_n 0, 1) := by decide +kernel
theorem dX8_way_72 : decode cX8_way 72 = .ok (.iload_n 1, 1) := by decide +kernel
theorem dX8_way_73 : decode cX8_way 73 = .ok (.iconst 1, 1) := by decide +kernel
theorem dX8_way_74 : decode cX8_way 74 = .ok (.invokevirtual 119, 3) := by decide +kernel
theorem dX8_way_77 : decode cX8_way 77 = .ok (.imul, 1) := by decide +kernel
theorem dX8_way_78 : decode cX8_way 78 = .ok (.iconst 5, 1) := by decide +kernel
theorem dX8_way_79 : decode cX8_way 79 = .ok (.aload_n 0, 1) := by decide +kernel
theorem dX8_way_80 : decode cX8_way 80 = .ok (.iload_n 1, 1) := by decide +kernel
theorem dX8_way_81 : decode cX8_way 81 = .ok (.iconst 3, 1) := by decide +kernel
theorem dX8_way_82 : decode cX8_way 82 = .ok (.invokevirtual 119, 3) := by decide +kernel
theorem dX8_way_85 : decode cX8_way 85 = .ok (.invokestatic 122, 3) := by decide +kernel
theorem dX8_way_88 : decode cX8_way 88 = .ok (.iadd, 1) := by decide +kernel
theorem dX8_way_89 : decode cX8_way 89 = .ok (.iconst 0, 1) := by decide +kernel
theorem dX8_way_90 : decode cX8_way 90 = .ok (.iastore, 1) := by decide +kernel
theorem dX8_way_91 : decode cX8_way 91 = .ok (.iconst 0, 1) := by decide +kernel
theorem dX8_way_92 : decode cX8_way 92 = .ok (.istore_n 3, 1) := by decide +kernel
theorem dX8_way_93 : decode cX8_way 93 = .ok (.iload_n 3, 1) := by decide +kernel
theorem dX8_way_94 : decode cX8_way 94 = .ok (.bipush 12, 2) := by decide +kernel
theorem dX8_way_96 : decode cX8_way 96 = .ok (.if_icmp .ge 67, 3) := by decide +kernel
theorem dX8_way_99 : decode cX8_way 99 = .ok (.iload_n 3, 1) := by decide +kernel
theorem dX8_way_100 : decode cX8_way 100 = .ok (.ifCond .gt 13, 3) := by decide +kernel
theorem dX8_way_103 : decode cX8_way 103 = .ok (.aload_n 0, 1) := by decide +kernel
theorem dX8_way_104 : decode cX8_way 104 = .ok (.iload_n 1, 1) := by decide +kernel
theorem dX8_way_105 : decode cX8_way 105 = .ok (.bipush 6, 2) := by decide +kernel
theorem dX8_way_107 : decode cX8_way 107 = .ok (.invokevirtual 119, 3) := by decide +kernel
theorem dX8_way_110 : decode cX8_way 110 = .ok (.ifCond .ne 7, 3) := by decide +kernel
theorem dX8_way_113 : decode cX8_way 113 = .ok (.aload_n 0, 1) := by decide +kernel
theorem dX8_way_114 : decode cX8_way 114 = .ok (.invokevirtual 169, 3) := by decide +kernel
theorem dX8_way_117 : decode cX8_way 117 = .ok (.aload_n 0, 1) := by decide +kernel
theorem dX8_way_118 : decode cX8_way 118 = .ok (.iload_n 1, 1) := by decide +kernel
theorem dX8_way_119 : decode cX8_way 119 = .ok (.aload_n 0, 1) := by decide +kernel
theorem dX8_way_120 : decode cX8_way 120 = .ok (.getfield 7, 3) := by decide +kernel
theorem dX8_way_123 : decode cX8_way 123 = .ok (.iconst 3, 1) := by decide +kernel
theorem dX8_way_124 : decode cX8_way 124 = .ok (.iaload, 1) := by decide +kernel
theorem dX8_way_125 : decode cX8_way 125 = .ok (.iload_n 3, 1) := by decide +kernel
theorem dX8_way_126 : decode cX8_way 126 = .ok (.iadd, 1) := by decide +kernel
theorem dX8_way_127 : decode cX8_way 127 = .ok (.invokevirtual 172, 3) := by decide +kernel
theorem dX8_way_130 : decode cX8_way 130 = .ok (.istore 4, 2) := by decide +kernel
theorem dX8_way_132 : decode cX8_way 132 = .ok (.iload 4, 2) := by decide +kernel
theorem dX8_way_134 : decode cX8_way 134 = .ok (.ldc 165, 2) := by decide +kernel
theorem dX8_way_136 : decode cX8_way 136 = .ok (.if_icmp .ge 21, 3) := by decide +kernel
theorem dX8_way_139 : decode cX8_way 139 = .ok (.iload_n 2, 1) := by decide +kernel
theorem dX8_way_140 : decode cX8_way 140 = .ok (.ifCond .ne 14, 3) := by decide +kernel
theorem dX8_way_143 : decode cX8_way 143 = .ok (.aload_n 0, 1) := by decide +kernel
theorem dX8_way_144 : decode cX8_way 144 = .ok (.getfield 7, 3) := by decide +kernel
theorem dX8_way_147 : decode cX8_way 147 = .ok (.iconst 3, 1) := by decide +kernel
theorem dX8_way_148 : decode cX8_way 148 = .ok (.iaload, 1) := by decide +kernel
theorem dX8_way_149 : decode cX8_way 149 = .ok (.iload_n 3, 1) := by decide +kernel
theorem dX8_way_150 : decode cX8_way 150 = .ok (.iadd, 1) := by decide +kernel
theorem dX8_way_151 : decode cX8_way 151 = .ok (.goto 5, 3) := by decide +kernel
theorem dX8_way_154 : decode cX8_way 154 = .ok (.iload 4, 2) := by decide +kernel
theorem dX8_way_156 : decode cX8_way 156 = .ok (.ireturn, 1) := by decide +kernel
theorem dX8_way_157 : decode cX8_way 157 = .ok (.iinc 3 1, 3) := by decide +kernel
theorem dX8_way_160 : decode cX8_way 160 = .ok (.goto (-67), 3) := by decide +kernel
theorem dX8_way_163 : decode cX8_way 163 = .ok (.iconst (-1), 1) := by decide +kernel
theorem dX8_way_164 : decode cX8_way 164 = .ok (.ireturn, 1) := by decide +kernel
theorem dX8_goAside_0 : decode cX8_goAside 0 = .ok (.iconst 0, 1) := by decide +kernel
theorem dX8_goAside_1 : decode cX8_goAside 1 = .ok (.istore_n 2, 1) := by decide +kernel
theorem dX8_goAside_2 : decode cX8_goAside 2 = .ok (.iload_n 2, 1) := by decide +kernel
theorem dX8_goAside_3 : decode cX8_goAside 3 = .ok (.bipush 8, 2) := by decide +kernel
theorem dX8_goAside_5 : decode cX8_goAside 5 = .ok (.if_icmp .ge 38, 3) := by decide +kernel
theorem dX8_goAside_8 : decode cX8_goAside 8 = .ok (.aload_n 0, 1) := by decide +kernel
theorem dX8_goAside_9 : decode cX8_goAside 9 = .ok (.aload_n 0, 1) := by decide +kernel
theorem dX8_goAside_10 : decode cX8_goAside 10 = .ok (.iload_n 1, 1) := by decide +kernel
theorem dX8_goAside_11 : decode cX8_goAside 11 = .ok (.iconst 1, 1) := by decide +kernel
theorem dX8_goAside_12 : decode cX8_goAside 12 = .ok (.invokevirtual 119, 3) := by decide +kernel
theorem dX8_goAside_15 : decode cX8_goAside 15 = .ok (.iload_n 2, 1) := by decide +kernel
theorem dX8_goAside_16 : decode cX8_goAside 16 = .ok (.invokevirtual 96, 3) := by decide +kernel
theorem dX8_goAside_19 : decode cX8_goAside 19 = .ok (.ifCond .le 18, 3) := by decide +kernel
theorem dX8_goAside_22 : decode cX8_goAside 22 = .ok (.aload_n 0, 1) := by decide +kernel
theorem dX8_goAside_23 : decode cX8_goAside 23 = .ok (.getfield 27, 3) := by decide +kernel
theorem dX8_goAside_26 : decode cX8_goAside 26 = .ok (.iload_n 1, 1) := by decide +kernel
theorem dX8_goAside_27 : decode cX8_goAside 27 = .ok (.iload_n 2, 1) := by decide +kernel
theorem dX8_goAside_28 : decode cX8_goAside 28 = .ok (.iastore, 1) := by decide +kernel
theorem dX8_goAside_29 : decode cX8_goAside 29 = .ok (.aload_n 0, 1) := by decide +kernel
theorem dX8_goAside_30 : decode cX8_goAside 30 = .ok (.getfield 30, 3) := by decide +kernel
theorem dX8_goAside_33 : decode cX8_goAside 33 = .ok (.iload_n 1, 1) := by decide +kernel
theorem dX8_goAside_34 : decode cX8_goAside 34 = .ok (.iconst 0, 1) := by decide +kernel
theorem dX8_goAside_35 : decode cX8_goAside 35 = .ok (.iastore, 1) := by decide +kernel
theorem dX8_goAside_36 : decode cX8_goAside 36 = .ok (.return_, 1) := by decide +kernel
theorem dX8_goAside_37 : decode cX8_goAside 37 = .ok (.iinc 2 1, 3) := by decide +kernel
theorem dX8_goAside_40 : decode cX8_goAside 40 = .ok (.goto (-38), 3) := by decide +kernel
theorem dX8_goAside_43 : decode cX8_goAside 43 = .ok (.return_, 1) := by decide +kernel
theorem dX8_layHas_0 : decode cX8_layHas 0 = .ok (.iconst 0, 1) := by decide +kernel
theorem dX8_layHas_1 : decode cX8_layHas 1 = .ok (.istore_n 3, 1) := by decide +kernel
theorem dX8_layHas_2 : decode cX8_layHas 2 = .ok (.iload_n 3, 1) := by decide +kernel
theorem dX8_layHas_3 : decode cX8_layHas 3 = .ok (.iconst 4, 1) := by decide +kernel
theorem dX8_layHas_4 : decode cX8_layHas 4 = .ok (.if_icmp .ge 146, 3) := by decide +kernel
theorem dX8_layHas_7 : decode cX8_layHas 7 = .ok (.ldc 165, 2) := by decide +kernel
theorem dX8_layHas_9 : decode cX8_layHas 9 = .ok (.istore 4, 2) := by decide +kernel
theorem dX8_layHas_11 : decode cX8_layHas 11 = .ok (.ldc 165, 2) := by decide +kernel
theorem dX8_layHas_13 : decode cX8_layHas 13 = .ok (.istore 5, 2) := by decide +kernel
theorem dX8_layHas_15 : decode cX8_layHas 15 = .ok (.aload_n 0, 1) := by decide +kernel
theorem dX8_layHas_16 : decode cX8_layHas 16 = .ok (.invokevirtual 150, 3) := by decide +kernel
theorem dX8_layHas_19 : decode cX8_layHas 19 = .ok (.iload_n 3, 1) := by decide +kernel
theorem dX8_layHas_20 : decode cX8_layHas 20 = .ok (.iconst 1, 1) := by decide +kernel
theorem dX8_layHas_21 : decode cX8_layHas 21 = .ok (.iand, 1) := by decide +kernel
theorem dX8_layHas_22 : decode cX8_layHas 22 = .ok (.iconst 1, 1) := by decide +kernel
theorem dX8_layHas_23 : decode cX8_layHas 23 = .ok (.if_icmp .ne 8, 3) := by decide +kernel
theorem dX8_layHas_26 : decode cX8_layHas 26 = .ok (.aload_n 0, 1) := by decide +kernel
theorem dX8_layHas_27 : decode cX8_layHas 27 = .ok (.iload_n 1, 1) := by decide +kernel
theorem dX8_layHas_28 : decode cX8_layHas 28 = .ok (.invokevirtual 175, 3) := by decide +kernel
theorem dX8_layHas_31 : decode cX8_layHas 31 = .ok (.iload_n 3, 1) := by decide +kernel
theorem dX8_layHas_32 : decode cX8_layHas 32 = .ok (.iconst 1, 1) := by decide +kernel
theorem dX8_layHas_33 : decode cX8_layHas 33 = .ok (.if_icmp .le 8, 3) := by decide +kernel
theorem dX8_layHas_36 : decode cX8_layHas 36 = .ok (.aload_n 0, 1) := by decide +kernel
theorem dX8_layHas_37 : decode cX8_layHas 37 = .ok (.iload_n 2, 1) := by decide +kernel
theorem dX8_layHas_38 : decode cX8_layHas 38 = .ok (.invokevirtual 175, 3) := by decide +kernel
theorem dX8_layHas_41 : decode cX8_layHas 41 = .ok (.iconst 0, 1) := by decide +kernel
theorem dX8_layHas_42 : decode cX8_layHas 42 = .ok (.istore 6, 2) := by decide +kernel
theorem dX8_layHas_44 : decode cX8_layHas 44 = .ok (.iload 6, 2) := by decide +kernel
theorem dX8_layHas_46 : decode cX8_layHas 46 = .ok (.bipush 60, 2) := by decide +kernel
theorem dX8_layHas_48 : decode cX8_layHas 48 = .ok (.if_icmp .ge 53, 3) := by decide +kernel
theorem dX8_layHas_51 : decode cX8_layHas 51 = .ok (.aload_n 0, 1) := by decide +kernel
theorem dX8_layHas_52 : decode cX8_layHas 52 = .ok (.invokevirtual 153, 3) := by decide +kernel
theorem dX8_layHas_55 : decode cX8_layHas 55 = .ok (.istore 7, 2) := by decide +kernel
theorem dX8_layHas_57 : decode cX8_layHas 57 = .ok (.iload 7, 2) := by decide +kernel
theorem dX8_layHas_59 : decode cX8_layHas 59 = .ok (.iload_n 1, 1) := by decide +kernel
theorem dX8_layHas_60 : decode cX8_layHas 60 = .ok (.ishr, 1) := by decide +kernel
theorem dX8_layHas_61 : decode cX8_layHas 61 = .ok (.iconst 1, 1) := by decide +kernel
theorem dX8_layHas_62 : decode cX8_layHas 62 = .ok (.iand, 1) := by decide +kernel
theorem dX8_layHas_63 : decode cX8_layHas 63 = .ok (.iconst 1, 1) := by decide +kernel
theorem dX8_layHas_64 : decode cX8_layHas 64 = .ok (.if_icmp .ne 8, 3) := by decide +kernel
theorem dX8_layHas_67 : decode cX8_layHas 67 = .ok (.iload 6, 2) := by decide +kernel
theorem dX8_layHas_69 : decode cX8_layHas 69 = .ok (.goto 5, 3) := by decide +kernel
theorem dX8_layHas_72 : decode cX8_layHas 72 = .ok (.iload 4, 2) := by decide +kernel
theorem dX8_layHas_74 : decode cX8_layHas 74 = .ok (.istore 4, 2) := by decide +kernel
theorem dX8_layHas_76 : decode cX8_layHas 76 = .ok (.iload 7, 2) := by decide +kernel
theorem dX8_layHas_78 : decode cX8_layHas 78 = .ok (.iload_n 2, 1) := by decide +kernel
theorem dX8_layHas_79 : decode cX8_layHas 79 = .ok (.ishr, 1) := by decide +kernel
theorem dX8_layHas_80 : decode cX8_layHas 80 = .ok (.iconst 1, 1) := by decide +kernel
theorem dX8_layHas_81 : decode cX8_layHas 81 = .ok (.iand, 1) := by decide +kernel
theorem dX8_layHas_82 : decode cX8_layHas 82 = .ok (.iconst 1, 1) := by decide +kernel
theorem dX8_layHas_83 : decode cX8_layHas 83 = .ok (.if_icmp .ne 8, 3) := by decide +kernel
theorem dX8_layHas_86 : decode cX8_layHas 86 = .ok (.iload 6, 2) := by decide +kernel
theorem dX8_layHas_88 : decode cX8_layHas 88 = .ok (.goto 5, 3) := by decide +kernel
theorem dX8_layHas_91 : decode cX8_layHas 91 = .ok (.iload 5, 2) := by decide +kernel
theorem dX8_layHas_93 : decode cX8_layHas 93 = .ok (.istore 5, 2) := by decide +kernel
theorem dX8_layHas_95 : decode cX8_layHas 95 = .ok (.iinc 6 1, 3) := by decide +kernel
theorem dX8_layHas_98 : decode cX8_layHas 98 = .ok (.goto (-54), 3) := by decide +kernel
theorem dX8_layHas_101 : decode cX8_layHas 101 = .ok (.aload_n 0, 1) := by decide +kernel
theorem dX8_layHas_102 : decode cX8_layHas 102 = .ok (.getfield 48, 3) := by decide +kernel
theorem dX8_layHas_105 : decode cX8_layHas 105 = .ok (.iload_n 3, 1) := by decide +kernel
theorem dX8_layHas_106 : decode cX8_layHas 106 = .ok (.iload 4, 2) := by decide +kernel
theorem dX8_layHas_108 : decode cX8_layHas 108 = .ok (.iload 5, 2) := by decide +kernel
theorem dX8_layHas_110 : decode cX8_layHas 110 = .ok (.if_icmp .ge 7, 3) := by decide +kernel
theorem dX8_layHas_113 : decode cX8_layHas 113 = .ok (.iconst 2, 1) := by decide +kernel
theorem dX8_layHas_114 : decode cX8_layHas 114 = .ok (.goto 15, 3) := by decide +kernel
theorem dX8_layHas_117 : decode cX8_layHas 117 = .ok (.iload 4, 2) := by decide +kernel
theorem dX8_layHas_119 : decode cX8_layHas 119 = .ok (.iload 5, 2) := by decide +kernel
theorem dX8_layHas_121 : decode cX8_layHas 121 = .ok (.if_icmp .ne 7, 3) := by decide +kernel
theorem dX8_layHas_124 : decode cX8_layHas 124 = .ok (.iconst 1, 1) := by decide +kernel
theorem dX8_layHas_125 : decode cX8_layHas 125 = .ok (.goto 4, 3) := by decide +kernel
theorem dX8_layHas_128 : decode cX8_layHas 128 = .ok (.iconst 0, 1) := by decide +kernel
theorem dX8_layHas_129 : decode cX8_layHas 129 = .ok (.iastore, 1) := by decide +kernel
theorem dX8_layHas_130 : decode cX8_layHas 130 = .ok (.aload_n 0, 1) := by decide +kernel
theorem dX8_layHas_131 : decode cX8_layHas 131 = .ok (.getfield 51, 3) := by decide +kernel
theorem dX8_layHas_134 : decode cX8_layHas 134 = .ok (.iload_n 3, 1) := by decide +kernel
theorem dX8_layHas_135 : decode cX8_layHas 135 = .ok (.iconst 2, 1) := by decide +kernel
theorem dX8_layHas_136 : decode cX8_layHas 136 = .ok (.aload_n 0, 1) := by decide +kernel
theorem dX8_layHas_137 : decode cX8_layHas 137 = .ok (.getfield 48, 3) := by decide +kernel
theorem dX8_layHas_140 : decode cX8_layHas 140 = .ok (.iload_n 3, 1) := by decide +kernel
theorem dX8_layHas_141 : decode cX8_layHas 141 = .ok (.iaload, 1) := by decide +kernel
theorem dX8_layHas_142 : decode cX8_layHas 142 = .ok (.isub, 1) := by decide +kernel
theorem dX8_layHas_143 : decode cX8_layHas 143 = .ok (.iastore, 1) := by decide +kernel
theorem dX8_layHas_144 : decode cX8_layHas 144 = .ok (.iinc 3 1, 3) := by decide +kernel
theorem dX8_layHas_147 : decode cX8_layHas 147 = .ok (.goto (-145), 3) := by decide +kernel
theorem dX8_layHas_150 : decode cX8_layHas 150 = .ok (.return_, 1) := by decide +kernel
theorem dX8_choose_0 : decode cX8_choose 0 = .ok (.aload_n 0, 1) := by decide +kernel
theorem dX8_choose_1 : decode cX8_choose 1 = .ok (.iload_n 1, 1) := by decide +kernel
theorem dX8_choose_2 : decode cX8_choose 2 = .ok (.invokevirtual 137, 3) := by decide +kernel
theorem dX8_choose_5 : decode cX8_choose 5 = .ok (.ifCond .eq 16, 3) := by decide +kernel
theorem dX8_choose_8 : decode cX8_choose 8 = .ok (.aload_n 0, 1) := by decide +kernel
theorem dX8_choose_9 : decode cX8_choose 9 = .ok (.iload_n 2, 1) := by decide +kernel
theorem dX8_choose_10 : decode cX8_choose 10 = .ok (.invokevirtual 137, 3) := by decide +kernel
theorem dX8_choose_13 : decode cX8_choose 13 = .ok (.ifCond .eq 8, 3) := by decide +kernel
theorem dX8_choose_16 : decode cX8_choose 16 = .ok (.iload_n 1, 1) := by decide +kernel
theorem dX8_choose_17 : decode cX8_choose 17 = .ok (.iload_n 2, 1) := by decide +kernel
theorem dX8_choose_18 : decode cX8_choose 18 = .ok (.if_icmp .ne 10, 3) := by decide +kernel
theorem dX8_choose_21 : decode cX8_choose 21 = .ok (.aload_n 0, 1) := by decide +kernel
theorem dX8_choose_22 : decode cX8_choose 22 = .ok (.bipush (-2), 2) := by decide +kernel
theorem dX8_choose_24 : decode cX8_choose 24 = .ok (.invokevirtual 86, 3) := by decide +kernel
theorem dX8_choose_27 : decode cX8_choose 27 = .ok (.ireturn, 1) := by decide +kernel
theorem dX8_choose_28 : decode cX8_choose 28 = .ok (.aload_n 0, 1) := by decide +kernel
theorem dX8_choose_29 : decode cX8_choose 29 = .ok (.iload_n 1, 1) := by decide +kernel
theorem dX8_choose_30 : decode cX8_choose 30 = .ok (.iconst 4, 1) := by decide +kernel
theorem dX8_choose_31 : decode cX8_choose 31 = .ok (.invokevirtual 119, 3) := by decide +kernel
theorem dX8_choose_34 : decode cX8_choose 34 = .ok (.ifCond .ne 12, 3) := by decide +kernel
theorem dX8_choose_37 : decode cX8_choose 37 = .ok (.aload_n 0, 1) := by decide +kernel
theorem dX8_choose_38 : decode cX8_choose 38 = .ok (.iload_n 2, 1) := by decide +kernel
theorem dX8_choose_39 : decode cX8_choose 39 = .ok (.iconst 4, 1) := by decide +kernel
theorem dX8_choose_40 : decode cX8_choose 40 = .ok (.invokevirtual 119, 3) := by decide +kernel
theorem dX8_choose_43 : decode cX8_choose 43 = .ok (.ifCond .eq 8, 3) := by decide +kernel
theorem dX8_choose_46 : decode cX8_choose 46 = .ok (.aload_n 0, 1) := by decide +kernel
theorem dX8_choose_47 : decode cX8_choose 47 = .ok (.invokevirtual 140, 3) := by decide +kernel
theorem dX8_choose_50 : decode cX8_choose 50 = .ok (.ireturn, 1) := by decide +kernel
theorem dX8_choose_51 : decode cX8_choose 51 = .ok (.aload_n 0, 1) := by decide +kernel
theorem dX8_choose_52 : decode cX8_choose 52 = .ok (.iload_n 1, 1) := by decide +kernel
theorem dX8_choose_53 : decode cX8_choose 53 = .ok (.iload_n 2, 1) := by decide +kernel
theorem dX8_choose_54 : decode cX8_choose 54 = .ok (.invokevirtual 179, 3) := by decide +kernel
theorem dX8_choose_57 : decode cX8_choose 57 = .ok (.iconst 0, 1) := by decide +kernel
theorem dX8_choose_58 : decode cX8_choose 58 = .ok (.istore_n 3, 1) := by decide +kernel
theorem dX8_choose_59 : decode cX8_choose 59 = .ok (.iconst 0, 1) := by decide +kernel
theorem dX8_choose_60 : decode cX8_choose 60 = .ok (.istore 4, 2) := by decide +kernel
theorem dX8_choose_62 : decode cX8_choose 62 = .ok (.iload 4, 2) := by decide +kernel
theorem dX8_choose_64 : decode cX8_choose 64 = .ok (.iconst 4, 1) := by decide +kernel
theorem dX8_choose_65 : decode cX8_choose 65 = .ok (.if_icmp .ge 70, 3) := by decide +kernel
theorem dX8_choose_68 : decode cX8_choose 68 = .ok (.aload_n 0, 1) := by decide +kernel
theorem dX8_choose_69 : decode cX8_choose 69 = .ok (.getfield 48, 3) := by decide +kernel
theorem dX8_choose_72 : decode cX8_choose 72 = .ok (.iload 4, 2) := by decide +kernel
theorem dX8_choose_74 : decode cX8_choose 74 = .ok (.iaload, 1) := by decide +kernel
theorem dX8_choose_75 : decode cX8_choose 75 = .ok (.aload_n 0, 1) := by decide +kernel
theorem dX8_choose_76 : decode cX8_choose 76 = .ok (.getfield 48, 3) := by decide +kernel
theorem dX8_choose_79 : decode cX8_choose 79 = .ok (.iload 4, 2) := by decide +kernel
theorem dX8_choose_81 : decode cX8_choose 81 = .ok (.iconst 1, 1) := by decide +kernel
theorem dX8_choose_82 : decode cX8_choose 82 = .ok (.ixor, 1) := by decide +kernel
theorem dX8_choose_83 : decode cX8_choose 83 = .ok (.iaload, 1) := by decide +kernel
theorem dX8_choose_84 : decode cX8_choose 84 = .ok (.if_icmp .lt 26, 3) := by decide +kernel
theorem dX8_choose_87 : decode cX8_choose 87 = .ok (.aload_n 0, 1) := by decide +kernel
theorem dX8_choose_88 : decode cX8_choose 88 = .ok (.getfield 51, 3) := by decide +kernel
theorem dX8_choose_91 : decode cX8_choose 91 = .ok (.iload 4, 2) := by decide +kernel
theorem dX8_choose_93 : decode cX8_choose 93 = .ok (.iaload, 1) := by decide +kernel
theorem dX8_choose_94 : decode cX8_choose 94 = .ok (.aload_n 0, 1) := by decide +kernel
theorem dX8_choose_95 : decode cX8_choose 95 = .ok (.getfield 51, 3) := by decide +kernel
theorem dX8_choose_98 : decode cX8_choose 98 = .ok (.iload 4, 2) := by decide +kernel
theorem dX8_choose_100 : decode cX8_choose 100 = .ok (.iconst 2, 1) := by decide +kernel
theorem dX8_choose_101 : decode cX8_choose 101 = .ok (.ixor, 1) := by decide +kernel
theorem dX8_choose_102 : decode cX8_choose 102 = .ok (.iaload, 1) := by decide +kernel
theorem dX8_choose_103 : decode cX8_choose 103 = .ok (.if_icmp .lt 7, 3) := by decide +kernel
theorem dX8_choose_106 : decode cX8_choose 106 = .ok (.iconst 1, 1) := by decide +kernel
theorem dX8_choose_107 : decode cX8_choose 107 = .ok (.goto 4, 3) := by decide +kernel
theorem dX8_choose_110 : decode cX8_choose 110 = .ok (.iconst 0, 1) := by decide +kernel
theorem dX8_choose_111 : decode cX8_choose 111 = .ok (.istore 5, 2) := by decide +kernel
theorem dX8_choose_113 : decode cX8_choose 113 = .ok (.iload_n 3, 1) := by decide +kernel
theorem dX8_choose_114 : decode cX8_choose 114 = .ok (.iload 5, 2) := by decide +kernel
theorem dX8_choose_116 : decode cX8_choose 116 = .ok (.ifCond .eq 10, 3) := by decide +kernel
theorem dX8_choose_119 : decode cX8_choose 119 = .ok (.iconst 1, 1) := by decide +kernel
theorem dX8_choose_120 : decode cX8_choose 120 = .ok (.iload 4, 2) := by decide +kernel
theorem dX8_choose_122 : decode cX8_choose 122 = .ok (.ishl, 1) := by decide +kernel
theorem dX8_choose_123 : decode cX8_choose 123 = .ok (.goto 4, 3) := by decide +kernel
theorem dX8_choose_126 : decode cX8_choose 126 = .ok (.iconst 0, 1) := by decide +kernel
theorem dX8_choose_127 : decode cX8_choose 127 = .ok (.ior, 1) := by decide +kernel
theorem dX8_choose_128 : decode cX8_choose 128 = .ok (.istore_n 3, 1) := by decide +kernel
theorem dX8_choose_129 : decode cX8_choose 129 = .ok (.iinc 4 1, 3) := by decide +kernel
theorem dX8_choose_132 : decode cX8_choose 132 = .ok (.goto (-70), 3) := by decide +kernel
theorem dX8_choose_135 : decode cX8_choose 135 = .ok (.iload_n 3, 1) := by decide +kernel
theorem dX8_choose_136 : decode cX8_choose 136 = .ok (.ireturn, 1) := by decide +kernel
theorem dX8_fraction_0 : decode cX8_fraction 0 = .ok (.iload_n 1, 1) := by decide +kernel
theorem dX8_fraction_1 : decode cX8_fraction 1 = .ok (.istore_n 3, 1) := by decide +kernel
theorem dX8_fraction_2 : decode cX8_fraction 2 = .ok (.iload_n 2, 1) := by decide +kernel
theorem dX8_fraction_3 : decode cX8_fraction 3 = .ok (.istore 4, 2) := by decide +kernel
theorem dX8_fraction_5 : decode cX8_fraction 5 = .ok (.iload 4, 2) := by decide +kernel
theorem dX8_fraction_7 : decode cX8_fraction 7 = .ok (.ifCond .eq 19, 3) := by decide +kernel
theorem dX8_fraction_10 : decode cX8_fraction 10 = .ok (.iload_n 3, 1) := by decide +kernel
theorem dX8_fraction_11 : decode cX8_fraction 11 = .ok (.iload 4, 2) := by decide +kernel
theorem dX8_fraction_13 : decode cX8_fraction 13 = .ok (.irem, 1) := by decide +kernel
theorem dX8_fraction_14 : decode cX8_fraction 14 = .ok (.istore 5, 2) := by decide +kernel
theorem dX8_fraction_16 : decode cX8_fraction 16 = .ok (.iload 4, 2) := by decide +kernel
theorem dX8_fraction_18 : decode cX8_fraction 18 = .ok (.istore_n 3, 1) := by decide +kernel
theorem dX8_fraction_19 : decode cX8_fraction 19 = .ok (.iload 5, 2) := by decide +kernel
theorem dX8_fraction_21 : decode cX8_fraction 21 = .ok (.istore 4, 2) := by decide +kernel
theorem dX8_fraction_23 : decode cX8_fraction 23 = .ok (.goto (-18), 3) := by decide +kernel
theorem dX8_fraction_26 : decode cX8_fraction 26 = .ok (.aload_n 0, 1) := by decide +kernel
theorem dX8_fraction_27 : decode cX8_fraction 27 = .ok (.iload_n 1, 1) := by decide +kernel
theorem dX8_fraction_28 : decode cX8_fraction 28 = .ok (.iload_n 3, 1) := by decide +kernel
theorem dX8_fraction_29 : decode cX8_fraction 29 = .ok (.idiv, 1) := by decide +kernel
theorem dX8_fraction_30 : decode cX8_fraction 30 = .ok (.i2l, 1) := by decide +kernel
theorem dX8_fraction_31 : decode cX8_fraction 31 = .ok (.putfield 183, 3) := by decide +kernel
theorem dX8_fraction_34 : decode cX8_fraction 34 = .ok (.aload_n 0, 1) := by decide +kernel
theorem dX8_fraction_35 : decode cX8_fraction 35 = .ok (.iload_n 2, 1) := by decide +kernel
theorem dX8_fraction_36 : decode cX8_fraction 36 = .ok (.iload_n 3, 1) := by decide +kernel
theorem dX8_fraction_37 : decode cX8_fraction 37 = .ok (.idiv, 1) := by decide +kernel
theorem dX8_fraction_38 : decode cX8_fraction 38 = .ok (.i2l, 1) := by decide +kernel
theorem dX8_fraction_39 : decode cX8_fraction 39 = .ok (.putfield 23, 3) := by decide +kernel
theorem dX8_fraction_42 : decode cX8_fraction 42 = .ok (.return_, 1) := by decide +kernel
theorem dX8_odds_0 : decode cX8_odds 0 = .ok (.aload_n 0, 1) := by decide +kernel
theorem dX8_odds_1 : decode cX8_odds 1 = .ok (.iload_n 1, 1) := by decide +kernel
theorem dX8_odds_2 : decode cX8_odds 2 = .ok (.invokevirtual 137, 3) := by decide +kernel
theorem dX8_odds_5 : decode cX8_odds 5 = .ok (.ifCond .ne 10, 3) := by decide +kernel
theorem dX8_odds_8 : decode cX8_odds 8 = .ok (.aload_n 0, 1) := by decide +kernel
theorem dX8_odds_9 : decode cX8_odds 9 = .ok (.bipush (-2), 2) := by decide +kernel
theorem dX8_odds_11 : decode cX8_odds 11 = .ok (.invokevirtual 86, 3) := by decide +kernel
theorem dX8_odds_14 : decode cX8_odds 14 = .ok (.ireturn, 1) := by decide +kernel
theorem dX8_odds_15 : decode cX8_odds 15 = .ok (.iconst 0, 1) := by decide +kernel
theorem dX8_odds_16 : decode cX8_odds 16 = .ok (.istore_n 2, 1) := by decide +kernel
theorem dX8_odds_17 : decode cX8_odds 17 = .ok (.iconst 1, 1) := by decide +kernel
theorem dX8_odds_18 : decode cX8_odds 18 = .ok (.istore_n 3, 1) := by decide +kernel
theorem dX8_odds_19 : decode cX8_odds 19 = .ok (.iload_n 3, 1) := by decide +kernel
theorem dX8_odds_20 : decode cX8_odds 20 = .ok (.bipush 26, 2) := by decide +kernel
theorem dX8_odds_22 : decode cX8_odds 22 = .ok (.if_icmp .ge 29, 3) := by decide +kernel
theorem dX8_odds_25 : decode cX8_odds 25 = .ok (.aload_n 0, 1) := by decide +kernel
theorem dX8_odds_26 : decode cX8_odds 26 = .ok (.invokevirtual 150, 3) := by decide +kernel
theorem dX8_odds_29 : decode cX8_odds 29 = .ok (.aload_n 0, 1) := by decide +kernel
theorem dX8_odds_30 : decode cX8_odds 30 = .ok (.iload_n 3, 1) := by decide +kernel
theorem dX8_odds_31 : decode cX8_odds 31 = .ok (.putfield 116, 3) := by decide +kernel
theorem dX8_odds_34 : decode cX8_odds 34 = .ok (.iload_n 2, 1) := by decide +kernel
theorem dX8_odds_35 : decode cX8_odds 35 = .ok (.aload_n 0, 1) := by decide +kernel
theorem dX8_odds_36 : decode cX8_odds 36 = .ok (.invokevirtual 162, 3) := by decide +kernel
theorem dX8_odds_39 : decode cX8_odds 39 = .ok (.iload_n 1, 1) := by decide +kernel
theorem dX8_odds_40 : decode cX8_odds 40 = .ok (.ishr, 1) := by decide +kernel
theorem dX8_odds_41 : decode cX8_odds 41 = .ok (.iconst 1, 1) := by decide +kernel
theorem dX8_odds_42 : decode cX8_odds 42 = .ok (.iand, 1) := by decide +kernel
theorem dX8_odds_43 : decode cX8_odds 43 = .ok (.iadd, 1) := by decide +kernel
theorem dX8_odds_44 : decode cX8_odds 44 = .ok (.istore_n 2, 1) := by decide +kernel
theorem dX8_odds_45 : decode cX8_odds 45 = .ok (.iinc 3 1, 3) := by decide +kernel
theorem dX8_odds_48 : decode cX8_odds 48 = .ok (.goto (-29), 3) := by decide +kernel
theorem dX8_odds_51 : decode cX8_odds 51 = .ok (.aload_n 0, 1) := by decide +kernel
theorem dX8_odds_52 : decode cX8_odds 52 = .ok (.iload_n 2, 1) := by decide +kernel
theorem dX8_odds_53 : decode cX8_odds 53 = .ok (.bipush 25, 2) := by decide +kernel
theorem dX8_odds_55 : decode cX8_odds 55 = .ok (.invokevirtual 186, 3) := by decide +kernel
theorem dX8_odds_58 : decode cX8_odds 58 = .ok (.iconst 1, 1) := by decide +kernel
theorem dX8_odds_59 : decode cX8_odds 59 = .ok (.ireturn, 1) := by decide +kernel
theorem dX8_seen_0 : decode cX8_seen 0 = .ok (.iload_n 1, 1) := by decide +kernel
theorem dX8_seen_1 : decode cX8_seen 1 = .ok (.invokestatic 90, 3) := by decide +kernel
theorem dX8_seen_4 : decode cX8_seen 4 = .ok (.ifCond .eq 25, 3) := by decide +kernel
theorem dX8_seen_7 : decode cX8_seen 7 = .ok (.iload_n 2, 1) := by decide +kernel
theorem dX8_seen_8 : decode cX8_seen 8 = .ok (.i2l, 1) := by decide +kernel
theorem dX8_seen_9 : decode cX8_seen 9 = .ok (.lconst 0, 1) := by decide +kernel
theorem dX8_seen_10 : decode cX8_seen 10 = .ok (.ldc2_w 189, 3) := by decide +kernel
theorem dX8_seen_13 : decode cX8_seen 13 = .ok (.invokestatic 78, 3) := by decide +kernel
theorem dX8_seen_16 : decode cX8_seen 16 = .ok (.ifCond .eq 13, 3) := by decide +kernel
theorem dX8_seen_19 : decode cX8_seen 19 = .ok (.iload_n 3, 1) := by decide +kernel
theorem dX8_seen_20 : decode cX8_seen 20 = .ok (.i2l, 1) := by decide +kernel
theorem dX8_seen_21 : decode cX8_seen 21 = .ok (.lconst 0, 1) := by decide +kernel
theorem dX8_seen_22 : decode cX8_seen 22 = .ok (.lconst 1, 1) := by decide +kernel
theorem dX8_seen_23 : decode cX8_seen 23 = .ok (.invokestatic 78, 3) := by decide +kernel
theorem dX8_seen_26 : decode cX8_seen 26 = .ok (.ifCond .ne 10, 3) := by decide +kernel
theorem dX8_seen_29 : decode cX8_seen 29 = .ok (.aload_n 0, 1) := by decide +kernel
theorem dX8_seen_30 : decode cX8_seen 30 = .ok (.bipush (-2), 2) := by decide +kernel
theorem dX8_seen_32 : decode cX8_seen 32 = .ok (.invokevirtual 86, 3) := by decide +kernel
theorem dX8_seen_35 : decode cX8_seen 35 = .ok (.ireturn, 1) := by decide +kernel
theorem dX8_seen_36 : decode cX8_seen 36 = .ok (.aload_n 0, 1) := by decide +kernel
theorem dX8_seen_37 : decode cX8_seen 37 = .ok (.getfield 7, 3) := by decide +kernel
theorem dX8_seen_40 : decode cX8_seen 40 = .ok (.iconst 5, 1) := by decide +kernel
theorem dX8_seen_41 : decode cX8_seen 41 = .ok (.iaload, 1) := by decide +kernel
theorem dX8_seen_42 : decode cX8_seen 42 = .ok (.bipush 6, 2) := by decide +kernel
theorem dX8_seen_44 : decode cX8_seen 44 = .ok (.if_icmp .ne 8, 3) := by decide +kernel
theorem dX8_seen_47 : decode cX8_seen 47 = .ok (.aload_n 0, 1) := by decide +kernel
theorem dX8_seen_48 : decode cX8_seen 48 = .ok (.invokevirtual 104, 3) := by decide +kernel
theorem dX8_seen_51 : decode cX8_seen 51 = .ok (.ireturn, 1) := by decide +kernel
theorem dX8_seen_52 : decode cX8_seen 52 = .ok (.sipush 133, 3) := by decide +kernel
theorem dX8_seen_55 : decode cX8_seen 55 = .ok (.iconst 3, 1) := by decide +kernel
theorem dX8_seen_56 : decode cX8_seen 56 = .ok (.aload_n 0, 1) := by decide +kernel
theorem dX8_seen_57 : decode cX8_seen 57 = .ok (.getfield 7, 3) := by decide +kernel
theorem dX8_seen_60 : decode cX8_seen 60 = .ok (.iconst 5, 1) := by decide +kernel
theorem dX8_seen_61 : decode cX8_seen 61 = .ok (.iaload, 1) := by decide +kernel
theorem dX8_seen_62 : decode cX8_seen 62 = .ok (.imul, 1) := by decide +kernel
theorem dX8_seen_63 : decode cX8_seen 63 = .ok (.iadd, 1) := by decide +kernel
theorem dX8_seen_64 : decode cX8_seen 64 = .ok (.istore 4, 2) := by decide +kernel
theorem dX8_seen_66 : decode cX8_seen 66 = .ok (.aload_n 0, 1) := by decide +kernel
theorem dX8_seen_67 : decode cX8_seen 67 = .ok (.getfield 7, 3) := by decide +kernel
theorem dX8_seen_70 : decode cX8_seen 70 = .ok (.iload 4, 2) := by decide +kernel
theorem dX8_seen_72 : decode cX8_seen 72 = .ok (.iload_n 1, 1) := by decide +kernel
theorem dX8_seen_73 : decode cX8_seen 73 = .ok (.iastore, 1) := by decide +kernel
theorem dX8_seen_74 : decode cX8_seen 74 = .ok (.aload_n 0, 1) := by decide +kernel
theorem dX8_seen_75 : decode cX8_seen 75 = .ok (.getfield 7, 3) := by decide +kernel
theorem dX8_seen_78 : decode cX8_seen 78 = .ok (.iload 4, 2) := by decide +kernel
theorem dX8_seen_80 : decode cX8_seen 80 = .ok (.iconst 1, 1) := by decide +kernel
theorem dX8_seen_81 : decode cX8_seen 81 = .ok (.iadd, 1) := by decide +kernel
theorem dX8_seen_82 : decode cX8_seen 82 = .ok (.iload_n 2, 1) := by decide +kernel
theorem dX8_seen_83 : decode cX8_seen 83 = .ok (.iastore, 1) := by decide +kernel
theorem dX8_seen_84 : decode cX8_seen 84 = .ok (.aload_n 0, 1) := by decide +kernel
theorem dX8_seen_85 : decode cX8_seen 85 = .ok (.getfield 7, 3) := by decide +kernel
theorem dX8_seen_88 : decode cX8_seen 88 = .ok (.iload 4, 2) := by decide +kernel
theorem dX8_seen_90 : decode cX8_seen 90 = .ok (.iconst 2, 1) := by decide +kernel
theorem dX8_seen_91 : decode cX8_seen 91 = .ok (.iadd, 1) := by decide +kernel
theorem dX8_seen_92 : decode cX8_seen 92 = .ok (.iload_n 3, 1) := by decide +kernel
theorem dX8_seen_93 : decode cX8_seen 93 = .ok (.iastore, 1) := by decide +kernel
theorem dX8_seen_94 : decode cX8_seen 94 = .ok (.aload_n 0, 1) := by decide +kernel
theorem dX8_seen_95 : decode cX8_seen 95 = .ok (.getfield 7, 3) := by decide +kernel
theorem dX8_seen_98 : decode cX8_seen 98 = .ok (.iconst 5, 1) := by decide +kernel
theorem dX8_seen_99 : decode cX8_seen 99 = .ok (.dup2, 1) := by decide +kernel
theorem dX8_seen_100 : decode cX8_seen 100 = .ok (.iaload, 1) := by decide +kernel
theorem dX8_seen_101 : decode cX8_seen 101 = .ok (.iconst 1, 1) := by decide +kernel
theorem dX8_seen_102 : decode cX8_seen 102 = .ok (.iadd, 1) := by decide +kernel
theorem dX8_seen_103 : decode cX8_seen 103 = .ok (.iastore, 1) := by decide +kernel
theorem dX8_seen_104 : decode cX8_seen 104 = .ok (.aload_n 0, 1) := by decide +kernel
theorem dX8_seen_105 : decode cX8_seen 105 = .ok (.getfield 7, 3) := by decide +kernel
theorem dX8_seen_108 : decode cX8_seen 108 = .ok (.iconst 5, 1) := by decide +kernel
theorem dX8_seen_109 : decode cX8_seen 109 = .ok (.iaload, 1) := by decide +kernel
theorem dX8_seen_110 : decode cX8_seen 110 = .ok (.ireturn, 1) := by decide +kernel
theorem dX8_forget_0 : decode cX8_forget 0 = .ok (.aload_n 0, 1) := by decide +kernel
theorem dX8_forget_1 : decode cX8_forget 1 = .ok (.getfield 7, 3) := by decide +kernel
theorem dX8_forget_4 : decode cX8_forget 4 = .ok (.iconst 5, 1) := by decide +kernel
theorem dX8_forget_5 : decode cX8_forget 5 = .ok (.iaload, 1) := by decide +kernel
theorem dX8_forget_6 : decode cX8_forget 6 = .ok (.istore_n 1, 1) := by decide +kernel
theorem dX8_forget_7 : decode cX8_forget 7 = .ok (.aload_n 0, 1) := by decide +kernel
theorem dX8_forget_8 : decode cX8_forget 8 = .ok (.getfield 7, 3) := by decide +kernel
theorem dX8_forget_11 : decode cX8_forget 11 = .ok (.iconst 5, 1) := by decide +kernel
theorem dX8_forget_12 : decode cX8_forget 12 = .ok (.iconst 0, 1) := by decide +kernel
theorem dX8_forget_13 : decode cX8_forget 13 = .ok (.iastore, 1) := by decide +kernel
theorem dX8_forget_14 : decode cX8_forget 14 = .ok (.iload_n 1, 1) := by decide +kernel
theorem dX8_forget_15 : decode cX8_forget 15 = .ok (.ireturn, 1) := by decide +kernel
theorem dX8_mayBe_0 : decode cX8_mayBe 0 = .ok (.iconst 1, 1) := by decide +kernel
theorem dX8_mayBe_1 : decode cX8_mayBe 1 = .ok (.istore_n 3, 1) := by decide +kernel
theorem dX8_mayBe_2 : decode cX8_mayBe 2 = .ok (.iconst 0, 1) := by decide +kernel
theorem dX8_mayBe_3 : decode cX8_mayBe 3 = .ok (.istore 4, 2) := by decide +kernel
theorem dX8_mayBe_5 : decode cX8_mayBe 5 = .ok (.iload 4, 2) := by decide +kernel
theorem dX8_mayBe_7 : decode cX8_mayBe 7 = .ok (.aload_n 0, 1) := by decide +kernel
theorem dX8_mayBe_8 : decode cX8_mayBe 8 = .ok (.getfield 7, 3) := by decide +kernel
theorem dX8_mayBe_11 : decode cX8_mayBe 11 = .ok (.iconst 5, 1) := by decide +kernel
theorem dX8_mayBe_12 : decode cX8_mayBe 12 = .ok (.iaload, 1) := by decide +kernel
theorem dX8_mayBe_13 : decode cX8_mayBe 13 = .ok (.if_icmp .ge 79, 3) := by decide +kernel
theorem dX8_mayBe_16 : decode cX8_mayBe 16 = .ok (.sipush 133, 3) := by decide +kernel
theorem dX8_mayBe_19 : decode cX8_mayBe 19 = .ok (.iconst 3, 1) := by decide +kernel
theorem dX8_mayBe_20 : decode cX8_mayBe 20 = .ok (.iload 4, 2) := by decide +kernel
theorem dX8_mayBe_22 : decode cX8_mayBe 22 = .ok (.imul, 1) := by decide +kernel
theorem dX8_mayBe_23 : decode cX8_mayBe 23 = .ok (.iadd, 1) := by decide +kernel
theorem dX8_mayBe_24 : decode cX8_mayBe 24 = .ok (.istore 5, 2) := by decide +kernel
theorem dX8_mayBe_26 : decode cX8_mayBe 26 = .ok (.iload_n 3, 1) := by decide +kernel
theorem dX8_mayBe_27 : decode cX8_mayBe 27 = .ok (.ifCond .eq 57, 3) := by decide +kernel
theorem dX8_mayBe_30 : decode cX8_mayBe 30 = .ok (.aload_n 0, 1) := by decide +kernel
theorem dX8_mayBe_31 : decode cX8_mayBe 31 = .ok (.getfield 7, 3) := by decide +kernel
theorem dX8_mayBe_34 : decode cX8_mayBe 34 = .ok (.iload 5, 2) := by decide +kernel
theorem dX8_mayBe_36 : decode cX8_mayBe 36 = .ok (.iconst 1, 1) := by decide +kernel
theorem dX8_mayBe_37 : decode cX8_mayBe 37 = .ok (.iadd, 1) := by decide +kernel
theorem dX8_mayBe_38 : decode cX8_mayBe 38 = .ok (.iaload, 1) := by decide +kernel
theorem dX8_mayBe_39 : decode cX8_mayBe 39 = .ok (.iload_n 2, 1) := by decide +kernel
theorem dX8_mayBe_40 : decode cX8_mayBe 40 = .ok (.if_icmp .ne 40, 3) := by decide +kernel
theorem dX8_mayBe_43 : decode cX8_mayBe 43 = .ok (.aload_n 0, 1) := by decide +kernel
theorem dX8_mayBe_44 : decode cX8_mayBe 44 = .ok (.getfield 7, 3) := by decide +kernel
theorem dX8_mayBe_47 : decode cX8_mayBe 47 = .ok (.iload 5, 2) := by decide +kernel
theorem dX8_mayBe_49 : decode cX8_mayBe 49 = .ok (.iaload, 1) := by decide +kernel
theorem dX8_mayBe_50 : decode cX8_mayBe 50 = .ok (.iload_n 1, 1) := by decide +kernel
theorem dX8_mayBe_51 : decode cX8_mayBe 51 = .ok (.if_icmp .ne 7, 3) := by decide +kernel
theorem dX8_mayBe_54 : decode cX8_mayBe 54 = .ok (.iconst 1, 1) := by decide +kernel
theorem dX8_mayBe_55 : decode cX8_mayBe 55 = .ok (.goto 4, 3) := by decide +kernel
theorem dX8_mayBe_58 : decode cX8_mayBe 58 = .ok (.iconst 0, 1) := by decide +kernel
theorem dX8_mayBe_59 : decode cX8_mayBe 59 = .ok (.aload_n 0, 1) := by decide +kernel
theorem dX8_mayBe_60 : decode cX8_mayBe 60 = .ok (.getfield 7, 3) := by decide +kernel
theorem dX8_mayBe_63 : decode cX8_mayBe 63 = .ok (.iload 5, 2) := by decide +kernel
theorem dX8_mayBe_65 : decode cX8_mayBe 65 = .ok (.iconst 2, 1) := by decide +kernel
theorem dX8_mayBe_66 : decode cX8_mayBe 66 = .ok (.iadd, 1) := by decide +kernel
theorem dX8_mayBe_67 : decode cX8_mayBe 67 = .ok (.iaload, 1) := by decide +kernel
theorem dX8_mayBe_68 : decode cX8_mayBe 68 = .ok (.iconst 1, 1) := by decide +kernel
theorem dX8_mayBe_69 : decode cX8_mayBe 69 = .ok (.if_icmp .ne 7, 3) := by decide +kernel
theorem dX8_mayBe_72 : decode cX8_mayBe 72 = .ok (.iconst 1, 1) := by decide +kernel
theorem dX8_mayBe_73 : decode cX8_mayBe 73 = .ok (.goto 4, 3) := by decide +kernel
theorem dX8_mayBe_76 : decode cX8_mayBe 76 = .ok (.iconst 0, 1) := by decide +kernel
theorem dX8_mayBe_77 : decode cX8_mayBe 77 = .ok (.if_icmp .ne 7, 3) := by decide +kernel
theorem dX8_mayBe_80 : decode cX8_mayBe 80 = .ok (.iconst 1, 1) := by decide +kernel
theorem dX8_mayBe_81 : decode cX8_mayBe 81 = .ok (.goto 4, 3) := by decide +kernel
theorem dX8_mayBe_84 : decode cX8_mayBe 84 = .ok (.iconst 0, 1) := by decide +kernel
theorem dX8_mayBe_85 : decode cX8_mayBe 85 = .ok (.istore_n 3, 1) := by decide +kernel
theorem dX8_mayBe_86 : decode cX8_mayBe 86 = .ok (.iinc 4 1, 3) := by decide +kernel
theorem dX8_mayBe_89 : decode cX8_mayBe 89 = .ok (.goto (-84), 3) := by decide +kernel
theorem dX8_mayBe_92 : decode cX8_mayBe 92 = .ok (.iload_n 3, 1) := by decide +kernel
theorem dX8_mayBe_93 : decode cX8_mayBe 93 = .ok (.ireturn, 1) := by decide +kernel
theorem dX8_isStep_0 : decode cX8_isStep 0 = .ok (.iload_n 1, 1) := by decide +kernel
theorem dX8_isStep_1 : decode cX8_isStep 1 = .ok (.iload_n 2, 1) := by decide +kernel
theorem dX8_isStep_2 : decode cX8_isStep 2 = .ok (.if_icmp .eq 12, 3) := by decide +kernel
theorem dX8_isStep_5 : decode cX8_isStep 5 = .ok (.aload_n 0, 1) := by decide +kernel
theorem dX8_isStep_6 : decode cX8_isStep 6 = .ok (.iload_n 1, 1) := by decide +kernel
theorem dX8_isStep_7 : decode cX8_isStep 7 = .ok (.iload_n 2, 1) := by decide +kernel
theorem dX8_isStep_8 : decode cX8_isStep 8 = .ok (.invokevirtual 96, 3) := by decide +kernel
theorem dX8_isStep_11 : decode cX8_isStep 11 = .ok (.ifCond .le 7, 3) := by decide +kernel
theorem dX8_isStep_14 : decode cX8_isStep 14 = .ok (.iconst 1, 1) := by decide +kernel
theorem dX8_isStep_15 : decode cX8_isStep 15 = .ok (.goto 4, 3) := by decide +kernel
theorem dX8_isStep_18 : decode cX8_isStep 18 = .ok (.iconst 0, 1) := by decide +kernel
theorem dX8_isStep_19 : decode cX8_isStep 19 = .ok (.ireturn, 1) := by decide +kernel
theorem dX8_layWays_0 : decode cX8_layWays 0 = .ok (.iconst 0, 1) := by decide +kernel
theorem dX8_layWays_1 : decode cX8_layWays 1 = .ok (.istore_n 1, 1) := by decide +kernel
theorem dX8_layWays_2 : decode cX8_layWays 2 = .ok (.iload_n 1, 1) := by decide +kernel
theorem dX8_layWays_3 : decode cX8_layWays 3 = .ok (.bipush 12, 2) := by decide +kernel
theorem dX8_layWays_5 : decode cX8_layWays 5 = .ok (.if_icmp .gt 109, 3) := by decide +kernel
theorem dX8_layWays_8 : decode cX8_layWays 8 = .ok (.iconst 0, 1) := by decide +kernel
theorem dX8_layWays_9 : decode cX8_layWays 9 = .ok (.istore_n 2, 1) := by decide +kernel
theorem dX8_layWays_10 : decode cX8_layWays 10 = .ok (.iload_n 2, 1) := by decide +kernel
theorem dX8_layWays_11 : decode cX8_layWays 11 = .ok (.bipush 8, 2) := by decide +kernel
theorem dX8_layWays_13 : decode cX8_layWays 13 = .ok (.if_icmp .ge 95, 3) := by decide +kernel
theorem dX8_layWays_16 : decode cX8_layWays 16 = .ok (.iload_n 1, 1) := by decide +kernel
theorem dX8_layWays_17 : decode cX8_layWays 17 = .ok (.ifCond .ne 7, 3) := by decide +kernel
theorem dX8_layWays_20 : decode cX8_layWays 20 = .ok (.lconst 1, 1) := by decide +kernel
theorem dX8_layWays_21 : decode cX8_layWays 21 = .ok (.goto 4, 3) := by decide +kernel
theorem dX8_layWays_24 : decode cX8_layWays 24 = .ok (.lconst 0, 1) := by decide +kernel
theorem dX8_layWays_25 : decode cX8_layWays 25 = .ok (.lstore_n 3, 1) := by decide +kernel
theorem dX8_layWays_26 : decode cX8_layWays 26 = .ok (.iconst 0, 1) := by decide +kernel
theorem dX8_layWays_27 : decode cX8_layWays 27 = .ok (.istore 5, 2) := by decide +kernel
theorem dX8_layWays_29 : decode cX8_layWays 29 = .ok (.iload 5, 2) := by decide +kernel
theorem dX8_layWays_31 : decode cX8_layWays 31 = .ok (.bipush 8, 2) := by decide +kernel
theorem dX8_layWays_33 : decode cX8_layWays 33 = .ok (.if_icmp .ge 44, 3) := by decide +kernel
theorem dX8_layWays_36 : decode cX8_layWays 36 = .ok (.iload_n 1, 1) := by decide +kernel
theorem dX8_layWays_37 : decode cX8_layWays 37 = .ok (.ifCond .le 40, 3) := by decide +kernel
theorem dX8_layWays_40 : decode cX8_layWays 40 = .ok (.lload_n 3, 1) := by decide +kernel
theorem dX8_layWays_41 : decode cX8_layWays 41 = .ok (.aload_n 0, 1) := by decide +kernel
theorem dX8_layWays_42 : decode cX8_layWays 42 = .ok (.iload 5, 2) := by decide +kernel
theorem dX8_layWays_44 : decode cX8_layWays 44 = .ok (.iload_n 2, 1) := by decide +kernel
theorem dX8_layWays_45 : decode cX8_layWays 45 = .ok (.invokevirtual 191, 3) := by decide +kernel
theorem dX8_layWays_48 : decode cX8_layWays 48 = .ok (.ifCond .eq 20, 3) := by decide +kernel
theorem dX8_layWays_51 : decode cX8_layWays 51 = .ok (.aload_n 0, 1) := by decide +kernel
theorem dX8_layWays_52 : decode cX8_layWays 52 = .ok (.getfield 54, 3) := by decide +kernel
theorem dX8_layWays_55 : decode cX8_layWays 55 = .ok (.bipush 8, 2) := by decide +kernel
theorem dX8_layWays_57 : decode cX8_layWays 57 = .ok (.iload_n 1, 1) := by decide +kernel
theorem dX8_layWays_58 : decode cX8_layWays 58 = .ok (.iconst 1, 1) := by decide +kernel
theorem dX8_layWays_59 : decode cX8_layWays 59 = .ok (.isub, 1) := by decide +kernel
theorem dX8_layWays_60 : decode cX8_layWays 60 = .ok (.imul, 1) := by decide +kernel
theorem dX8_layWays_61 : decode cX8_layWays 61 = .ok (.iload 5, 2) := by decide +kernel
theorem dX8_layWays_63 : decode cX8_layWays 63 = .ok (.iadd, 1) := by decide +kernel
theorem dX8_layWays_64 : decode cX8_layWays 64 = .ok (.laload, 1) := by decide +kernel
theorem dX8_layWays_65 : decode cX8_layWays 65 = .ok (.goto 4, 3) := by decide +kernel
theorem dX8_layWays_68 : decode cX8_layWays 68 = .ok (.lconst 0, 1) := by decide +kernel
theorem dX8_layWays_69 : decode cX8_layWays 69 = .ok (.ladd, 1) := by decide +kernel
theorem dX8_layWays_70 : decode cX8_layWays 70 = .ok (.lstore_n 3, 1) := by decide +kernel
theorem dX8_layWays_71 : decode cX8_layWays 71 = .ok (.iinc 5 1, 3) := by decide +kernel
theorem dX8_layWays_74 : decode cX8_layWays 74 = .ok (.goto (-45), 3) := by decide +kernel
theorem dX8_layWays_77 : decode cX8_layWays 77 = .ok (.aload_n 0, 1) := by decide +kernel
theorem dX8_layWays_78 : decode cX8_layWays 78 = .ok (.getfield 54, 3) := by decide +kernel
theorem dX8_layWays_81 : decode cX8_layWays 81 = .ok (.bipush 8, 2) := by decide +kernel
theorem dX8_layWays_83 : decode cX8_layWays 83 = .ok (.iload_n 1, 1) := by decide +kernel
theorem dX8_layWays_84 : decode cX8_layWays 84 = .ok (.imul, 1) := by decide +kernel
theorem dX8_layWays_85 : decode cX8_layWays 85 = .ok (.iload_n 2, 1) := by decide +kernel
theorem dX8_layWays_86 : decode cX8_layWays 86 = .ok (.iadd, 1) := by decide +kernel
theorem dX8_layWays_87 : decode cX8_layWays 87 = .ok (.aload_n 0, 1) := by decide +kernel
theorem dX8_layWays_88 : decode cX8_layWays 88 = .ok (.iload_n 2, 1) := by decide +kernel
theorem dX8_layWays_89 : decode cX8_layWays 89 = .ok (.iload_n 1, 1) := by decide +kernel
theorem dX8_layWays_90 : decode cX8_layWays 90 = .ok (.invokevirtual 195, 3) := by decide +kernel
theorem dX8_layWays_93 : decode cX8_layWays 93 = .ok (.ifCond .eq 7, 3) := by decide +kernel
theorem dX8_layWays_96 : decode cX8_layWays 96 = .ok (.lload_n 3, 1) := by decide +kernel
theorem dX8_layWays_97 : decode cX8_layWays 97 = .ok (.goto 4, 3) := by decide +kernel
theorem dX8_layWays_100 : decode cX8_layWays 100 = .ok (.lconst 0, 1) := by decide +kernel
theorem dX8_layWays_101 : decode cX8_layWays 101 = .ok (.lastore, 1) := by decide +kernel
theorem dX8_layWays_102 : decode cX8_layWays 102 = .ok (.iinc 2 1, 3) := by decide +kernel
theorem dX8_layWays_105 : decode cX8_layWays 105 = .ok (.goto (-95), 3) := by decide +kernel
theorem dX8_layWays_108 : decode cX8_layWays 108 = .ok (.iinc 1 1, 3) := by decide +kernel
theorem dX8_layWays_111 : decode cX8_layWays 111 = .ok (.goto (-109), 3) := by decide +kernel
theorem dX8_layWays_114 : decode cX8_layWays 114 = .ok (.bipush 12, 2) := by decide +kernel
theorem dX8_layWays_116 : decode cX8_layWays 116 = .ok (.istore_n 1, 1) := by decide +kernel
theorem dX8_layWays_117 : decode cX8_layWays 117 = .ok (.iload_n 1, 1) := by decide +kernel
theorem dX8_layWays_118 : decode cX8_layWays 118 = .ok (.ifCond .lt 112, 3) := by decide +kernel
theorem dX8_layWays_121 : decode cX8_layWays 121 = .ok (.iconst 0, 1) := by decide +kernel
theorem dX8_layWays_122 : decode cX8_layWays 122 = .ok (.istore_n 2, 1) := by decide +kernel
theorem dX8_layWays_123 : decode cX8_layWays 123 = .ok (.iload_n 2, 1) := by decide +kernel
theorem dX8_layWays_124 : decode cX8_layWays 124 = .ok (.bipush 8, 2) := by decide +kernel
theorem dX8_layWays_126 : decode cX8_layWays 126 = .ok (.if_icmp .ge 98, 3) := by decide +kernel
theorem dX8_layWays_129 : decode cX8_layWays 129 = .ok (.iload_n 1, 1) := by decide +kernel
theorem dX8_layWays_130 : decode cX8_layWays 130 = .ok (.bipush 12, 2) := by decide +kernel
theorem dX8_layWays_132 : decode cX8_layWays 132 = .ok (.if_icmp .ne 7, 3) := by decide +kernel
theorem dX8_layWays_135 : decode cX8_layWays 135 = .ok (.lconst 1, 1) := by decide +kernel
theorem dX8_layWays_136 : decode cX8_layWays 136 = .ok (.goto 4, 3) := by decide +kernel
theorem dX8_layWays_139 : decode cX8_layWays 139 = .ok (.lconst 0, 1) := by decide +kernel
theorem dX8_layWays_140 : decode cX8_layWays 140 = .ok (.lstore_n 3, 1) := by decide +kernel
theorem dX8_layWays_141 : decode cX8_layWays 141 = .ok (.iconst 0, 1) := by decide +kernel
theorem dX8_layWays_142 : decode cX8_layWays 142 = .ok (.istore 5, 2) := by decide +kernel
theorem dX8_layWays_144 : decode cX8_layWays 144 = .ok (.iload 5, 2) := by decide +kernel
theorem dX8_layWays_146 : decode cX8_layWays 146 = .ok (.bipush 8, 2) := by decide +kernel
theorem dX8_layWays_148 : decode cX8_layWays 148 = .ok (.if_icmp .ge 58, 3) := by decide +kernel
theorem dX8_layWays_151 : decode cX8_layWays 151 = .ok (.iload_n 1, 1) := by decide +kernel
theorem dX8_layWays_152 : decode cX8_layWays 152 = .ok (.bipush 12, 2) := by decide +kernel
theorem dX8_layWays_154 : decode cX8_layWays 154 = .ok (.if_icmp .ge 52, 3) := by decide +kernel
theorem dX8_layWays_157 : decode cX8_layWays 157 = .ok (.lload_n 3, 1) := by decide +kernel
theorem dX8_layWays_158 : decode cX8_layWays 158 = .ok (.aload_n 0, 1) := by decide +kernel
theorem dX8_layWays_159 : decode cX8_layWays 159 = .ok (.iload_n 2, 1) := by decide +kernel
theorem dX8_layWays_160 : decode cX8_layWays 160 = .ok (.iload 5, 2) := by decide +kernel
theorem dX8_layWays_162 : decode cX8_layWays 162 = .ok (.invokevirtual 191, 3) := by decide +kernel
theorem dX8_layWays_165 : decode cX8_layWays 165 = .ok (.ifCond .eq 32, 3) := by decide +kernel
theorem dX8_layWays_168 : decode cX8_layWays 168 = .ok (.aload_n 0, 1) := by decide +kernel
theorem dX8_layWays_169 : decode cX8_layWays 169 = .ok (.iload 5, 2) := by decide +kernel
theorem dX8_layWays_171 : decode cX8_layWays 171 = .ok (.iload_n 1, 1) := by decide +kernel
theorem dX8_layWays_172 : decode cX8_layWays 172 = .ok (.iconst 1, 1) := by decide +kernel
theorem dX8_layWays_173 : decode cX8_layWays 173 = .ok (.iadd, 1) := by decide +kernel
theorem dX8_layWays_174 : decode cX8_layWays 174 = .ok (.invokevirtual 195, 3) := by decide +kernel
theorem dX8_layWays_177 : decode cX8_layWays 177 = .ok (.ifCond .eq 20, 3) := by decide +kernel
theorem dX8_layWays_180 : decode cX8_layWays 180 = .ok (.aload_n 0, 1) := by decide +kernel
theorem dX8_layWays_181 : decode cX8_layWays 181 = .ok (.getfield 58, 3) := by decide +kernel
theorem dX8_layWays_184 : decode cX8_layWays 184 = .ok (.bipush 8, 2) := by decide +kernel
theorem dX8_layWays_186 : decode cX8_layWays 186 = .ok (.iload_n 1, 1) := by decide +kernel
theorem dX8_layWays_187 : decode cX8_layWays 187 = .ok (.iconst 1, 1) := by decide +kernel
theorem dX8_layWays_188 : decode cX8_layWays 188 = .ok (.iadd, 1) := by decide +kernel
theorem dX8_layWays_189 : decode cX8_layWays 189 = .ok (.imul, 1) := by decide +kernel
theorem dX8_layWays_190 : decode cX8_layWays 190 = .ok (.iload 5, 2) := by decide +kernel
theorem dX8_layWays_192 : decode cX8_layWays 192 = .ok (.iadd, 1) := by decide +kernel
theorem dX8_layWays_193 : decode cX8_layWays 193 = .ok (.laload, 1) := by decide +kernel
theorem dX8_layWays_194 : decode cX8_layWays 194 = .ok (.goto 4, 3) := by decide +kernel
theorem dX8_layWays_197 : decode cX8_layWays 197 = .ok (.lconst 0, 1) := by decide +kernel
theorem dX8_layWays_198 : decode cX8_layWays 198 = .ok (.ladd, 1) := by decide +kernel
theorem dX8_layWays_199 : decode cX8_layWays 199 = .ok (.lstore_n 3, 1) := by decide +kernel
theorem dX8_layWays_200 : decode cX8_layWays 200 = .ok (.iinc 5 1, 3) := by decide +kernel
theorem dX8_layWays_203 : decode cX8_layWays 203 = .ok (.goto (-59), 3) := by decide +kernel
theorem dX8_layWays_206 : decode cX8_layWays 206 = .ok (.aload_n 0, 1) := by decide +kernel
theorem dX8_layWays_207 : decode cX8_layWays 207 = .ok (.getfield 58, 3) := by decide +kernel
theorem dX8_layWays_210 : decode cX8_layWays 210 = .ok (.bipush 8, 2) := by decide +kernel
theorem dX8_layWays_212 : decode cX8_layWays 212 = .ok (.iload_n 1, 1) := by decide +kernel
theorem dX8_layWays_213 : decode cX8_layWays 213 = .ok (.imul, 1) := by decide +kernel
theorem dX8_layWays_214 : decode cX8_layWays 214 = .ok (.iload_n 2, 1) := by decide +kernel
theorem dX8_layWays_215 : decode cX8_layWays 215 = .ok (.iadd, 1) := by decide +kernel
theorem dX8_layWays_216 : decode cX8_layWays 216 = .ok (.lload_n 3, 1) := by decide +kernel
theorem dX8_layWays_217 : decode cX8_layWays 217 = .ok (.lastore, 1) := by decide +kernel
theorem dX8_layWays_218 : decode cX8_layWays 218 = .ok (.iinc 2 1, 3) := by decide +kernel
theorem dX8_layWays_221 : decode cX8_layWays 221 = .ok (.goto (-98), 3) := by decide +kernel
theorem dX8_layWays_224 : decode cX8_layWays 224 = .ok (.iinc 1 (-1), 3) := by decide +kernel
theorem dX8_layWays_227 : decode cX8_layWays 227 = .ok (.goto (-110), 3) := by decide +kernel
theorem dX8_layWays_230 : decode cX8_layWays 230 = .ok (.return_, 1) := by decide +kernel
theorem dX8_waysBy_0 : decode cX8_waysBy 0 = .ok (.aload_n 0, 1) := by decide +kernel
theorem dX8_waysBy_1 : decode cX8_waysBy 1 = .ok (.getfield 54, 3) := by decide +kernel
theorem dX8_waysBy_4 : decode cX8_waysBy 4 = .ok (.bipush 8, 2) := by decide +kernel
theorem dX8_waysBy_6 : decode cX8_waysBy 6 = .ok (.iload_n 1, 1) := by decide +kernel
theorem dX8_waysBy_7 : decode cX8_waysBy 7 = .ok (.imul, 1) := by decide +kernel
theorem dX8_waysBy_8 : decode cX8_waysBy 8 = .ok (.iload_n 2, 1) := by decide +kernel
theorem dX8_waysBy_9 : decode cX8_waysBy 9 = .ok (.iadd, 1) := by decide +kernel
theorem dX8_waysBy_10 : decode cX8_waysBy 10 = .ok (.laload, 1) := by decide +kernel
theorem dX8_waysBy_11 : decode cX8_waysBy 11 = .ok (.aload_n 0, 1) := by decide +kernel
theorem dX8_waysBy_12 : decode cX8_waysBy 12 = .ok (.getfield 58, 3) := by decide +kernel
theorem dX8_waysBy_15 : decode cX8_waysBy 15 = .ok (.bipush 8, 2) := by decide +kernel
theorem dX8_waysBy_17 : decode cX8_waysBy 17 = .ok (.iload_n 1, 1) := by decide +kernel
theorem dX8_waysBy_18 : decode cX8_waysBy 18 = .ok (.imul, 1) := by decide +kernel
theorem dX8_waysBy_19 : decode cX8_waysBy 19 = .ok (.iload_n 2, 1) := by decide +kernel
theorem dX8_waysBy_20 : decode cX8_waysBy 20 = .ok (.iadd, 1) := by decide +kernel
theorem dX8_waysBy_21 : decode cX8_waysBy 21 = .ok (.laload, 1) := by decide +kernel
theorem dX8_waysBy_22 : decode cX8_waysBy 22 = .ok (.lmul, 1) := by decide +kernel
theorem dX8_waysBy_23 : decode cX8_waysBy 23 = .ok (.lreturn, 1) := by decide +kernel
theorem dX8_allWays_0 : decode cX8_allWays 0 = .ok (.lconst 0, 1) := by decide +kernel
theorem dX8_allWays_1 : decode cX8_allWays 1 = .ok (.lstore_n 1, 1) := by decide +kernel
theorem dX8_allWays_2 : decode cX8_allWays 2 = .ok (.iconst 0, 1) := by decide +kernel
theorem dX8_allWays_3 : decode cX8_allWays 3 = .ok (.istore_n 3, 1) := by decide +kernel
theorem dX8_allWays_4 : decode cX8_allWays 4 = .ok (.iload_n 3, 1) := by decide +kernel
theorem dX8_allWays_5 : decode cX8_allWays 5 = .ok (.bipush 8, 2) := by decide +kernel
theorem dX8_allWays_7 : decode cX8_allWays 7 = .ok (.if_icmp .ge 18, 3) := by decide +kernel
theorem dX8_allWays_10 : decode cX8_allWays 10 = .ok (.lload_n 1, 1) := by decide +kernel
theorem dX8_allWays_11 : decode cX8_allWays 11 = .ok (.aload_n 0, 1) := by decide +kernel
theorem dX8_allWays_12 : decode cX8_allWays 12 = .ok (.iconst 0, 1) := by decide +kernel
theorem dX8_allWays_13 : decode cX8_allWays 13 = .ok (.iload_n 3, 1) := by decide +kernel
theorem dX8_allWays_14 : decode cX8_allWays 14 = .ok (.invokevirtual 198, 3) := by decide +kernel
theorem dX8_allWays_17 : decode cX8_allWays 17 = .ok (.ladd, 1) := by decide +kernel
theorem dX8_allWays_18 : decode cX8_allWays 18 = .ok (.lstore_n 1, 1) := by decide +kernel
theorem dX8_allWays_19 : decode cX8_allWays 19 = .ok (.iinc 3 1, 3) := by decide +kernel
theorem dX8_allWays_22 : decode cX8_allWays 22 = .ok (.goto (-18), 3) := by decide +kernel
theorem dX8_allWays_25 : decode cX8_allWays 25 = .ok (.lload_n 1, 1) := by decide +kernel
theorem dX8_allWays_26 : decode cX8_allWays 26 = .ok (.lreturn, 1) := by decide +kernel
theorem dX8_may_0 : decode cX8_may 0 = .ok (.iload_n 1, 1) := by decide +kernel
theorem dX8_may_1 : decode cX8_may 1 = .ok (.i2l, 1) := by decide +kernel
theorem dX8_may_2 : decode cX8_may 2 = .ok (.lconst 0, 1) := by decide +kernel
theorem dX8_may_3 : decode cX8_may 3 = .ok (.ldc2_w 189, 3) := by decide +kernel
theorem dX8_may_6 : decode cX8_may 6 = .ok (.invokestatic 78, 3) := by decide +kernel
theorem dX8_may_9 : decode cX8_may 9 = .ok (.ifCond .ne 10, 3) := by decide +kernel
theorem dX8_may_12 : decode cX8_may 12 = .ok (.aload_n 0, 1) := by decide +kernel
theorem dX8_may_13 : decode cX8_may 13 = .ok (.bipush (-2), 2) := by decide +kernel
theorem dX8_may_15 : decode cX8_may 15 = .ok (.invokevirtual 86, 3) := by decide +kernel
theorem dX8_may_18 : decode cX8_may 18 = .ok (.ireturn, 1) := by decide +kernel
theorem dX8_may_19 : decode cX8_may 19 = .ok (.aload_n 0, 1) := by decide +kernel
theorem dX8_may_20 : decode cX8_may 20 = .ok (.invokevirtual 202, 3) := by decide +kernel
theorem dX8_may_23 : decode cX8_may 23 = .ok (.iconst 0, 1) := by decide +kernel
theorem dX8_may_24 : decode cX8_may 24 = .ok (.istore_n 2, 1) := by decide +kernel
theorem dX8_may_25 : decode cX8_may 25 = .ok (.iconst 0, 1) := by decide +kernel
theorem dX8_may_26 : decode cX8_may 26 = .ok (.istore_n 3, 1) := by decide +kernel
theorem dX8_may_27 : decode cX8_may 27 = .ok (.iload_n 3, 1) := by decide +kernel
theorem dX8_may_28 : decode cX8_may 28 = .ok (.bipush 8, 2) := by decide +kernel
theorem dX8_may_30 : decode cX8_may 30 = .ok (.if_icmp .ge 30, 3) := by decide +kernel
theorem dX8_may_33 : decode cX8_may 33 = .ok (.iload_n 2, 1) := by decide +kernel
theorem dX8_may_34 : decode cX8_may 34 = .ok (.aload_n 0, 1) := by decide +kernel
theorem dX8_may_35 : decode cX8_may 35 = .ok (.iload_n 1, 1) := by decide +kernel
theorem dX8_may_36 : decode cX8_may 36 = .ok (.iload_n 3, 1) := by decide +kernel
theorem dX8_may_37 : decode cX8_may 37 = .ok (.invokevirtual 198, 3) := by decide +kernel
theorem dX8_may_40 : decode cX8_may 40 = .ok (.lconst 0, 1) := by decide +kernel
theorem dX8_may_41 : decode cX8_may 41 = .ok (.lcmp, 1) := by decide +kernel
theorem dX8_may_42 : decode cX8_may 42 = .ok (.ifCond .le 9, 3) := by decide +kernel
theorem dX8_may_45 : decode cX8_may 45 = .ok (.iconst 1, 1) := by decide +kernel
theorem dX8_may_46 : decode cX8_may 46 = .ok (.iload_n 3, 1) := by decide +kernel
theorem dX8_may_47 : decode cX8_may 47 = .ok (.ishl, 1) := by decide +kernel
theorem dX8_may_48 : decode cX8_may 48 = .ok (.goto 4, 3) := by decide +kernel
theorem dX8_may_51 : decode cX8_may 51 = .ok (.iconst 0, 1) := by decide +kernel
theorem dX8_may_52 : decode cX8_may 52 = .ok (.ior, 1) := by decide +kernel
theorem dX8_may_53 : decode cX8_may 53 = .ok (.istore_n 2, 1) := by decide +kernel
theorem dX8_may_54 : decode cX8_may 54 = .ok (.iinc 3 1, 3) := by decide +kernel
theorem dX8_may_57 : decode cX8_may 57 = .ok (.goto (-30), 3) := by decide +kernel
theorem dX8_may_60 : decode cX8_may 60 = .ok (.iload_n 2, 1) := by decide +kernel
theorem dX8_may_61 : decode cX8_may 61 = .ok (.ireturn, 1) := by decide +kernel
theorem dX8_ways_0 : decode cX8_ways 0 = .ok (.aload_n 0, 1) := by decide +kernel
theorem dX8_ways_1 : decode cX8_ways 1 = .ok (.invokevirtual 202, 3) := by decide +kernel
theorem dX8_ways_4 : decode cX8_ways 4 = .ok (.aload_n 0, 1) := by decide +kernel
theorem dX8_ways_5 : decode cX8_ways 5 = .ok (.invokevirtual 205, 3) := by decide +kernel
theorem dX8_ways_8 : decode cX8_ways 8 = .ok (.lreturn, 1) := by decide +kernel
theorem dX8_peek_0 : decode cX8_peek 0 = .ok (.iload_n 1, 1) := by decide +kernel
theorem dX8_peek_1 : decode cX8_peek 1 = .ok (.i2l, 1) := by decide +kernel
theorem dX8_peek_2 : decode cX8_peek 2 = .ok (.lconst 0, 1) := by decide +kernel
theorem dX8_peek_3 : decode cX8_peek 3 = .ok (.ldc2_w 189, 3) := by decide +kernel
theorem dX8_peek_6 : decode cX8_peek 6 = .ok (.invokestatic 78, 3) := by decide +kernel
theorem dX8_peek_9 : decode cX8_peek 9 = .ok (.ifCond .ne 10, 3) := by decide +kernel
theorem dX8_peek_12 : decode cX8_peek 12 = .ok (.aload_n 0, 1) := by decide +kernel
theorem dX8_peek_13 : decode cX8_peek 13 = .ok (.bipush (-2), 2) := by decide +kernel
theorem dX8_peek_15 : decode cX8_peek 15 = .ok (.invokevirtual 86, 3) := by decide +kernel
theorem dX8_peek_18 : decode cX8_peek 18 = .ok (.ireturn, 1) := by decide +kernel
theorem dX8_peek_19 : decode cX8_peek 19 = .ok (.aload_n 0, 1) := by decide +kernel
theorem dX8_peek_20 : decode cX8_peek 20 = .ok (.invokevirtual 202, 3) := by decide +kernel
theorem dX8_peek_23 : decode cX8_peek 23 = .ok (.aload_n 0, 1) := by decide +kernel
theorem dX8_peek_24 : decode cX8_peek 24 = .ok (.invokevirtual 205, 3) := by decide +kernel
theorem dX8_peek_27 : decode cX8_peek 27 = .ok (.lstore_n 2, 1) := by decide +kernel
theorem dX8_peek_28 : decode cX8_peek 28 = .ok (.iconst (-1), 1) := by decide +kernel
theorem dX8_peek_29 : decode cX8_peek 29 = .ok (.istore 4, 2) := by decide +kernel
theorem dX8_peek_31 : decode cX8_peek 31 = .ok (.lload_n 2, 1) := by decide +kernel
theorem dX8_peek_32 : decode cX8_peek 32 = .ok (.lstore 5, 2) := by decide +kernel
theorem dX8_peek_34 : decode cX8_peek 34 = .ok (.iconst 0, 1) := by decide +kernel
theorem dX8_peek_35 : decode cX8_peek 35 = .ok (.istore 7, 2) := by decide +kernel
theorem dX8_peek_37 : decode cX8_peek 37 = .ok (.iload 7, 2) := by decide +kernel
theorem dX8_peek_39 : decode cX8_peek 39 = .ok (.bipush 8, 2) := by decide +kernel
theorem dX8_peek_41 : decode cX8_peek 41 = .ok (.if_icmp .ge 94, 3) := by decide +kernel
theorem dX8_peek_44 : decode cX8_peek 44 = .ok (.lload_n 2, 1) := by decide +kernel
theorem dX8_peek_45 : decode cX8_peek 45 = .ok (.lconst 0, 1) := by decide +kernel
theorem dX8_peek_46 : decode cX8_peek 46 = .ok (.lcmp, 1) := by decide +kernel
theorem dX8_peek_47 : decode cX8_peek 47 = .ok (.ifCond .le 88, 3) := by decide +kernel
theorem dX8_peek_50 : decode cX8_peek 50 = .ok (.aload_n 0, 1) := by decide +kernel
theorem dX8_peek_51 : decode cX8_peek 51 = .ok (.iload_n 1, 1) := by decide +kernel
theorem dX8_peek_52 : decode cX8_peek 52 = .ok (.iload 7, 2) := by decide +kernel
theorem dX8_peek_54 : decode cX8_peek 54 = .ok (.invokevirtual 198, 3) := by decide +kernel
theorem dX8_peek_57 : decode cX8_peek 57 = .ok (.lstore 8, 2) := by decide +kernel
theorem dX8_peek_59 : decode cX8_peek 59 = .ok (.lload 8, 2) := by decide +kernel
theorem dX8_peek_61 : decode cX8_peek 61 = .ok (.lload_n 2, 1) := by decide +kernel
theorem dX8_peek_62 : decode cX8_peek 62 = .ok (.lload 8, 2) := by decide +kernel
theorem dX8_peek_64 : decode cX8_peek 64 = .ok (.lsub, 1) := by decide +kernel
theorem dX8_peek_65 : decode cX8_peek 65 = .ok (.lcmp, 1) := by decide +kernel
theorem dX8_peek_66 : decode cX8_peek 66 = .ok (.ifCond .le 8, 3) := by decide +kernel
theorem dX8_peek_69 : decode cX8_peek 69 = .ok (.lload 8, 2) := by decide +kernel
theorem dX8_peek_71 : decode cX8_peek 71 = .ok (.goto 7, 3) := by decide +kernel
theorem dX8_peek_74 : decode cX8_peek 74 = .ok (.lload_n 2, 1) := by decide +kernel
theorem dX8_peek_75 : decode cX8_peek 75 = .ok (.lload 8, 2) := by decide +kernel
theorem dX8_peek_77 : decode cX8_peek 77 = .ok (.lsub, 1) := by decide +kernel
theorem dX8_peek_78 : decode cX8_peek 78 = .ok (.lstore 10, 2) := by decide +kernel
theorem dX8_peek_80 : decode cX8_peek 80 = .ok (.iload 4, 2) := by decide +kernel
theorem dX8_peek_82 : decode cX8_peek 82 = .ok (.iconst (-1), 1) := by decide +kernel
theorem dX8_peek_83 : decode cX8_peek 83 = .ok (.if_icmp .eq 11, 3) := by decide +kernel
theorem dX8_peek_86 : decode cX8_peek 86 = .ok (.lload 10, 2) := by decide +kernel
theorem dX8_peek_88 : decode cX8_peek 88 = .ok (.lload 5, 2) := by decide +kernel
theorem dX8_peek_90 : decode cX8_peek 90 = .ok (.lcmp, 1) := by decide +kernel
theorem dX8_peek_91 : decode cX8_peek 91 = .ok (.ifCond .ge 7, 3) := by decide +kernel
theorem dX8_peek_94 : decode cX8_peek 94 = .ok (.iconst 1, 1) := by decide +kernel
theorem dX8_peek_95 : decode cX8_peek 95 = .ok (.goto 4, 3) := by decide +kernel
theorem dX8_peek_98 : decode cX8_peek 98 = .ok (.iconst 0, 1) := by decide +kernel
theorem dX8_peek_99 : decode cX8_peek 99 = .ok (.istore 12, 2) := by decide +kernel
theorem dX8_peek_101 : decode cX8_peek 101 = .ok (.iload 12, 2) := by decide +kernel
theorem dX8_peek_103 : decode cX8_peek 103 = .ok (.ifCond .eq 8, 3) := by decide +kernel
theorem dX8_peek_106 : decode cX8_peek 106 = .ok (.iload 7, 2) := by decide +kernel
theorem dX8_peek_108 : decode cX8_peek 108 = .ok (.goto 5, 3) := by decide +kernel
theorem dX8_peek_111 : decode cX8_peek 111 = .ok (.iload 4, 2) := by decide +kernel
theorem dX8_peek_113 : decode cX8_peek 113 = .ok (.istore 4, 2) := by decide +kernel
theorem dX8_peek_115 : decode cX8_peek 115 = .ok (.iload 12, 2) := by decide +kernel
theorem dX8_peek_117 : decode cX8_peek 117 = .ok (.ifCond .eq 8, 3) := by decide +kernel
theorem dX8_peek_120 : decode cX8_peek 120 = .ok (.lload 10, 2) := by decide +kernel
theorem dX8_peek_122 : decode cX8_peek 122 = .ok (.goto 5, 3) := by decide +kernel
theorem dX8_peek_125 : decode cX8_peek 125 = .ok (.lload 5, 2) := by decide +kernel
theorem dX8_peek_127 : decode cX8_peek 127 = .ok (.lstore 5, 2) := by decide +kernel
theorem dX8_peek_129 : decode cX8_peek 129 = .ok (.iinc 7 1, 3) := by decide +kernel
theorem dX8_peek_132 : decode cX8_peek 132 = .ok (.goto (-95), 3) := by decide +kernel
theorem dX8_peek_135 : decode cX8_peek 135 = .ok (.iload 4, 2) := by decide +kernel
theorem dX8_peek_137 : decode cX8_peek 137 = .ok (.ireturn, 1) := by decide +kernel
theorem dX8_nights_0 : decode cX8_nights 0 = .ok (.iload_n 1, 1) := by decide +kernel
theorem dX8_nights_1 : decode cX8_nights 1 = .ok (.i2l, 1) := by decide +kernel
theorem dX8_nights_2 : decode cX8_nights 2 = .ok (.lconst 0, 1) := by decide +kernel
theorem dX8_nights_3 : decode cX8_nights 3 = .ok (.ldc2_w 209, 3) := by decide +kernel
theorem dX8_nights_6 : decode cX8_nights 6 = .ok (.invokestatic 78, 3) := by decide +kernel
theorem dX8_nights_9 : decode cX8_nights 9 = .ok (.ifCond .eq 15, 3) := by decide +kernel
theorem dX8_nights_12 : decode cX8_nights 12 = .ok (.iload_n 2, 1) := by decide +kernel
theorem dX8_nights_13 : decode cX8_nights 13 = .ok (.i2l, 1) := by decide +kernel
theorem dX8_nights_14 : decode cX8_nights 14 = .ok (.lconst 0, 1) := by decide +kernel
theorem dX8_nights_15 : decode cX8_nights 15 = .ok (.ldc2_w 211, 3) := by decide +kernel
theorem dX8_nights_18 : decode cX8_nights 18 = .ok (.invokestatic 78, 3) := by decide +kernel
theorem dX8_nights_21 : decode cX8_nights 21 = .ok (.ifCond .ne 10, 3) := by decide +kernel
theorem dX8_nights_24 : decode cX8_nights 24 = .ok (.aload_n 0, 1) := by decide +kernel
theorem dX8_nights_25 : decode cX8_nights 25 = .ok (.bipush (-2), 2) := by decide +kernel
theorem dX8_nights_27 : decode cX8_nights 27 = .ok (.invokevirtual 86, 3) := by decide +kernel
theorem dX8_nights_30 : decode cX8_nights 30 = .ok (.ireturn, 1) := by decide +kernel
theorem dX8_nights_31 : decode cX8_nights 31 = .ok (.iload_n 1, 1) := by decide +kernel
theorem dX8_nights_32 : decode cX8_nights 32 = .ok (.i2l, 1) := by decide +kernel
theorem dX8_nights_33 : decode cX8_nights 33 = .ok (.lstore_n 3, 1) := by decide +kernel
theorem dX8_nights_34 : decode cX8_nights 34 = .ok (.aload_n 0, 1) := by decide +kernel
theorem dX8_nights_35 : decode cX8_nights 35 = .ok (.invokevirtual 150, 3) := by decide +kernel
theorem dX8_nights_38 : decode cX8_nights 38 = .ok (.iconst 0, 1) := by decide +kernel
theorem dX8_nights_39 : decode cX8_nights 39 = .ok (.istore 5, 2) := by decide +kernel
theorem dX8_nights_41 : decode cX8_nights 41 = .ok (.iload 5, 2) := by decide +kernel
theorem dX8_nights_43 : decode cX8_nights 43 = .ok (.iload_n 2, 1) := by decide +kernel
theorem dX8_nights_44 : decode cX8_nights 44 = .ok (.if_icmp .ge 102, 3) := by decide +kernel
theorem dX8_nights_47 : decode cX8_nights 47 = .ok (.iconst 0, 1) := by decide +kernel
theorem dX8_nights_48 : decode cX8_nights 48 = .ok (.istore 6, 2) := by decide +kernel
theorem dX8_nights_50 : decode cX8_nights 50 = .ok (.iload 6, 2) := by decide +kernel
theorem dX8_nights_52 : decode cX8_nights 52 = .ok (.aload_n 0, 1) := by decide +kernel
theorem dX8_nights_53 : decode cX8_nights 53 = .ok (.invokevirtual 74, 3) := by decide +kernel
theorem dX8_nights_56 : decode cX8_nights 56 = .ok (.if_icmp .ge 78, 3) := by decide +kernel
theorem dX8_nights_59 : decode cX8_nights 59 = .ok (.lload_n 3, 1) := by decide +kernel
theorem dX8_nights_60 : decode cX8_nights 60 = .ok (.ldc2_w 213, 3) := by decide +kernel
theorem dX8_nights_63 : decode cX8_nights 63 = .ok (.lmul, 1) := by decide +kernel
theorem dX8_nights_64 : decode cX8_nights 64 = .ok (.ldc2_w 215, 3) := by decide +kernel
theorem dX8_nights_67 : decode cX8_nights 67 = .ok (.ladd, 1) := by decide +kernel
theorem dX8_nights_68 : decode cX8_nights 68 = .ok (.ldc2_w 217, 3) := by decide +kernel
theorem dX8_nights_71 : decode cX8_nights 71 = .ok (.lrem, 1) := by decide +kernel
theorem dX8_nights_72 : decode cX8_nights 72 = .ok (.lstore_n 3, 1) := by decide +kernel
theorem dX8_nights_73 : decode cX8_nights 73 = .ok (.lload_n 3, 1) := by decide +kernel
theorem dX8_nights_74 : decode cX8_nights 74 = .ok (.ldc2_w 219, 3) := by decide +kernel
theorem dX8_nights_77 : decode cX8_nights 77 = .ok (.ldiv, 1) := by decide +kernel
theorem dX8_nights_78 : decode cX8_nights 78 = .ok (.ldc2_w 221, 3) := by decide +kernel
theorem dX8_nights_81 : decode cX8_nights 81 = .ok (.lrem, 1) := by decide +kernel
theorem dX8_nights_82 : decode cX8_nights 82 = .ok (.l2i, 1) := by decide +kernel
theorem dX8_nights_83 : decode cX8_nights 83 = .ok (.istore 7, 2) := by decide +kernel
theorem dX8_nights_85 : decode cX8_nights 85 = .ok (.aload_n 0, 1) := by decide +kernel
theorem dX8_nights_86 : decode cX8_nights 86 = .ok (.getfield 33, 3) := by decide +kernel
theorem dX8_nights_89 : decode cX8_nights 89 = .ok (.iload 6, 2) := by decide +kernel
theorem dX8_nights_91 : decode cX8_nights 91 = .ok (.iaload, 1) := by decide +kernel
theorem dX8_nights_92 : decode cX8_nights 92 = .ok (.ifCond .ne 36, 3) := by decide +kernel
theorem dX8_nights_95 : decode cX8_nights 95 = .ok (.aload_n 0, 1) := by decide +kernel
theorem dX8_nights_96 : decode cX8_nights 96 = .ok (.aload_n 0, 1) := by decide +kernel
theorem dX8_nights_97 : decode cX8_nights 97 = .ok (.getfield 27, 3) := by decide +kernel
theorem dX8_nights_100 : decode cX8_nights 100 = .ok (.iload 6, 2) := by decide +kernel
theorem dX8_nights_102 : decode cX8_nights 102 = .ok (.iaload, 1) := by decide +kernel
theorem dX8_nights_103 : decode cX8_nights 103 = .ok (.iload 7, 2) := by decide +kernel
theorem dX8_nights_105 : decode cX8_nights 105 = .ok (.invokevirtual 96, 3) := by decide +kernel
theorem dX8_nights_108 : decode cX8_nights 108 = .ok (.ifCond .le 20, 3) := by decide +kernel
theorem dX8_nights_111 : decode cX8_nights 111 = .ok (.aload_n 0, 1) := by decide +kernel
theorem dX8_nights_112 : decode cX8_nights 112 = .ok (.getfield 27, 3) := by decide +kernel
theorem dX8_nights_115 : decode cX8_nights 115 = .ok (.iload 6, 2) := by decide +kernel
theorem dX8_nights_117 : decode cX8_nights 117 = .ok (.iload 7, 2) := by decide +kernel
theorem dX8_nights_119 : decode cX8_nights 119 = .ok (.iastore, 1) := by decide +kernel
theorem dX8_nights_120 : decode cX8_nights 120 = .ok (.aload_n 0, 1) := by decide +kernel
theorem dX8_nights_121 : decode cX8_nights 121 = .ok (.getfield 30, 3) := by decide +kernel
theorem dX8_nights_124 : decode cX8_nights 124 = .ok (.iload 6, 2) := by decide +kernel
theorem dX8_nights_126 : decode cX8_nights 126 = .ok (.iconst 0, 1) := by decide +kernel
theorem dX8_nights_127 : decode cX8_nights 127 = .ok (.iastore, 1) := by decide +kernel
theorem dX8_nights_128 : decode cX8_nights 128 = .ok (.iinc 6 1, 3) := by decide +kernel
theorem dX8_nights_131 : decode cX8_nights 131 = .ok (.goto (-81), 3) := by decide +kernel
theorem dX8_nights_134 : decode cX8_nights 134 = .ok (.aload_n 0, 1) := by decide +kernel
theorem dX8_nights_135 : decode cX8_nights 135 = .ok (.invokevirtual 153, 3) := by decide +kernel
theorem dX8_nights_138 : decode cX8_nights 138 = .ok (.istore 6, 2) := by decide +kernel
theorem dX8_nights_140 : decode cX8_nights 140 = .ok (.iinc 5 1, 3) := by decide +kernel
theorem dX8_nights_143 : decode cX8_nights 143 = .ok (.goto (-102), 3) := by decide +kernel
theorem dX8_nights_146 : decode cX8_nights 146 = .ok (.iconst 0, 1) := by decide +kernel
theorem dX8_nights_147 : decode cX8_nights 147 = .ok (.istore 5, 2) := by decide +kernel
theorem dX8_nights_149 : decode cX8_nights 149 = .ok (.iconst 0, 1) := by decide +kernel
theorem dX8_nights_150 : decode cX8_nights 150 = .ok (.istore 6, 2) := by decide +kernel
theorem dX8_nights_152 : decode cX8_nights 152 = .ok (.iload 6, 2) := by decide +kernel
theorem dX8_nights_154 : decode cX8_nights 154 = .ok (.aload_n 0, 1) := by decide +kernel
theorem dX8_nights_155 : decode cX8_nights 155 = .ok (.invokevirtual 74, 3) := by decide +kernel
theorem dX8_nights_158 : decode cX8_nights 158 = .ok (.if_icmp .ge 30, 3) := by decide +kernel
theorem dX8_nights_161 : decode cX8_nights 161 = .ok (.iload 5, 2) := by decide +kernel
theorem dX8_nights_163 : decode cX8_nights 163 = .ok (.aload_n 0, 1) := by decide +kernel
theorem dX8_nights_164 : decode cX8_nights 164 = .ok (.getfield 33, 3) := by decide +kernel
theorem dX8_nights_167 : decode cX8_nights 167 = .ok (.iload 6, 2) := by decide +kernel
theorem dX8_nights_169 : decode cX8_nights 169 = .ok (.iaload, 1) := by decide +kernel
theorem dX8_nights_170 : decode cX8_nights 170 = .ok (.iconst 2, 1) := by decide +kernel
theorem dX8_nights_171 : decode cX8_nights 171 = .ok (.if_icmp .ne 7, 3) := by decide +kernel
theorem dX8_nights_174 : decode cX8_nights 174 = .ok (.iconst 1, 1) := by decide +kernel
theorem dX8_nights_175 : decode cX8_nights 175 = .ok (.goto 4, 3) := by decide +kernel
theorem dX8_nights_178 : decode cX8_nights 178 = .ok (.iconst 0, 1) := by decide +kernel
theorem dX8_nights_179 : decode cX8_nights 179 = .ok (.iadd, 1) := by decide +kernel
theorem dX8_nights_180 : decode cX8_nights 180 = .ok (.istore 5, 2) := by decide +kernel
theorem dX8_nights_182 : decode cX8_nights 182 = .ok (.iinc 6 1, 3) := by decide +kernel
theorem dX8_nights_185 : decode cX8_nights 185 = .ok (.goto (-33), 3) := by decide +kernel
theorem dX8_nights_188 : decode cX8_nights 188 = .ok (.iload 5, 2) := by decide +kernel
theorem dX8_nights_190 : decode cX8_nights 190 = .ok (.ireturn, 1) := by decide +kernel
theorem dX8_type_0 : decode cX8_type 0 = .ok (.iload_n 1, 1) := by decide +kernel
theorem dX8_type_1 : decode cX8_type 1 = .ok (.i2l, 1) := by decide +kernel
theorem dX8_type_2 : decode cX8_type 2 = .ok (.lconst 0, 1) := by decide +kernel
theorem dX8_type_3 : decode cX8_type 3 = .ok (.ldc2_w 223, 3) := by decide +kernel
theorem dX8_type_6 : decode cX8_type 6 = .ok (.invokestatic 78, 3) := by decide +kernel
theorem dX8_type_9 : decode cX8_type 9 = .ok (.ifCond .ne 10, 3) := by decide +kernel
theorem dX8_type_12 : decode cX8_type 12 = .ok (.aload_n 0, 1) := by decide +kernel
theorem dX8_type_13 : decode cX8_type 13 = .ok (.bipush (-2), 2) := by decide +kernel
theorem dX8_type_15 : decode cX8_type 15 = .ok (.invokevirtual 86, 3) := by decide +kernel
theorem dX8_type_18 : decode cX8_type 18 = .ok (.ireturn, 1) := by decide +kernel
theorem dX8_type_19 : decode cX8_type 19 = .ok (.aload_n 0, 1) := by decide +kernel
theorem dX8_type_20 : decode cX8_type 20 = .ok (.getfield 225, 3) := by decide +kernel
theorem dX8_type_23 : decode cX8_type 23 = .ok (.sipush 150, 3) := by decide +kernel
theorem dX8_type_26 : decode cX8_type 26 = .ok (.if_icmp .ne 8, 3) := by decide +kernel
theorem dX8_type_29 : decode cX8_type 29 = .ok (.aload_n 0, 1) := by decide +kernel
theorem dX8_type_30 : decode cX8_type 30 = .ok (.invokevirtual 104, 3) := by decide +kernel
theorem dX8_type_33 : decode cX8_type 33 = .ok (.ireturn, 1) := by decide +kernel
theorem dX8_type_34 : decode cX8_type 34 = .ok (.aload_n 0, 1) := by decide +kernel
theorem dX8_type_35 : decode cX8_type 35 = .ok (.getfield 61, 3) := by decide +kernel
theorem dX8_type_38 : decode cX8_type 38 = .ok (.aload_n 0, 1) := by decide +kernel
theorem dX8_type_39 : decode cX8_type 39 = .ok (.getfield 225, 3) := by decide +kernel
theorem dX8_type_42 : decode cX8_type 42 = .ok (.iload_n 1, 1) := by decide +kernel
theorem dX8_type_43 : decode cX8_type 43 = .ok (.iastore, 1) := by decide +kernel
theorem dX8_type_44 : decode cX8_type 44 = .ok (.aload_n 0, 1) := by decide +kernel
theorem dX8_type_45 : decode cX8_type 45 = .ok (.dup, 1) := by decide +kernel
theorem dX8_type_46 : decode cX8_type 46 = .ok (.getfield 225, 3) := by decide +kernel
theorem dX8_type_49 : decode cX8_type 49 = .ok (.iconst 1, 1) := by decide +kernel
theorem dX8_type_50 : decode cX8_type 50 = .ok (.iadd, 1) := by decide +kernel
theorem dX8_type_51 : decode cX8_type 51 = .ok (.putfield 225, 3) := by decide +kernel
theorem dX8_type_54 : decode cX8_type 54 = .ok (.aload_n 0, 1) := by decide +kernel
theorem dX8_type_55 : decode cX8_type 55 = .ok (.getfield 225, 3) := by decide +kernel
theorem dX8_type_58 : decode cX8_type 58 = .ok (.ireturn, 1) := by decide +kernel
theorem dX8_clear_0 : decode cX8_clear 0 = .ok (.aload_n 0, 1) := by decide +kernel
theorem dX8_clear_1 : decode cX8_clear 1 = .ok (.getfield 225, 3) := by decide +kernel
theorem dX8_clear_4 : decode cX8_clear 4 = .ok (.istore_n 1, 1) := by decide +kernel
theorem dX8_clear_5 : decode cX8_clear 5 = .ok (.aload_n 0, 1) := by decide +kernel
theorem dX8_clear_6 : decode cX8_clear 6 = .ok (.iconst 0, 1) := by decide +kernel
theorem dX8_clear_7 : decode cX8_clear 7 = .ok (.putfield 225, 3) := by decide +kernel
theorem dX8_clear_10 : decode cX8_clear 10 = .ok (.iload_n 1, 1) := by decide +kernel
theorem dX8_clear_11 : decode cX8_clear 11 = .ok (.ireturn, 1) := by decide +kernel
theorem dX8_isSmall_0 : decode cX8_isSmall 0 = .ok (.iload_n 0, 1) := by decide +kernel
theorem dX8_isSmall_1 : decode cX8_isSmall 1 = .ok (.i2l, 1) := by decide +kernel
theorem dX8_isSmall_2 : decode cX8_isSmall 2 = .ok (.ldc2_w 228, 3) := by decide +kernel
theorem dX8_isSmall_5 : decode cX8_isSmall 5 = .ok (.ldc2_w 230, 3) := by decide +kernel
theorem dX8_isSmall_8 : decode cX8_isSmall 8 = .ok (.invokestatic 78, 3) := by decide +kernel
theorem dX8_isSmall_11 : decode cX8_isSmall 11 = .ok (.ireturn, 1) := by decide +kernel
theorem dX8_isFigure_0 : decode cX8_isFigure 0 = .ok (.iload_n 0, 1) := by decide +kernel
theorem dX8_isFigure_1 : decode cX8_isFigure 1 = .ok (.i2l, 1) := by decide +kernel
theorem dX8_isFigure_2 : decode cX8_isFigure 2 = .ok (.ldc2_w 232, 3) := by decide +kernel
theorem dX8_isFigure_5 : decode cX8_isFigure 5 = .ok (.ldc2_w 234, 3) := by decide +kernel
theorem dX8_isFigure_8 : decode cX8_isFigure 8 = .ok (.invokestatic 78, 3) := by decide +kernel
theorem dX8_isFigure_11 : decode cX8_isFigure 11 = .ok (.ireturn, 1) := by decide +kernel
theorem dX8_lookAt_0 : decode cX8_lookAt 0 = .ok (.aload_n 0, 1) := by decide +kernel
theorem dX8_lookAt_1 : decode cX8_lookAt 1 = .ok (.iload_n 1, 1) := by decide +kernel
theorem dX8_lookAt_2 : decode cX8_lookAt 2 = .ok (.putfield 236, 3) := by decide +kernel
theorem dX8_lookAt_5 : decode cX8_lookAt 5 = .ok (.aload_n 0, 1) := by decide +kernel
theorem dX8_lookAt_6 : decode cX8_lookAt 6 = .ok (.getfield 236, 3) := by decide +kernel
theorem dX8_lookAt_9 : decode cX8_lookAt 9 = .ok (.aload_n 0, 1) := by decide +kernel
theorem dX8_lookAt_10 : decode cX8_lookAt 10 = .ok (.getfield 225, 3) := by decide +kernel
theorem dX8_lookAt_13 : decode cX8_lookAt 13 = .ok (.if_icmp .ge 30, 3) := by decide +kernel
theorem dX8_lookAt_16 : decode cX8_lookAt 16 = .ok (.aload_n 0, 1) := by decide +kernel
theorem dX8_lookAt_17 : decode cX8_lookAt 17 = .ok (.getfield 61, 3) := by decide +kernel
theorem dX8_lookAt_20 : decode cX8_lookAt 20 = .ok (.aload_n 0, 1) := by decide +kernel
theorem dX8_lookAt_21 : decode cX8_lookAt 21 = .ok (.getfield 236, 3) := by decide +kernel
theorem dX8_lookAt_24 : decode cX8_lookAt 24 = .ok (.iaload, 1) := by decide +kernel
theorem dX8_lookAt_25 : decode cX8_lookAt 25 = .ok (.bipush 32, 2) := by decide +kernel
theorem dX8_lookAt_27 : decode cX8_lookAt 27 = .ok (.if_icmp .ne 16, 3) := by decide +kernel
theorem dX8_lookAt_30 : decode cX8_lookAt 30 = .ok (.aload_n 0, 1) := by decide +kernel
theorem dX8_lookAt_31 : decode cX8_lookAt 31 = .ok (.dup, 1) := by decide +kernel
theorem dX8_lookAt_32 : decode cX8_lookAt 32 = .ok (.getfield 236, 3) := by decide +kernel
theorem dX8_lookAt_35 : decode cX8_lookAt 35 = .ok (.iconst 1, 1) := by decide +kernel
theorem dX8_lookAt_36 : decode cX8_lookAt 36 = .ok (.iadd, 1) := by decide +kernel
theorem dX8_lookAt_37 : decode cX8_lookAt 37 = .ok (.putfield 236, 3) := by decide +kernel
theorem dX8_lookAt_40 : decode cX8_lookAt 40 = .ok (.goto (-35), 3) := by decide +kernel
theorem dX8_lookAt_43 : decode cX8_lookAt 43 = .ok (.aload_n 0, 1) := by decide +kernel
theorem dX8_lookAt_44 : decode cX8_lookAt 44 = .ok (.iconst 0, 1) := by decide +kernel
theorem dX8_lookAt_45 : decode cX8_lookAt 45 = .ok (.putfield 239, 3) := by decide +kernel
theorem dX8_lookAt_48 : decode cX8_lookAt 48 = .ok (.aload_n 0, 1) := by decide +kernel
theorem dX8_lookAt_49 : decode cX8_lookAt 49 = .ok (.iconst 0, 1) := by decide +kernel
theorem dX8_lookAt_50 : decode cX8_lookAt 50 = .ok (.putfield 242, 3) := by decide +kernel
theorem dX8_lookAt_53 : decode cX8_lookAt 53 = .ok (.aload_n 0, 1) := by decide +kernel
theorem dX8_lookAt_54 : decode cX8_lookAt 54 = .ok (.iconst 0, 1) := by decide +kernel
theorem dX8_lookAt_55 : decode cX8_lookAt 55 = .ok (.putfield 245, 3) := by decide +kernel
theorem dX8_lookAt_58 : decode cX8_lookAt 58 = .ok (.aload_n 0, 1) := by decide +kernel
theorem dX8_lookAt_59 : decode cX8_lookAt 59 = .ok (.getfield 236, 3) := by decide +kernel
theorem dX8_lookAt_62 : decode cX8_lookAt 62 = .ok (.aload_n 0, 1) := by decide +kernel
theorem dX8_lookAt_63 : decode cX8_lookAt 63 = .ok (.getfield 225, 3) := by decide +kernel
theorem dX8_lookAt_66 : decode cX8_lookAt 66 = .ok (.if_icmp .ne 4, 3) := by decide +kernel
theorem dX8_lookAt_69 : decode cX8_lookAt 69 = .ok (.return_, 1) := by decide +kernel
theorem dX8_lookAt_70 : decode cX8_lookAt 70 = .ok (.aload_n 0, 1) := by decide +kernel
theorem dX8_lookAt_71 : decode cX8_lookAt 71 = .ok (.getfield 61, 3) := by decide +kernel
theorem dX8_lookAt_74 : decode cX8_lookAt 74 = .ok (.aload_n 0, 1) := by decide +kernel
theorem dX8_lookAt_75 : decode cX8_lookAt 75 = .ok (.getfield 236, 3) := by decide +kernel
theorem dX8_lookAt_78 : decode cX8_lookAt 78 = .ok (.iaload, 1) := by decide +kernel
theorem dX8_lookAt_79 : decode cX8_lookAt 79 = .ok (.istore_n 2, 1) := by decide +kernel
theorem dX8_lookAt_80 : decode cX8_lookAt 80 = .ok (.aload_n 0, 1) := by decide +kernel
theorem dX8_lookAt_81 : decode cX8_lookAt 81 = .ok (.iload_n 2, 1) := by decide +kernel
theorem dX8_lookAt_82 : decode cX8_lookAt 82 = .ok (.invokestatic 248, 3) := by decide +kernel
theorem dX8_lookAt_85 : decode cX8_lookAt 85 = .ok (.ifCond .eq 7, 3) := by decide +kernel
theorem dX8_lookAt_88 : decode cX8_lookAt 88 = .ok (.iconst 1, 1) := by decide +kernel
theorem dX8_lookAt_89 : decode cX8_lookAt 89 = .ok (.goto 25, 3) := by decide +kernel
theorem dX8_lookAt_92 : decode cX8_lookAt 92 = .ok (.iload_n 2, 1) := by decide +kernel
theorem dX8_lookAt_93 : decode cX8_lookAt 93 = .ok (.invokestatic 251, 3) := by decide +kernel
theorem dX8_lookAt_96 : decode cX8_lookAt 96 = .ok (.ifCond .eq 7, 3) := by decide +kernel
theorem dX8_lookAt_99 : decode cX8_lookAt 99 = .ok (.iconst 2, 1) := by decide +kernel
theorem dX8_lookAt_100 : decode cX8_lookAt 100 = .ok (.goto 14, 3) := by decide +kernel
theorem dX8_lookAt_103 : decode cX8_lookAt 103 = .ok (.iload_n 2, 1) := by decide +kernel
theorem dX8_lookAt_104 : decode cX8_lookAt 104 = .ok (.bipush 59, 2) := by decide +kernel
theorem dX8_lookAt_106 : decode cX8_lookAt 106 = .ok (.if_icmp .ne 7, 3) := by decide +kernel
theorem dX8_lookAt_109 : decode cX8_lookAt 109 = .ok (.iconst 3, 1) := by decide +kernel
theorem dX8_lookAt_110 : decode cX8_lookAt 110 = .ok (.goto 4, 3) := by decide +kernel
theorem dX8_lookAt_113 : decode cX8_lookAt 113 = .ok (.iconst 4, 1) := by decide +kernel
theorem dX8_lookAt_114 : decode cX8_lookAt 114 = .ok (.putfield 242, 3) := by decide +kernel
theorem dX8_lookAt_117 : decode cX8_lookAt 117 = .ok (.aload_n 0, 1) := by decide +kernel
theorem dX8_lookAt_118 : decode cX8_lookAt 118 = .ok (.iconst 1, 1) := by decide +kernel
theorem dX8_lookAt_119 : decode cX8_lookAt 119 = .ok (.putfield 239, 3) := by decide +kernel
theorem dX8_lookAt_122 : decode cX8_lookAt 122 = .ok (.aload_n 0, 1) := by decide +kernel
theorem dX8_lookAt_123 : decode cX8_lookAt 123 = .ok (.getfield 242, 3) := by decide +kernel
theorem dX8_lookAt_126 : decode cX8_lookAt 126 = .ok (.iconst 3, 1) := by decide +kernel
theorem dX8_lookAt_127 : decode cX8_lookAt 127 = .ok (.if_icmp .ge 7, 3) := by decide +kernel
theorem dX8_lookAt_130 : decode cX8_lookAt 130 = .ok (.iconst 1, 1) := by decide +kernel
theorem dX8_lookAt_131 : decode cX8_lookAt 131 = .ok (.goto 4, 3) := by decide +kernel
theorem dX8_lookAt_134 : decode cX8_lookAt 134 = .ok (.iconst 0, 1) := by decide +kernel
theorem dX8_lookAt_135 : decode cX8_lookAt 135 = .ok (.istore_n 3, 1) := by decide +kernel
theorem dX8_lookAt_136 : decode cX8_lookAt 136 = .ok (.iload_n 3, 1) := by decide +kernel
theorem dX8_lookAt_137 : decode cX8_lookAt 137 = .ok (.ifCond .eq 78, 3) := by decide +kernel
theorem dX8_lookAt_140 : decode cX8_lookAt 140 = .ok (.aload_n 0, 1) := by decide +kernel
theorem dX8_lookAt_141 : decode cX8_lookAt 141 = .ok (.getfield 236, 3) := by decide +kernel
theorem dX8_lookAt_144 : decode cX8_lookAt 144 = .ok (.aload_n 0, 1) := by decide +kernel
theorem dX8_lookAt_145 : decode cX8_lookAt 145 = .ok (.getfield 239, 3) := by decide +kernel
theorem dX8_lookAt_148 : decode cX8_lookAt 148 = .ok (.iadd, 1) := by decide +kernel
theorem dX8_lookAt_149 : decode cX8_lookAt 149 = .ok (.aload_n 0, 1) := by decide +kernel
theorem dX8_lookAt_150 : decode cX8_lookAt 150 = .ok (.getfield 225, 3) := by decide +kernel
theorem dX8_lookAt_153 : decode cX8_lookAt 153 = .ok (.if_icmp .ge 62, 3) := by decide +kernel
theorem dX8_lookAt_156 : decode cX8_lookAt 156 = .ok (.aload_n 0, 1) := by decide +kernel
theorem dX8_lookAt_157 : decode cX8_lookAt 157 = .ok (.getfield 61, 3) := by decide +kernel
theorem dX8_lookAt_160 : decode cX8_lookAt 160 = .ok (.aload_n 0, 1) := by decide +kernel
theorem dX8_lookAt_161 : decode cX8_lookAt 161 = .ok (.getfield 236, 3) := by decide +kernel
theorem dX8_lookAt_164 : decode cX8_lookAt 164 = .ok (.aload_n 0, 1) := by decide +kernel
theorem dX8_lookAt_165 : decode cX8_lookAt 165 = .ok (.getfield 239, 3) := by decide +kernel
theorem dX8_lookAt_168 : decode cX8_lookAt 168 = .ok (.iadd, 1) := by decide +kernel
theorem dX8_lookAt_169 : decode cX8_lookAt 169 = .ok (.iaload, 1) := by decide +kernel
theorem dX8_lookAt_170 : decode cX8_lookAt 170 = .ok (.istore 4, 2) := by decide +kernel
theorem dX8_lookAt_172 : decode cX8_lookAt 172 = .ok (.aload_n 0, 1) := by decide +kernel
theorem dX8_lookAt_173 : decode cX8_lookAt 173 = .ok (.getfield 242, 3) := by decide +kernel
theorem dX8_lookAt_176 : decode cX8_lookAt 176 = .ok (.iconst 1, 1) := by decide +kernel
theorem dX8_lookAt_177 : decode cX8_lookAt 177 = .ok (.if_icmp .ne 11, 3) := by decide +kernel
theorem dX8_lookAt_180 : decode cX8_lookAt 180 = .ok (.iload 4, 2) := by decide +kernel
theorem dX8_lookAt_182 : decode cX8_lookAt 182 = .ok (.invokestatic 248, 3) := by decide +kernel
theorem dX8_lookAt_185 : decode cX8_lookAt 185 = .ok (.goto 8, 3) := by decide +kernel
theorem dX8_lookAt_188 : decode cX8_lookAt 188 = .ok (.iload 4, 2) := by decide +kernel
theorem dX8_lookAt_190 : decode cX8_lookAt 190 = .ok (.invokestatic 251, 3) := by decide +kernel
theorem dX8_lookAt_193 : decode cX8_lookAt 193 = .ok (.istore_n 3, 1) := by decide +kernel
theorem dX8_lookAt_194 : decode cX8_lookAt 194 = .ok (.aload_n 0, 1) := by decide +kernel
theorem dX8_lookAt_195 : decode cX8_lookAt 195 = .ok (.dup, 1) := by decide +kernel
theorem dX8_lookAt_196 : decode cX8_lookAt 196 = .ok (.getfield 239, 3) := by decide +kernel
theorem dX8_lookAt_199 : decode cX8_lookAt 199 = .ok (.iload_n 3, 1) := by decide +kernel
theorem dX8_lookAt_200 : decode cX8_lookAt 200 = .ok (.ifCond .eq 7, 3) := by decide +kernel
theorem dX8_lookAt_203 : decode cX8_lookAt 203 = .ok (.iconst 1, 1) := by decide +kernel
theorem dX8_lookAt_204 : decode cX8_lookAt 204 = .ok (.goto 4, 3) := by decide +kernel
theorem dX8_lookAt_207 : decode cX8_lookAt 207 = .ok (.iconst 0, 1) := by decide +kernel
theorem dX8_lookAt_208 : decode cX8_lookAt 208 = .ok (.iadd, 1) := by decide +kernel
theorem dX8_lookAt_209 : decode cX8_lookAt 209 = .ok (.putfield 239, 3) := by decide +kernel
theorem dX8_lookAt_212 : decode cX8_lookAt 212 = .ok (.goto (-76), 3) := by decide +kernel
theorem dX8_lookAt_215 : decode cX8_lookAt 215 = .ok (.iconst 0, 1) := by decide +kernel
theorem dX8_lookAt_216 : decode cX8_lookAt 216 = .ok (.istore 4, 2) := by decide +kernel
theorem dX8_lookAt_218 : decode cX8_lookAt 218 = .ok (.iload 4, 2) := by decide +kernel
theorem dX8_lookAt_220 : decode cX8_lookAt 220 = .ok (.aload_n 0, 1) := by decide +kernel
theorem dX8_lookAt_221 : decode cX8_lookAt 221 = .ok (.getfield 239, 3) := by decide +kernel
theorem dX8_lookAt_224 : decode cX8_lookAt 224 = .ok (.if_icmp .ge 50, 3) := by decide +kernel
theorem dX8_lookAt_227 : decode cX8_lookAt 227 = .ok (.iload 4, 2) := by decide +kernel
theorem dX8_lookAt_229 : decode cX8_lookAt 229 = .ok (.iconst 2, 1) := by decide +kernel
theorem dX8_lookAt_230 : decode cX8_lookAt 230 = .ok (.if_icmp .ge 44, 3) := by decide +kernel
theorem dX8_lookAt_233 : decode cX8_lookAt 233 = .ok (.aload_n 0, 1) := by decide +kernel
theorem dX8_lookAt_234 : decode cX8_lookAt 234 = .ok (.getfield 242, 3) := by decide +kernel
theorem dX8_lookAt_237 : decode cX8_lookAt 237 = .ok (.iconst 2, 1) := by decide +kernel
theorem dX8_lookAt_238 : decode cX8_lookAt 238 = .ok (.if_icmp .ne 36, 3) := by decide +kernel
theorem dX8_lookAt_241 : decode cX8_lookAt 241 = .ok (.aload_n 0, 1) := by decide +kernel
theorem dX8_lookAt_242 : decode cX8_lookAt 242 = .ok (.bipush 10, 2) := by decide +kernel
theorem dX8_lookAt_244 : decode cX8_lookAt 244 = .ok (.aload_n 0, 1) := by decide +kernel
theorem dX8_lookAt_245 : decode cX8_lookAt 245 = .ok (.getfield 245, 3) := by decide +kernel
theorem dX8_lookAt_248 : decode cX8_lookAt 248 = .ok (.imul, 1) := by decide +kernel
theorem dX8_lookAt_249 : decode cX8_lookAt 249 = .ok (.aload_n 0, 1) := by decide +kernel
theorem dX8_lookAt_250 : decode cX8_lookAt 250 = .ok (.getfield 61, 3) := by decide +kernel
theorem dX8_lookAt_253 : decode cX8_lookAt 253 = .ok (.aload_n 0, 1) := by decide +kernel
theorem dX8_lookAt_254 : decode cX8_lookAt 254 = .ok (.getfield 236, 3) := by decide +kernel
theorem dX8_lookAt_257 : decode cX8_lookAt 257 = .ok (.iload 4, 2) := by decide +kernel
theorem dX8_lookAt_259 : decode cX8_lookAt 259 = .ok (.iadd, 1) := by decide +kernel
theorem dX8_lookAt_260 : decode cX8_lookAt 260 = .ok (.iaload, 1) := by decide +kernel
theorem dX8_lookAt_261 : decode cX8_lookAt 261 = .ok (.iadd, 1) := by decide +kernel
theorem dX8_lookAt_262 : decode cX8_lookAt 262 = .ok (.bipush 48, 2) := by decide +kernel
theorem dX8_lookAt_264 : decode cX8_lookAt 264 = .ok (.isub, 1) := by decide +kernel
theorem dX8_lookAt_265 : decode cX8_lookAt 265 = .ok (.putfield 245, 3) := by decide +kernel
theorem dX8_lookAt_268 : decode cX8_lookAt 268 = .ok (.iinc 4 1, 3) := by decide +kernel
theorem dX8_lookAt_271 : decode cX8_lookAt 271 = .ok (.goto (-53), 3) := by decide +kernel
theorem dX8_lookAt_274 : decode cX8_lookAt 274 = .ok (.aload_n 0, 1) := by decide +kernel
theorem dX8_lookAt_275 : decode cX8_lookAt 275 = .ok (.aload_n 0, 1) := by decide +kernel
theorem dX8_lookAt_276 : decode cX8_lookAt 276 = .ok (.getfield 242, 3) := by decide +kernel
theorem dX8_lookAt_279 : decode cX8_lookAt 279 = .ok (.iconst 2, 1) := by decide +kernel
theorem dX8_lookAt_280 : decode cX8_lookAt 280 = .ok (.if_icmp .ne 15, 3) := by decide +kernel
theorem dX8_lookAt_283 : decode cX8_lookAt 283 = .ok (.aload_n 0, 1) := by decide +kernel
theorem dX8_lookAt_284 : decode cX8_lookAt 284 = .ok (.getfield 239, 3) := by decide +kernel
theorem dX8_lookAt_287 : decode cX8_lookAt 287 = .ok (.iconst 2, 1) := by decide +kernel
theorem dX8_lookAt_288 : decode cX8_lookAt 288 = .ok (.if_icmp .le 7, 3) := by decide +kernel
theorem dX8_lookAt_291 : decode cX8_lookAt 291 = .ok (.iconst 4, 1) := by decide +kernel
theorem dX8_lookAt_292 : decode cX8_lookAt 292 = .ok (.goto 7, 3) := by decide +kernel
theorem dX8_lookAt_295 : decode cX8_lookAt 295 = .ok (.aload_n 0, 1) := by decide +kernel
theorem dX8_lookAt_296 : decode cX8_lookAt 296 = .ok (.getfield 242, 3) := by decide +kernel
theorem dX8_lookAt_299 : decode cX8_lookAt 299 = .ok (.putfield 242, 3) := by decide +kernel
theorem dX8_lookAt_302 : decode cX8_lookAt 302 = .ok (.return_, 1) := by decide +kernel
theorem dX8_goBehind_0 : decode cX8_goBehind 0 = .ok (.aload_n 0, 1) := by decide +kernel
theorem dX8_goBehind_1 : decode cX8_goBehind 1 = .ok (.aload_n 0, 1) := by decide +kernel
theorem dX8_goBehind_2 : decode cX8_goBehind 2 = .ok (.getfield 236, 3) := by decide +kernel
theorem dX8_goBehind_5 : decode cX8_goBehind 5 = .ok (.aload_n 0, 1) := by decide +kernel
theorem dX8_goBehind_6 : decode cX8_goBehind 6 = .ok (.getfield 239, 3) := by decide +kernel
theorem dX8_goBehind_9 : decode cX8_goBehind 9 = .ok (.iadd, 1) := by decide +kernel
theorem dX8_goBehind_10 : decode cX8_goBehind 10 = .ok (.invokevirtual 254, 3) := by decide +kernel
theorem dX8_goBehind_13 : decode cX8_goBehind 13 = .ok (.return_, 1) := by decide +kernel
theorem dX8_isWord_0 : decode cX8_isWord 0 = .ok (.aload_n 0, 1) := by decide +kernel
theorem dX8_isWord_1 : decode cX8_isWord 1 = .ok (.getfield 242, 3) := by decide +kernel
theorem dX8_isWord_4 : decode cX8_isWord 4 = .ok (.iconst 1, 1) := by decide +kernel
theorem dX8_isWord_5 : decode cX8_isWord 5 = .ok (.if_icmp .ne 15, 3) := by decide +kernel
theorem dX8_isWord_8 : decode cX8_isWord 8 = .ok (.aload_n 0, 1) := by decide +kernel
theorem dX8_isWord_9 : decode cX8_isWord 9 = .ok (.getfield 239, 3) := by decide +kernel
theorem dX8_isWord_12 : decode cX8_isWord 12 = .ok (.iload_n 1, 1) := by decide +kernel
theorem dX8_isWord_13 : decode cX8_isWord 13 = .ok (.if_icmp .ne 7, 3) := by decide +kernel
theorem dX8_isWord_16 : decode cX8_isWord 16 = .ok (.iconst 1, 1) := by decide +kernel
theorem dX8_isWord_17 : decode cX8_isWord 17 = .ok (.goto 4, 3) := by decide +kernel
theorem dX8_isWord_20 : decode cX8_isWord 20 = .ok (.iconst 0, 1) := by decide +kernel
theorem dX8_isWord_21 : decode cX8_isWord 21 = .ok (.istore 7, 2) := by decide +kernel
theorem dX8_isWord_23 : decode cX8_isWord 23 = .ok (.iconst 0, 1) := by decide +kernel
theorem dX8_isWord_24 : decode cX8_isWord 24 = .ok (.istore 8, 2) := by decide +kernel
theorem dX8_isWord_26 : decode cX8_isWord 26 = .ok (.iload 8, 2) := by decide +kernel
theorem dX8_isWord_28 : decode cX8_isWord 28 = .ok (.iload_n 1, 1) := by decide +kernel
theorem dX8_isWord_29 : decode cX8_isWord 29 = .ok (.if_icmp .ge 79, 3) := by decide +kernel
theorem dX8_isWord_32 : decode cX8_isWord 32 = .ok (.iload 7, 2) := by decide +kernel
theorem dX8_isWord_34 : decode cX8_isWord 34 = .ok (.ifCond .eq 74, 3) := by decide +kernel
theorem dX8_isWord_37 : decode cX8_isWord 37 = .ok (.aload_n 0, 1) := by decide +kernel
theorem dX8_isWord_38 : decode cX8_isWord 38 = .ok (.getfield 61, 3) := by decide +kernel
theorem dX8_isWord_41 : decode cX8_isWord 41 = .ok (.aload_n 0, 1) := by decide +kernel
theorem dX8_isWord_42 : decode cX8_isWord 42 = .ok (.getfield 236, 3) := by decide +kernel
theorem dX8_isWord_45 : decode cX8_isWord 45 = .ok (.iload 8, 2) := by decide +kernel
theorem dX8_isWord_47 : decode cX8_isWord 47 = .ok (.iadd, 1) := by decide +kernel
theorem dX8_isWord_48 : decode cX8_isWord 48 = .ok (.iaload, 1) := by decide +kernel
theorem dX8_isWord_49 : decode cX8_isWord 49 = .ok (.iload 8, 2) := by decide +kernel
theorem dX8_isWord_51 : decode cX8_isWord 51 = .ok (.ifCond .ne 7, 3) := by decide +kernel
theorem dX8_isWord_54 : decode cX8_isWord 54 = .ok (.iload_n 2, 1) := by decide +kernel
theorem dX8_isWord_55 : decode cX8_isWord 55 = .ok (.goto 37, 3) := by decide +kernel
theorem dX8_isWord_58 : decode cX8_isWord 58 = .ok (.iload 8, 2) := by decide +kernel
theorem dX8_isWord_60 : decode cX8_isWord 60 = .ok (.iconst 1, 1) := by decide +kernel
theorem dX8_isWord_61 : decode cX8_isWord 61 = .ok (.if_icmp .ne 7, 3) := by decide +kernel
theorem dX8_isWord_64 : decode cX8_isWord 64 = .ok (.iload_n 3, 1) := by decide +kernel
theorem dX8_isWord_65 : decode cX8_isWord 65 = .ok (.goto 27, 3) := by decide +kernel
theorem dX8_isWord_68 : decode cX8_isWord 68 = .ok (.iload 8, 2) := by decide +kernel
theorem dX8_isWord_70 : decode cX8_isWord 70 = .ok (.iconst 2, 1) := by decide +kernel
theorem dX8_isWord_71 : decode cX8_isWord 71 = .ok (.if_icmp .ne 8, 3) := by decide +kernel
theorem dX8_isWord_74 : decode cX8_isWord 74 = .ok (.iload 4, 2) := by decide +kernel
theorem dX8_isWord_76 : decode cX8_isWord 76 = .ok (.goto 16, 3) := by decide +kernel
theorem dX8_isWord_79 : decode cX8_isWord 79 = .ok (.iload 8, 2) := by decide +kernel
theorem dX8_isWord_81 : decode cX8_isWord 81 = .ok (.iconst 3, 1) := by decide +kernel
theorem dX8_isWord_82 : decode cX8_isWord 82 = .ok (.if_icmp .ne 8, 3) := by decide +kernel
theorem dX8_isWord_85 : decode cX8_isWord 85 = .ok (.iload 5, 2) := by decide +kernel
theorem dX8_isWord_87 : decode cX8_isWord 87 = .ok (.goto 5, 3) := by decide +kernel
theorem dX8_isWord_90 : decode cX8_isWord 90 = .ok (.iload 6, 2) := by decide +kernel
theorem dX8_isWord_92 : decode cX8_isWord 92 = .ok (.if_icmp .ne 7, 3) := by decide +kernel
theorem dX8_isWord_95 : decode cX8_isWord 95 = .ok (.iconst 1, 1) := by decide +kernel
theorem dX8_isWord_96 : decode cX8_isWord 96 = .ok (.goto 4, 3) := by decide +kernel
theorem dX8_isWord_99 : decode cX8_isWord 99 = .ok (.iconst 0, 1) := by decide +kernel
theorem dX8_isWord_100 : decode cX8_isWord 100 = .ok (.istore 7, 2) := by decide +kernel
theorem dX8_isWord_102 : decode cX8_isWord 102 = .ok (.iinc 8 1, 3) := by decide +kernel
theorem dX8_isWord_105 : decode cX8_isWord 105 = .ok (.goto (-79), 3) := by decide +kernel
theorem dX8_isWord_108 : decode cX8_isWord 108 = .ok (.iload 7, 2) := by decide +kernel
theorem dX8_isWord_110 : decode cX8_isWord 110 = .ok (.ireturn, 1) := by decide +kernel
theorem dX8_takes_0 : decode cX8_takes 0 = .ok (.aload_n 0, 1) := by decide +kernel
theorem dX8_takes_1 : decode cX8_takes 1 = .ok (.getfield 242, 3) := by decide +kernel
theorem dX8_takes_4 : decode cX8_takes 4 = .ok (.iconst 2, 1) := by decide +kernel
theorem dX8_takes_5 : decode cX8_takes 5 = .ok (.if_icmp .ne 18, 3) := by decide +kernel
theorem dX8_takes_8 : decode cX8_takes 8 = .ok (.aload_n 0, 1) := by decide +kernel
theorem dX8_takes_9 : decode cX8_takes 9 = .ok (.getfield 245, 3) := by decide +kernel
theorem dX8_takes_12 : decode cX8_takes 12 = .ok (.i2l, 1) := by decide +kernel
theorem dX8_takes_13 : decode cX8_takes 13 = .ok (.iload_n 2, 1) := by decide +kernel
theorem dX8_takes_14 : decode cX8_takes 14 = .ok (.i2l, 1) := by decide +kernel
theorem dX8_takes_15 : decode cX8_takes 15 = .ok (.iload_n 3, 1) := by decide +kernel
theorem dX8_takes_16 : decode cX8_takes 16 = .ok (.i2l, 1) := by decide +kernel
theorem dX8_takes_17 : decode cX8_takes 17 = .ok (.invokestatic 78, 3) := by decide +kernel
theorem dX8_takes_20 : decode cX8_takes 20 = .ok (.ifCond .ne 5, 3) := by decide +kernel
theorem dX8_takes_23 : decode cX8_takes 23 = .ok (.iconst 0, 1) := by decide +kernel
theorem dX8_takes_24 : decode cX8_takes 24 = .ok (.ireturn, 1) := by decide +kernel
theorem dX8_takes_25 : decode cX8_takes 25 = .ok (.aload_n 0, 1) := by decide +kernel
theorem dX8_takes_26 : decode cX8_takes 26 = .ok (.getfield 67, 3) := by decide +kernel
theorem dX8_takes_29 : decode cX8_takes 29 = .ok (.iload_n 1, 1) := by decide +kernel
theorem dX8_takes_30 : decode cX8_takes 30 = .ok (.aload_n 0, 1) := by decide +kernel
theorem dX8_takes_31 : decode cX8_takes 31 = .ok (.getfield 245, 3) := by decide +kernel
theorem dX8_takes_34 : decode cX8_takes 34 = .ok (.iastore, 1) := by decide +kernel
theorem dX8_takes_35 : decode cX8_takes 35 = .ok (.aload_n 0, 1) := by decide +kernel
theorem dX8_takes_36 : decode cX8_takes 36 = .ok (.invokevirtual 257, 3) := by decide +kernel
theorem dX8_takes_39 : decode cX8_takes 39 = .ok (.iconst 1, 1) := by decide +kernel
theorem dX8_takes_40 : decode cX8_takes 40 = .ok (.ireturn, 1) := by decide +kernel
theorem dX8_takesFirst_0 : decode cX8_takesFirst 0 = .ok (.aload_n 0, 1) := by decide +kernel
theorem dX8_takesFirst_1 : decode cX8_takesFirst 1 = .ok (.iconst 5, 1) := by decide +kernel
theorem dX8_takesFirst_2 : decode cX8_takesFirst 2 = .ok (.bipush 104, 2) := by decide +kernel
theorem dX8_takesFirst_4 : decode cX8_takesFirst 4 = .ok (.bipush 111, 2) := by decide +kernel
theorem dX8_takesFirst_6 : decode cX8_takesFirst 6 = .ok (.bipush 117, 2) := by decide +kernel
theorem dX8_takesFirst_8 : decode cX8_takesFirst 8 = .ok (.bipush 115, 2) := by decide +kernel
theorem dX8_takesFirst_10 : decode cX8_takesFirst 10 = .ok (.bipush 101, 2) := by decide +kernel
theorem dX8_takesFirst_12 : decode cX8_takesFirst 12 = .ok (.invokevirtual 260, 3) := by decide +kernel
theorem dX8_takesFirst_15 : decode cX8_takesFirst 15 = .ok (.ifCond .ne 5, 3) := by decide +kernel
theorem dX8_takesFirst_18 : decode cX8_takesFirst 18 = .ok (.iconst 0, 1) := by decide +kernel
theorem dX8_takesFirst_19 : decode cX8_takesFirst 19 = .ok (.ireturn, 1) := by decide +kernel
theorem dX8_takesFirst_20 : decode cX8_takesFirst 20 = .ok (.aload_n 0, 1) := by decide +kernel
theorem dX8_takesFirst_21 : decode cX8_takesFirst 21 = .ok (.invokevirtual 257, 3) := by decide +kernel
theorem dX8_takesFirst_24 : decode cX8_takesFirst 24 = .ok (.aload_n 0, 1) := by decide +kernel
theorem dX8_takesFirst_25 : decode cX8_takesFirst 25 = .ok (.iconst 0, 1) := by decide +kernel
theorem dX8_takesFirst_26 : decode cX8_takesFirst 26 = .ok (.iconst 0, 1) := by decide +kernel
theorem dX8_takesFirst_27 : decode cX8_takesFirst 27 = .ok (.bipush 25, 2) := by decide +kernel
theorem dX8_takesFirst_29 : decode cX8_takesFirst 29 = .ok (.invokevirtual 264, 3) := by decide +kernel
theorem dX8_takesFirst_32 : decode cX8_takesFirst 32 = .ok (.ifCond .eq 14, 3) := by decide +kernel
theorem dX8_takesFirst_35 : decode cX8_takesFirst 35 = .ok (.aload_n 0, 1) := by decide +kernel
theorem dX8_takesFirst_36 : decode cX8_takesFirst 36 = .ok (.iconst 1, 1) := by decide +kernel
theorem dX8_takesFirst_37 : decode cX8_takesFirst 37 = .ok (.iconst 0, 1) := by decide +kernel
theorem dX8_takesFirst_38 : decode cX8_takesFirst 38 = .ok (.bipush 25, 2) := by decide +kernel
theorem dX8_takesFirst_40 : decode cX8_takesFirst 40 = .ok (.invokevirtual 264, 3) := by decide +kernel
theorem dX8_takesFirst_43 : decode cX8_takesFirst 43 = .ok (.ifCond .ne 5, 3) := by decide +kernel
theorem dX8_takesFirst_46 : decode cX8_takesFirst 46 = .ok (.iconst 0, 1) := by decide +kernel
theorem dX8_takesFirst_47 : decode cX8_takesFirst 47 = .ok (.ireturn, 1) := by decide +kernel
theorem dX8_takesFirst_48 : decode cX8_takesFirst 48 = .ok (.aload_n 0, 1) := by decide +kernel
theorem dX8_takesFirst_49 : decode cX8_takesFirst 49 = .ok (.getfield 64, 3) := by decide +kernel
theorem dX8_takesFirst_52 : decode cX8_takesFirst 52 = .ok (.aload_n 0, 1) := by decide +kernel
theorem dX8_takesFirst_53 : decode cX8_takesFirst 53 = .ok (.getfield 67, 3) := by decide +kernel
theorem dX8_takesFirst_56 : decode cX8_takesFirst 56 = .ok (.iconst 0, 1) := by decide +kernel
theorem dX8_takesFirst_57 : decode cX8_takesFirst 57 = .ok (.iaload, 1) := by decide +kernel
theorem dX8_takesFirst_58 : decode cX8_takesFirst 58 = .ok (.aload_n 0, 1) := by decide +kernel
theorem dX8_takesFirst_59 : decode cX8_takesFirst 59 = .ok (.getfield 67, 3) := by decide +kernel
theorem dX8_takesFirst_62 : decode cX8_takesFirst 62 = .ok (.iconst 1, 1) := by decide +kernel
theorem dX8_takesFirst_63 : decode cX8_takesFirst 63 = .ok (.iaload, 1) := by decide +kernel
theorem dX8_takesFirst_64 : decode cX8_takesFirst 64 = .ok (.invokestatic 70, 3) := by decide +kernel
theorem dX8_takesFirst_67 : decode cX8_takesFirst 67 = .ok (.aload_n 0, 1) := by decide +kernel
theorem dX8_takesFirst_68 : decode cX8_takesFirst 68 = .ok (.getfield 242, 3) := by decide +kernel
theorem dX8_takesFirst_71 : decode cX8_takesFirst 71 = .ok (.iconst 3, 1) := by decide +kernel
theorem dX8_takesFirst_72 : decode cX8_takesFirst 72 = .ok (.if_icmp .ne 7, 3) := by decide +kernel
theorem dX8_takesFirst_75 : decode cX8_takesFirst 75 = .ok (.iconst 1, 1) := by decide +kernel
theorem dX8_takesFirst_76 : decode cX8_takesFirst 76 = .ok (.goto 4, 3) := by decide +kernel
theorem dX8_takesFirst_79 : decode cX8_takesFirst 79 = .ok (.iconst 0, 1) := by decide +kernel
theorem dX8_takesFirst_80 : decode cX8_takesFirst 80 = .ok (.ireturn, 1) := by decide +kernel
theorem dX8_takesRoom_0 : decode cX8_takesRoom 0 = .ok (.aload_n 0, 1) := by decide +kernel
theorem dX8_takesRoom_1 : decode cX8_takesRoom 1 = .ok (.invokevirtual 257, 3) := by decide +kernel
theorem dX8_takesRoom_4 : decode cX8_takesRoom 4 = .ok (.aload_n 0, 1) := by decide +kernel
theorem dX8_takesRoom_5 : decode cX8_takesRoom 5 = .ok (.iconst 0, 1) := by decide +kernel
theorem dX8_takesRoom_6 : decode cX8_takesRoom 6 = .ok (.iconst 0, 1) := by decide +kernel
theorem dX8_takesRoom_7 : decode cX8_takesRoom 7 = .ok (.bipush 7, 2) := by decide +kernel
theorem dX8_takesRoom_9 : decode cX8_takesRoom 9 = .ok (.invokevirtual 264, 3) := by decide +kernel
theorem dX8_takesRoom_12 : decode cX8_takesRoom 12 = .ok (.ifCond .eq 14, 3) := by decide +kernel
theorem dX8_takesRoom_15 : decode cX8_takesRoom 15 = .ok (.aload_n 0, 1) := by decide +kernel
theorem dX8_takesRoom_16 : decode cX8_takesRoom 16 = .ok (.iconst 1, 1) := by decide +kernel
theorem dX8_takesRoom_17 : decode cX8_takesRoom 17 = .ok (.iconst 0, 1) := by decide +kernel
theorem dX8_takesRoom_18 : decode cX8_takesRoom 18 = .ok (.bipush 9, 2) := by decide +kernel
theorem dX8_takesRoom_20 : decode cX8_takesRoom 20 = .ok (.invokevirtual 264, 3) := by decide +kernel
theorem dX8_takesRoom_23 : decode cX8_takesRoom 23 = .ok (.ifCond .ne 5, 3) := by decide +kernel
theorem dX8_takesRoom_26 : decode cX8_takesRoom 26 = .ok (.iconst 0, 1) := by decide +kernel
theorem dX8_takesRoom_27 : decode cX8_takesRoom 27 = .ok (.ireturn, 1) := by decide +kernel
theorem dX8_takesRoom_28 : decode cX8_takesRoom 28 = .ok (.aload_n 0, 1) := by decide +kernel
theorem dX8_takesRoom_29 : decode cX8_takesRoom 29 = .ok (.getfield 64, 3) := by decide +kernel
theorem dX8_takesRoom_32 : decode cX8_takesRoom 32 = .ok (.bipush 7, 2) := by decide +kernel
theorem dX8_takesRoom_34 : decode cX8_takesRoom 34 = .ok (.aload_n 0, 1) := by decide +kernel
theorem dX8_takesRoom_35 : decode cX8_takesRoom 35 = .ok (.getfield 67, 3) := by decide +kernel
theorem dX8_takesRoom_38 : decode cX8_takesRoom 38 = .ok (.iconst 0, 1) := by decide +kernel
theorem dX8_takesRoom_39 : decode cX8_takesRoom 39 = .ok (.iaload, 1) := by decide +kernel
theorem dX8_takesRoom_40 : decode cX8_takesRoom 40 = .ok (.iadd, 1) := by decide +kernel
theorem dX8_takesRoom_41 : decode cX8_takesRoom 41 = .ok (.aload_n 0, 1) := by decide +kernel
theorem dX8_takesRoom_42 : decode cX8_takesRoom 42 = .ok (.getfield 67, 3) := by decide +kernel
theorem dX8_takesRoom_45 : decode cX8_takesRoom 45 = .ok (.iconst 1, 1) := by decide +kernel
theorem dX8_takesRoom_46 : decode cX8_takesRoom 46 = .ok (.iaload, 1) := by decide +kernel
theorem dX8_takesRoom_47 : decode cX8_takesRoom 47 = .ok (.iastore, 1) := by decide +kernel
theorem dX8_takesRoom_48 : decode cX8_takesRoom 48 = .ok (.iconst 1, 1) := by decide +kernel
theorem dX8_takesRoom_49 : decode cX8_takesRoom 49 = .ok (.ireturn, 1) := by decide +kernel
theorem dX8_takesDoor_0 : decode cX8_takesDoor 0 = .ok (.aload_n 0, 1) := by decide +kernel
theorem dX8_takesDoor_1 : decode cX8_takesDoor 1 = .ok (.invokevirtual 257, 3) := by decide +kernel
theorem dX8_takesDoor_4 : decode cX8_takesDoor 4 = .ok (.aload_n 0, 1) := by decide +kernel
theorem dX8_takesDoor_5 : decode cX8_takesDoor 5 = .ok (.iconst 0, 1) := by decide +kernel
theorem dX8_takesDoor_6 : decode cX8_takesDoor 6 = .ok (.iconst 0, 1) := by decide +kernel
theorem dX8_takesDoor_7 : decode cX8_takesDoor 7 = .ok (.bipush 7, 2) := by decide +kernel
theorem dX8_takesDoor_9 : decode cX8_takesDoor 9 = .ok (.invokevirtual 264, 3) := by decide +kernel
theorem dX8_takesDoor_12 : decode cX8_takesDoor 12 = .ok (.ifCond .eq 46, 3) := by decide +kernel
theorem dX8_takesDoor_15 : decode cX8_takesDoor 15 = .ok (.aload_n 0, 1) := by decide +kernel
theorem dX8_takesDoor_16 : decode cX8_takesDoor 16 = .ok (.getfield 242, 3) := by decide +kernel
theorem dX8_takesDoor_19 : decode cX8_takesDoor 19 = .ok (.iconst 2, 1) := by decide +kernel
theorem dX8_takesDoor_20 : decode cX8_takesDoor 20 = .ok (.if_icmp .ne 16, 3) := by decide +kernel
theorem dX8_takesDoor_23 : decode cX8_takesDoor 23 = .ok (.aload_n 0, 1) := by decide +kernel
theorem dX8_takesDoor_24 : decode cX8_takesDoor 24 = .ok (.getfield 245, 3) := by decide +kernel
theorem dX8_takesDoor_27 : decode cX8_takesDoor 27 = .ok (.aload_n 0, 1) := by decide +kernel
theorem dX8_takesDoor_28 : decode cX8_takesDoor 28 = .ok (.getfield 67, 3) := by decide +kernel
theorem dX8_takesDoor_31 : decode cX8_takesDoor 31 = .ok (.iconst 0, 1) := by decide +kernel
theorem dX8_takesDoor_32 : decode cX8_takesDoor 32 = .ok (.iaload, 1) := by decide +kernel
theorem dX8_takesDoor_33 : decode cX8_takesDoor 33 = .ok (.if_icmp .eq 25, 3) := by decide +kernel
theorem dX8_takesDoor_36 : decode cX8_takesDoor 36 = .ok (.aload_n 0, 1) := by decide +kernel
theorem dX8_takesDoor_37 : decode cX8_takesDoor 37 = .ok (.iconst 1, 1) := by decide +kernel
theorem dX8_takesDoor_38 : decode cX8_takesDoor 38 = .ok (.iconst 0, 1) := by decide +kernel
theorem dX8_takesDoor_39 : decode cX8_takesDoor 39 = .ok (.bipush 7, 2) := by decide +kernel
theorem dX8_takesDoor_41 : decode cX8_takesDoor 41 = .ok (.invokevirtual 264, 3) := by decide +kernel
theorem dX8_takesDoor_44 : decode cX8_takesDoor 44 = .ok (.ifCond .eq 14, 3) := by decide +kernel
theorem dX8_takesDoor_47 : decode cX8_takesDoor 47 = .ok (.aload_n 0, 1) := by decide +kernel
theorem dX8_takesDoor_48 : decode cX8_takesDoor 48 = .ok (.iconst 2, 1) := by decide +kernel
theorem dX8_takesDoor_49 : decode cX8_takesDoor 49 = .ok (.iconst 1, 1) := by decide +kernel
theorem dX8_takesDoor_50 : decode cX8_takesDoor 50 = .ok (.bipush 9, 2) := by decide +kernel
theorem dX8_takesDoor_52 : decode cX8_takesDoor 52 = .ok (.invokevirtual 264, 3) := by decide +kernel
theorem dX8_takesDoor_55 : decode cX8_takesDoor 55 = .ok (.ifCond .ne 5, 3) := by decide +kernel
theorem dX8_takesDoor_58 : decode cX8_takesDoor 58 = .ok (.iconst 0, 1) := by decide +kernel
theorem dX8_takesDoor_59 : decode cX8_takesDoor 59 = .ok (.ireturn, 1) := by decide +kernel
theorem dX8_takesDoor_60 : decode cX8_takesDoor 60 = .ok (.aload_n 0, 1) := by decide +kernel
theorem dX8_takesDoor_61 : decode cX8_takesDoor 61 = .ok (.getfield 64, 3) := by decide +kernel
theorem dX8_takesDoor_64 : decode cX8_takesDoor 64 = .ok (.aload_n 0, 1) := by decide +kernel
theorem dX8_takesDoor_65 : decode cX8_takesDoor 65 = .ok (.getfield 67, 3) := by decide +kernel
theorem dX8_takesDoor_68 : decode cX8_takesDoor 68 = .ok (.iconst 0, 1) := by decide +kernel
theorem dX8_takesDoor_69 : decode cX8_takesDoor 69 = .ok (.iaload, 1) := by decide +kernel
theorem dX8_takesDoor_70 : decode cX8_takesDoor 70 = .ok (.aload_n 0, 1) := by decide +kernel
theorem dX8_takesDoor_71 : decode cX8_takesDoor 71 = .ok (.getfield 67, 3) := by decide +kernel
theorem dX8_takesDoor_74 : decode cX8_takesDoor 74 = .ok (.iconst 1, 1) := by decide +kernel
theorem dX8_takesDoor_75 : decode cX8_takesDoor 75 = .ok (.iaload, 1) := by decide +kernel
theorem dX8_takesDoor_76 : decode cX8_takesDoor 76 = .ok (.aload_n 0, 1) := by decide +kernel
theorem dX8_takesDoor_77 : decode cX8_takesDoor 77 = .ok (.getfield 67, 3) := by decide +kernel
theorem dX8_takesDoor_80 : decode cX8_takesDoor 80 = .ok (.iconst 2, 1) := by decide +kernel
theorem dX8_takesDoor_81 : decode cX8_takesDoor 81 = .ok (.iaload, 1) := by decide +kernel
theorem dX8_takesDoor_82 : decode cX8_takesDoor 82 = .ok (.invokestatic 100, 3) := by decide +kernel
theorem dX8_takesDoor_85 : decode cX8_takesDoor 85 = .ok (.iconst 1, 1) := by decide +kernel
theorem dX8_takesDoor_86 : decode cX8_takesDoor 86 = .ok (.ireturn, 1) := by decide +kernel
theorem dX8_takesList_0 : decode cX8_takesList 0 = .ok (.aload_n 0, 1) := by decide +kernel
theorem dX8_takesList_1 : decode cX8_takesList 1 = .ok (.invokevirtual 257, 3) := by decide +kernel
theorem dX8_takesList_4 : decode cX8_takesList 4 = .ok (.iconst 0, 1) := by decide +kernel
theorem dX8_takesList_5 : decode cX8_takesList 5 = .ok (.istore_n 1, 1) := by decide +kernel
theorem dX8_takesList_6 : decode cX8_takesList 6 = .ok (.iload_n 1, 1) := by decide +kernel
theorem dX8_takesList_7 : decode cX8_takesList 7 = .ok (.ifCond .eq 11, 3) := by decide +kernel
theorem dX8_takesList_10 : decode cX8_takesList 10 = .ok (.aload_n 0, 1) := by decide +kernel
theorem dX8_takesList_11 : decode cX8_takesList 11 = .ok (.getfield 242, 3) := by decide +kernel
theorem dX8_takesList_14 : decode cX8_takesList 14 = .ok (.iconst 2, 1) := by decide +kernel
theorem dX8_takesList_15 : decode cX8_takesList 15 = .ok (.if_icmp .ne 43, 3) := by decide +kernel
theorem dX8_takesList_18 : decode cX8_takesList 18 = .ok (.iload_n 1, 1) := by decide +kernel
theorem dX8_takesList_19 : decode cX8_takesList 19 = .ok (.bipush 12, 2) := by decide +kernel
theorem dX8_takesList_21 : decode cX8_takesList 21 = .ok (.if_icmp .eq 14, 3) := by decide +kernel
theorem dX8_takesList_24 : decode cX8_takesList 24 = .ok (.aload_n 0, 1) := by decide +kernel
theorem dX8_takesList_25 : decode cX8_takesList 25 = .ok (.iconst 0, 1) := by decide +kernel
theorem dX8_takesList_26 : decode cX8_takesList 26 = .ok (.iconst 0, 1) := by decide +kernel
theorem dX8_takesList_27 : decode cX8_takesList 27 = .ok (.bipush 7, 2) := by decide +kernel
theorem dX8_takesList_29 : decode cX8_takesList 29 = .ok (.invokevirtual 264, 3) := by decide +kernel
theorem dX8_takesList_32 : decode cX8_takesList 32 = .ok (.ifCond .ne 5, 3) := by decide +kernel
theorem dX8_takesList_35 : decode cX8_takesList 35 = .ok (.iconst 0, 1) := by decide +kernel
theorem dX8_takesList_36 : decode cX8_takesList 36 = .ok (.ireturn, 1) := by decide +kernel
theorem dX8_takesList_37 : decode cX8_takesList 37 = .ok (.aload_n 0, 1) := by decide +kernel
theorem dX8_takesList_38 : decode cX8_takesList 38 = .ok (.getfield 64, 3) := by decide +kernel
theorem dX8_takesList_41 : decode cX8_takesList 41 = .ok (.bipush 79, 2) := by decide +kernel
theorem dX8_takesList_43 : decode cX8_takesList 43 = .ok (.iload_n 1, 1) := by decide +kernel
theorem dX8_takesList_44 : decode cX8_takesList 44 = .ok (.iadd, 1) := by decide +kernel
theorem dX8_takesList_45 : decode cX8_takesList 45 = .ok (.aload_n 0, 1) := by decide +kernel
theorem dX8_takesList_46 : decode cX8_takesList 46 = .ok (.getfield 67, 3) := by decide +kernel
theorem dX8_takesList_49 : decode cX8_takesList 49 = .ok (.iconst 0, 1) := by decide +kernel
theorem dX8_takesList_50 : decode cX8_takesList 50 = .ok (.iaload, 1) := by decide +kernel
theorem dX8_takesList_51 : decode cX8_takesList 51 = .ok (.iastore, 1) := by decide +kernel
theorem dX8_takesList_52 : decode cX8_takesList 52 = .ok (.iinc 1 1, 3) := by decide +kernel
theorem dX8_takesList_55 : decode cX8_takesList 55 = .ok (.goto (-49), 3) := by decide +kernel
theorem dX8_takesList_58 : decode cX8_takesList 58 = .ok (.aload_n 0, 1) := by decide +kernel
theorem dX8_takesList_59 : decode cX8_takesList 59 = .ok (.getfield 64, 3) := by decide +kernel
theorem dX8_takesList_62 : decode cX8_takesList 62 = .ok (.iconst 4, 1) := by decide +kernel
theorem dX8_takesList_63 : decode cX8_takesList 63 = .ok (.iload_n 1, 1) := by decide +kernel
theorem dX8_takesList_64 : decode cX8_takesList 64 = .ok (.iastore, 1) := by decide +kernel
theorem dX8_takesList_65 : decode cX8_takesList 65 = .ok (.iconst 1, 1) := by decide +kernel
theorem dX8_takesList_66 : decode cX8_takesList 66 = .ok (.ireturn, 1) := by decide +kernel
theorem dX8_takesHeir_0 : decode cX8_takesHeir 0 = .ok (.aload_n 0, 1) := by decide +kernel
theorem dX8_takesHeir_1 : decode cX8_takesHeir 1 = .ok (.getfield 64, 3) := by decide +kernel
theorem dX8_takesHeir_4 : decode cX8_takesHeir 4 = .ok (.iconst 0, 1) := by decide +kernel
theorem dX8_takesHeir_5 : decode cX8_takesHeir 5 = .ok (.iaload, 1) := by decide +kernel
theorem dX8_takesHeir_6 : decode cX8_takesHeir 6 = .ok (.bipush 6, 2) := by decide +kernel
theorem dX8_takesHeir_8 : decode cX8_takesHeir 8 = .ok (.if_icmp .ne 5, 3) := by decide +kernel
theorem dX8_takesHeir_11 : decode cX8_takesHeir 11 = .ok (.iconst 0, 1) := by decide +kernel
theorem dX8_takesHeir_12 : decode cX8_takesHeir 12 = .ok (.ireturn, 1) := by decide +kernel
theorem dX8_takesHeir_13 : decode cX8_takesHeir 13 = .ok (.aload_n 0, 1) := by decide +kernel
theorem dX8_takesHeir_14 : decode cX8_takesHeir 14 = .ok (.invokevirtual 257, 3) := by decide +kernel
theorem dX8_takesHeir_17 : decode cX8_takesHeir 17 = .ok (.aload_n 0, 1) := by decide +kernel
theorem dX8_takesHeir_18 : decode cX8_takesHeir 18 = .ok (.iconst 0, 1) := by decide +kernel
theorem dX8_takesHeir_19 : decode cX8_takesHeir 19 = .ok (.iconst 0, 1) := by decide +kernel
theorem dX8_takesHeir_20 : decode cX8_takesHeir 20 = .ok (.iconst 5, 1) := by decide +kernel
theorem dX8_takesHeir_21 : decode cX8_takesHeir 21 = .ok (.invokevirtual 264, 3) := by decide +kernel
theorem dX8_takesHeir_24 : decode cX8_takesHeir 24 = .ok (.ifCond .eq 25, 3) := by decide +kernel
theorem dX8_takesHeir_27 : decode cX8_takesHeir 27 = .ok (.aload_n 0, 1) := by decide +kernel
theorem dX8_takesHeir_28 : decode cX8_takesHeir 28 = .ok (.iconst 1, 1) := by decide +kernel
theorem dX8_takesHeir_29 : decode cX8_takesHeir 29 = .ok (.iconst 0, 1) := by decide +kernel
theorem dX8_takesHeir_30 : decode cX8_takesHeir 30 = .ok (.bipush 7, 2) := by decide +kernel
theorem dX8_takesHeir_32 : decode cX8_takesHeir 32 = .ok (.invokevirtual 264, 3) := by decide +kernel
theorem dX8_takesHeir_35 : decode cX8_takesHeir 35 = .ok (.ifCond .eq 14, 3) := by decide +kernel
theorem dX8_takesHeir_38 : decode cX8_takesHeir 38 = .ok (.aload_n 0, 1) := by decide +kernel
theorem dX8_takesHeir_39 : decode cX8_takesHeir 39 = .ok (.iconst 2, 1) := by decide +kernel
theorem dX8_takesHeir_40 : decode cX8_takesHeir 40 = .ok (.iconst 0, 1) := by decide +kernel
theorem dX8_takesHeir_41 : decode cX8_takesHeir 41 = .ok (.bipush 9, 2) := by decide +kernel
theorem dX8_takesHeir_43 : decode cX8_takesHeir 43 = .ok (.invokevirtual 264, 3) := by decide +kernel
theorem dX8_takesHeir_46 : decode cX8_takesHeir 46 = .ok (.ifCond .ne 5, 3) := by decide +kernel
theorem dX8_takesHeir_49 : decode cX8_takesHeir 49 = .ok (.iconst 0, 1) := by decide +kernel
theorem dX8_takesHeir_50 : decode cX8_takesHeir 50 = .ok (.ireturn, 1) := by decide +kernel
theorem dX8_takesHeir_51 : decode cX8_takesHeir 51 = .ok (.aload_n 0, 1) := by decide +kernel
theorem dX8_takesHeir_52 : decode cX8_takesHeir 52 = .ok (.getfield 64, 3) := by decide +kernel
theorem dX8_takesHeir_55 : decode cX8_takesHeir 55 = .ok (.aload_n 0, 1) := by decide +kernel
theorem dX8_takesHeir_56 : decode cX8_takesHeir 56 = .ok (.getfield 67, 3) := by decide +kernel
theorem dX8_takesHeir_59 : decode cX8_takesHeir 59 = .ok (.iconst 0, 1) := by decide +kernel
theorem dX8_takesHeir_60 : decode cX8_takesHeir 60 = .ok (.iaload, 1) := by decide +kernel
theorem dX8_takesHeir_61 : decode cX8_takesHeir 61 = .ok (.aload_n 0, 1) := by decide +kernel
theorem dX8_takesHeir_62 : decode cX8_takesHeir 62 = .ok (.getfield 67, 3) := by decide +kernel
theorem dX8_takesHeir_65 : decode cX8_takesHeir 65 = .ok (.iconst 1, 1) := by decide +kernel
theorem dX8_takesHeir_66 : decode cX8_takesHeir 66 = .ok (.iaload, 1) := by decide +kernel
theorem dX8_takesHeir_67 : decode cX8_takesHeir 67 = .ok (.aload_n 0, 1) := by decide +kernel
theorem dX8_takesHeir_68 : decode cX8_takesHeir 68 = .ok (.getfield 67, 3) := by decide +kernel
theorem dX8_takesHeir_71 : decode cX8_takesHeir 71 = .ok (.iconst 2, 1) := by decide +kernel
theorem dX8_takesHeir_72 : decode cX8_takesHeir 72 = .ok (.iaload, 1) := by decide +kernel
theorem dX8_takesHeir_73 : decode cX8_takesHeir 73 = .ok (.invokestatic 109, 3) := by decide +kernel
theorem dX8_takesHeir_76 : decode cX8_takesHeir 76 = .ok (.iconst 1, 1) := by decide +kernel
theorem dX8_takesHeir_77 : decode cX8_takesHeir 77 = .ok (.ireturn, 1) := by decide +kernel
theorem dX8_takesItem_0 : decode cX8_takesItem 0 = .ok (.aload_n 0, 1) := by decide +kernel
theorem dX8_takesItem_1 : decode cX8_takesItem 1 = .ok (.iconst 4, 1) := by decide +kernel
theorem dX8_takesItem_2 : decode cX8_takesItem 2 = .ok (.bipush 114, 2) := by decide +kernel
theorem dX8_takesItem_4 : decode cX8_takesItem 4 = .ok (.bipush 111, 2) := by decide +kernel
theorem dX8_takesItem_6 : decode cX8_takesItem 6 = .ok (.bipush 111, 2) := by decide +kernel
theorem dX8_takesItem_8 : decode cX8_takesItem 8 = .ok (.bipush 109, 2) := by decide +kernel
theorem dX8_takesItem_10 : decode cX8_takesItem 10 = .ok (.iconst 0, 1) := by decide +kernel
theorem dX8_takesItem_11 : decode cX8_takesItem 11 = .ok (.invokevirtual 260, 3) := by decide +kernel
theorem dX8_takesItem_14 : decode cX8_takesItem 14 = .ok (.ifCond .eq 8, 3) := by decide +kernel
theorem dX8_takesItem_17 : decode cX8_takesItem 17 = .ok (.aload_n 0, 1) := by decide +kernel
theorem dX8_takesItem_18 : decode cX8_takesItem 18 = .ok (.invokevirtual 268, 3) := by decide +kernel
theorem dX8_takesItem_21 : decode cX8_takesItem 21 = .ok (.ireturn, 1) := by decide +kernel
theorem dX8_takesItem_22 : decode cX8_takesItem 22 = .ok (.aload_n 0, 1) := by decide +kernel
theorem dX8_takesItem_23 : decode cX8_takesItem 23 = .ok (.iconst 4, 1) := by decide +kernel
theorem dX8_takesItem_24 : decode cX8_takesItem 24 = .ok (.bipush 100, 2) := by decide +kernel
theorem dX8_takesItem_26 : decode cX8_takesItem 26 = .ok (.bipush 111, 2) := by decide +kernel
theorem dX8_takesItem_28 : decode cX8_takesItem 28 = .ok (.bipush 111, 2) := by decide +kernel
theorem dX8_takesItem_30 : decode cX8_takesItem 30 = .ok (.bipush 114, 2) := by decide +kernel
theorem dX8_takesItem_32 : decode cX8_takesItem 32 = .ok (.iconst 0, 1) := by decide +kernel
theorem dX8_takesItem_33 : decode cX8_takesItem 33 = .ok (.invokevirtual 260, 3) := by decide +kernel
theorem dX8_takesItem_36 : decode cX8_takesItem 36 = .ok (.ifCond .eq 8, 3) := by decide +kernel
theorem dX8_takesItem_39 : decode cX8_takesItem 39 = .ok (.aload_n 0, 1) := by decide +kernel
theorem dX8_takesItem_40 : decode cX8_takesItem 40 = .ok (.invokevirtual 272, 3) := by decide +kernel
theorem dX8_takesItem_43 : decode cX8_takesItem 43 = .ok (.ireturn, 1) := by decide +kernel
theorem dX8_takesItem_44 : decode cX8_takesItem 44 = .ok (.aload_n 0, 1) := by decide +kernel
theorem dX8_takesItem_45 : decode cX8_takesItem 45 = .ok (.iconst 4, 1) := by decide +kernel
theorem dX8_takesItem_46 : decode cX8_takesItem 46 = .ok (.bipush 108, 2) := by decide +kernel
theorem dX8_takesItem_48 : decode cX8_takesItem 48 = .ok (.bipush 105, 2) := by decide +kernel
theorem dX8_takesItem_50 : decode cX8_takesItem 50 = .ok (.bipush 115, 2) := by decide +kernel
theorem dX8_takesItem_52 : decode cX8_takesItem 52 = .ok (.bipush 116, 2) := by decide +kernel
theorem dX8_takesItem_54 : decode cX8_takesItem 54 = .ok (.iconst 0, 1) := by decide +kernel
theorem dX8_takesItem_55 : decode cX8_takesItem 55 = .ok (.invokevirtual 260, 3) := by decide +kernel
theorem dX8_takesItem_58 : decode cX8_takesItem 58 = .ok (.ifCond .eq 8, 3) := by decide +kernel
theorem dX8_takesItem_61 : decode cX8_takesItem 61 = .ok (.aload_n 0, 1) := by decide +kernel
theorem dX8_takesItem_62 : decode cX8_takesItem 62 = .ok (.invokevirtual 275, 3) := by decide +kernel
theorem dX8_takesItem_65 : decode cX8_takesItem 65 = .ok (.ireturn, 1) := by decide +kernel
theorem dX8_takesItem_66 : decode cX8_takesItem 66 = .ok (.aload_n 0, 1) := by decide +kernel
theorem dX8_takesItem_67 : decode cX8_takesItem 67 = .ok (.iconst 4, 1) := by decide +kernel
theorem dX8_takesItem_68 : decode cX8_takesItem 68 = .ok (.bipush 104, 2) := by decide +kernel
theorem dX8_takesItem_70 : decode cX8_takesItem 70 = .ok (.bipush 101, 2) := by decide +kernel
theorem dX8_takesItem_72 : decode cX8_takesItem 72 = .ok (.bipush 105, 2) := by decide +kernel
theorem dX8_takesItem_74 : decode cX8_takesItem 74 = .ok (.bipush 114, 2) := by decide +kernel
theorem dX8_takesItem_76 : decode cX8_takesItem 76 = .ok (.iconst 0, 1) := by decide +kernel
theorem dX8_takesItem_77 : decode cX8_takesItem 77 = .ok (.invokevirtual 260, 3) := by decide +kernel
theorem dX8_takesItem_80 : decode cX8_takesItem 80 = .ok (.ifCond .eq 14, 3) := by decide +kernel
theorem dX8_takesItem_83 : decode cX8_takesItem 83 = .ok (.aload_n 0, 1) := by decide +kernel
theorem dX8_takesItem_84 : decode cX8_takesItem 84 = .ok (.invokevirtual 278, 3) := by decide +kernel
theorem dX8_takesItem_87 : decode cX8_takesItem 87 = .ok (.ifCond .eq 7, 3) := by decide +kernel
theorem dX8_takesItem_90 : decode cX8_takesItem 90 = .ok (.iconst 1, 1) := by decide +kernel
theorem dX8_takesItem_91 : decode cX8_takesItem 91 = .ok (.goto 4, 3) := by decide +kernel
theorem dX8_takesItem_94 : decode cX8_takesItem 94 = .ok (.iconst 0, 1) := by decide +kernel
theorem dX8_takesItem_95 : decode cX8_takesItem 95 = .ok (.ireturn, 1) := by decide +kernel
theorem dX8_read_0 : decode cX8_read 0 = .ok (.aload_n 0, 1) := by decide +kernel
theorem dX8_read_1 : decode cX8_read 1 = .ok (.iconst 0, 1) := by decide +kernel
theorem dX8_read_2 : decode cX8_read 2 = .ok (.invokevirtual 254, 3) := by decide +kernel
theorem dX8_read_5 : decode cX8_read 5 = .ok (.aload_n 0, 1) := by decide +kernel
theorem dX8_read_6 : decode cX8_read 6 = .ok (.invokevirtual 281, 3) := by decide +kernel
theorem dX8_read_9 : decode cX8_read 9 = .ok (.ifCond .ne 11, 3) := by decide +kernel
theorem dX8_read_12 : decode cX8_read 12 = .ok (.bipush (-10), 2) := by decide +kernel
theorem dX8_read_14 : decode cX8_read 14 = .ok (.aload_n 0, 1) := by decide +kernel
theorem dX8_read_15 : decode cX8_read 15 = .ok (.getfield 236, 3) := by decide +kernel
theorem dX8_read_18 : decode cX8_read 18 = .ok (.isub, 1) := by decide +kernel
theorem dX8_read_19 : decode cX8_read 19 = .ok (.ireturn, 1) := by decide +kernel
theorem dX8_read_20 : decode cX8_read 20 = .ok (.aload_n 0, 1) := by decide +kernel
theorem dX8_read_21 : decode cX8_read 21 = .ok (.invokevirtual 257, 3) := by decide +kernel
theorem dX8_read_24 : decode cX8_read 24 = .ok (.iconst 1, 1) := by decide +kernel
theorem dX8_read_25 : decode cX8_read 25 = .ok (.istore_n 1, 1) := by decide +kernel
theorem dX8_read_26 : decode cX8_read 26 = .ok (.aload_n 0, 1) := by decide +kernel
theorem dX8_read_27 : decode cX8_read 27 = .ok (.getfield 242, 3) := by decide +kernel
theorem dX8_read_30 : decode cX8_read 30 = .ok (.ifCond .eq 36, 3) := by decide +kernel
theorem dX8_read_33 : decode cX8_read 33 = .ok (.aload_n 0, 1) := by decide +kernel
theorem dX8_read_34 : decode cX8_read 34 = .ok (.invokevirtual 284, 3) := by decide +kernel
theorem dX8_read_37 : decode cX8_read 37 = .ok (.ifCond .eq 11, 3) := by decide +kernel
theorem dX8_read_40 : decode cX8_read 40 = .ok (.aload_n 0, 1) := by decide +kernel
theorem dX8_read_41 : decode cX8_read 41 = .ok (.getfield 242, 3) := by decide +kernel
theorem dX8_read_44 : decode cX8_read 44 = .ok (.iconst 3, 1) := by decide +kernel
theorem dX8_read_45 : decode cX8_read 45 = .ok (.if_icmp .eq 11, 3) := by decide +kernel
theorem dX8_read_48 : decode cX8_read 48 = .ok (.bipush (-10), 2) := by decide +kernel
theorem dX8_read_50 : decode cX8_read 50 = .ok (.aload_n 0, 1) := by decide +kernel
theorem dX8_read_51 : decode cX8_read 51 = .ok (.getfield 236, 3) := by decide +kernel
theorem dX8_read_54 : decode cX8_read 54 = .ok (.isub, 1) := by decide +kernel
theorem dX8_read_55 : decode cX8_read 55 = .ok (.ireturn, 1) := by decide +kernel
theorem dX8_read_56 : decode cX8_read 56 = .ok (.aload_n 0, 1) := by decide +kernel
theorem dX8_read_57 : decode cX8_read 57 = .ok (.invokevirtual 257, 3) := by decide +kernel
theorem dX8_read_60 : decode cX8_read 60 = .ok (.iinc 1 1, 3) := by decide +kernel
theorem dX8_read_63 : decode cX8_read 63 = .ok (.goto (-37), 3) := by decide +kernel
theorem dX8_read_66 : decode cX8_read 66 = .ok (.iconst 0, 1) := by decide +kernel
theorem dX8_read_67 : decode cX8_read 67 = .ok (.istore_n 2, 1) := by decide +kernel
theorem dX8_read_68 : decode cX8_read 68 = .ok (.iload_n 2, 1) := by decide +kernel
theorem dX8_read_69 : decode cX8_read 69 = .ok (.sipush 151, 3) := by decide +kernel
theorem dX8_read_72 : decode cX8_read 72 = .ok (.if_icmp .ge 21, 3) := by decide +kernel
theorem dX8_read_75 : decode cX8_read 75 = .ok (.aload_n 0, 1) := by decide +kernel
theorem dX8_read_76 : decode cX8_read 76 = .ok (.getfield 7, 3) := by decide +kernel
theorem dX8_read_79 : decode cX8_read 79 = .ok (.iload_n 2, 1) := by decide +kernel
theorem dX8_read_80 : decode cX8_read 80 = .ok (.aload_n 0, 1) := by decide +kernel
theorem dX8_read_81 : decode cX8_read 81 = .ok (.getfield 64, 3) := by decide +kernel
theorem dX8_read_84 : decode cX8_read 84 = .ok (.iload_n 2, 1) := by decide +kernel
theorem dX8_read_85 : decode cX8_read 85 = .ok (.iaload, 1) := by decide +kernel
theorem dX8_read_86 : decode cX8_read 86 = .ok (.iastore, 1) := by decide +kernel
theorem dX8_read_87 : decode cX8_read 87 = .ok (.iinc 2 1, 3) := by decide +kernel
theorem dX8_read_90 : decode cX8_read 90 = .ok (.goto (-22), 3) := by decide +kernel
theorem dX8_read_93 : decode cX8_read 93 = .ok (.iload_n 1, 1) := by decide +kernel
theorem dX8_read_94 : decode cX8_read 94 = .ok (.ireturn, 1) := by decide +kernel
theorem dX8_part_0 : decode cX8_part 0 = .ok (.iload_n 1, 1) := by decide +kernel
theorem dX8_part_1 : decode cX8_part 1 = .ok (.ifCond .ne 10, 3) := by decide +kernel
theorem dX8_part_4 : decode cX8_part 4 = .ok (.aload_n 0, 1) := by decide +kernel
theorem dX8_part_5 : decode cX8_part 5 = .ok (.getfield 183, 3) := by decide +kernel
theorem dX8_part_8 : decode cX8_part 8 = .ok (.goto 22, 3) := by decide +kernel
theorem dX8_part_11 : decode cX8_part 11 = .ok (.iload_n 1, 1) := by decide +kernel
theorem dX8_part_12 : decode cX8_part 12 = .ok (.iconst 1, 1) := by decide +kernel
theorem dX8_part_13 : decode cX8_part 13 = .ok (.if_icmp .ne 10, 3) := by decide +kernel
theorem dX8_part_16 : decode cX8_part 16 = .ok (.aload_n 0, 1) := by decide +kernel
theorem dX8_part_17 : decode cX8_part 17 = .ok (.getfield 23, 3) := by decide +kernel
theorem dX8_part_20 : decode cX8_part 20 = .ok (.goto 10, 3) := by decide +kernel
theorem dX8_part_23 : decode cX8_part 23 = .ok (.aload_n 0, 1) := by decide +kernel
theorem dX8_part_24 : decode cX8_part 24 = .ok (.bipush (-2), 2) := by decide +kernel
theorem dX8_part_26 : decode cX8_part 26 = .ok (.invokevirtual 86, 3) := by decide +kernel
theorem dX8_part_29 : decode cX8_part 29 = .ok (.i2l, 1) := by decide +kernel
theorem dX8_part_30 : decode cX8_part 30 = .ok (.lreturn, 1) := by decide +kernel
theorem dX8_image_0 : decode cX8_image 0 = .ok (.iload_n 1, 1) := by decide +kernel
theorem dX8_image_1 : decode cX8_image 1 = .ok (.i2l, 1) := by decide +kernel
theorem dX8_image_2 : decode cX8_image 2 = .ok (.lconst 0, 1) := by decide +kernel
theorem dX8_image_3 : decode cX8_image 3 = .ok (.lconst 1, 1) := by decide +kernel
theorem dX8_image_4 : decode cX8_image 4 = .ok (.invokestatic 78, 3) := by decide +kernel
theorem dX8_image_7 : decode cX8_image 7 = .ok (.ifCond .ne 10, 3) := by decide +kernel
theorem dX8_image_10 : decode cX8_image 10 = .ok (.aload_n 0, 1) := by decide +kernel
theorem dX8_image_11 : decode cX8_image 11 = .ok (.bipush (-2), 2) := by decide +kernel
theorem dX8_image_13 : decode cX8_image 13 = .ok (.invokevirtual 86, 3) := by decide +kernel
theorem dX8_image_16 : decode cX8_image 16 = .ok (.ireturn, 1) := by decide +kernel
theorem dX8_image_17 : decode cX8_image 17 = .ok (.iconst 0, 1) := by decide +kernel
theorem dX8_image_18 : decode cX8_image 18 = .ok (.istore_n 2, 1) := by decide +kernel
theorem dX8_image_19 : decode cX8_image 19 = .ok (.iload_n 2, 1) := by decide +kernel
theorem dX8_image_20 : decode cX8_image 20 = .ok (.sipush 399, 3) := by decide +kernel
theorem dX8_image_23 : decode cX8_image 23 = .ok (.if_icmp .ge 27, 3) := by decide +kernel
theorem dX8_image_26 : decode cX8_image 26 = .ok (.aload_n 0, 1) := by decide +kernel
theorem dX8_image_27 : decode cX8_image 27 = .ok (.getfield 13, 3) := by decide +kernel
theorem dX8_image_30 : decode cX8_image 30 = .ok (.sipush 399, 3) := by decide +kernel
theorem dX8_image_33 : decode cX8_image 33 = .ok (.iload_n 1, 1) := by decide +kernel
theorem dX8_image_34 : decode cX8_image 34 = .ok (.imul, 1) := by decide +kernel
theorem dX8_image_35 : decode cX8_image 35 = .ok (.iload_n 2, 1) := by decide +kernel
theorem dX8_image_36 : decode cX8_image 36 = .ok (.iadd, 1) := by decide +kernel
theorem dX8_image_37 : decode cX8_image 37 = .ok (.aload_n 0, 1) := by decide +kernel
theorem dX8_image_38 : decode cX8_image 38 = .ok (.getfield 7, 3) := by decide +kernel
theorem dX8_image_41 : decode cX8_image 41 = .ok (.iload_n 2, 1) := by decide +kernel
theorem dX8_image_42 : decode cX8_image 42 = .ok (.iaload, 1) := by decide +kernel
theorem dX8_image_43 : decode cX8_image 43 = .ok (.iastore, 1) := by decide +kernel
theorem dX8_image_44 : decode cX8_image 44 = .ok (.iinc 2 1, 3) := by decide +kernel
theorem dX8_image_47 : decode cX8_image 47 = .ok (.goto (-28), 3) := by decide +kernel
theorem dX8_image_50 : decode cX8_image 50 = .ok (.aload_n 0, 1) := by decide +kernel
theorem dX8_image_51 : decode cX8_image 51 = .ok (.getfield 16, 3) := by decide +kernel
theorem dX8_image_54 : decode cX8_image 54 = .ok (.iload_n 1, 1) := by decide +kernel
theorem dX8_image_55 : decode cX8_image 55 = .ok (.iconst 1, 1) := by decide +kernel
theorem dX8_image_56 : decode cX8_image 56 = .ok (.bastore, 1) := by decide +kernel
theorem dX8_image_57 : decode cX8_image 57 = .ok (.iconst 1, 1) := by decide +kernel
theorem dX8_image_58 : decode cX8_image 58 = .ok (.ireturn, 1) := by decide +kernel
theorem dX8_from_0 : decode cX8_from 0 = .ok (.iload_n 1, 1) := by decide +kernel
theorem dX8_from_1 : decode cX8_from 1 = .ok (.i2l, 1) := by decide +kernel
theorem dX8_from_2 : decode cX8_from 2 = .ok (.lconst 0, 1) := by decide +kernel
theorem dX8_from_3 : decode cX8_from 3 = .ok (.lconst 1, 1) := by decide +kernel
theorem dX8_from_4 : decode cX8_from 4 = .ok (.invokestatic 78, 3) := by decide +kernel
theorem dX8_from_7 : decode cX8_from 7 = .ok (.ifCond .ne 10, 3) := by decide +kernel
theorem dX8_from_10 : decode cX8_from 10 = .ok (.aload_n 0, 1) := by decide +kernel
theorem dX8_from_11 : decode cX8_from 11 = .ok (.bipush (-2), 2) := by decide +kernel
theorem dX8_from_13 : decode cX8_from 13 = .ok (.invokevirtual 86, 3) := by decide +kernel
theorem dX8_from_16 : decode cX8_from 16 = .ok (.ireturn, 1) := by decide +kernel
theorem dX8_from_17 : decode cX8_from 17 = .ok (.aload_n 0, 1) := by decide +kernel
theorem dX8_from_18 : decode cX8_from 18 = .ok (.getfield 16, 3) := by decide +kernel
theorem dX8_from_21 : decode cX8_from 21 = .ok (.iload_n 1, 1) := by decide +kernel
theorem dX8_from_22 : decode cX8_from 22 = .ok (.baload, 1) := by decide +kernel
theorem dX8_from_23 : decode cX8_from 23 = .ok (.ifCond .ne 8, 3) := by decide +kernel
theorem dX8_from_26 : decode cX8_from 26 = .ok (.aload_n 0, 1) := by decide +kernel
theorem dX8_from_27 : decode cX8_from 27 = .ok (.invokevirtual 140, 3) := by decide +kernel
theorem dX8_from_30 : decode cX8_from 30 = .ok (.ireturn, 1) := by decide +kernel
theorem dX8_from_31 : decode cX8_from 31 = .ok (.iconst 0, 1) := by decide +kernel
theorem dX8_from_32 : decode cX8_from 32 = .ok (.istore_n 2, 1) := by decide +kernel
theorem dX8_from_33 : decode cX8_from 33 = .ok (.iload_n 2, 1) := by decide +kernel
theorem dX8_from_34 : decode cX8_from 34 = .ok (.sipush 399, 3) := by decide +kernel
theorem dX8_from_37 : decode cX8_from 37 = .ok (.if_icmp .ge 27, 3) := by decide +kernel
theorem dX8_from_40 : decode cX8_from 40 = .ok (.aload_n 0, 1) := by decide +kernel
theorem dX8_from_41 : decode cX8_from 41 = .ok (.getfield 7, 3) := by decide +kernel
theorem dX8_from_44 : decode cX8_from 44 = .ok (.iload_n 2, 1) := by decide +kernel
theorem dX8_from_45 : decode cX8_from 45 = .ok (.aload_n 0, 1) := by decide +kernel
theorem dX8_from_46 : decode cX8_from 46 = .ok (.getfield 13, 3) := by decide +kernel
theorem dX8_from_49 : decode cX8_from 49 = .ok (.sipush 399, 3) := by decide +kernel
theorem dX8_from_52 : decode cX8_from 52 = .ok (.iload_n 1, 1) := by decide +kernel
theorem dX8_from_53 : decode cX8_from 53 = .ok (.imul, 1) := by decide +kernel
theorem dX8_from_54 : decode cX8_from 54 = .ok (.iload_n 2, 1) := by decide +kernel
theorem dX8_from_55 : decode cX8_from 55 = .ok (.iadd, 1) := by decide +kernel
theorem dX8_from_56 : decode cX8_from 56 = .ok (.iaload, 1) := by decide +kernel
theorem dX8_from_57 : decode cX8_from 57 = .ok (.iastore, 1) := by decide +kernel
theorem dX8_from_58 : decode cX8_from 58 = .ok (.iinc 2 1, 3) := by decide +kernel
theorem dX8_from_61 : decode cX8_from 61 = .ok (.goto (-28), 3) := by decide +kernel
theorem dX8_from_64 : decode cX8_from 64 = .ok (.iconst 1, 1) := by decide +kernel
theorem dX8_from_65 : decode cX8_from 65 = .ok (.ireturn, 1) := by decide +kernel
theorem dX8_status_0 : decode cX8_status 0 = .ok (.iload_n 1, 1) := by decide +kernel
theorem dX8_status_1 : decode cX8_status 1 = .ok (.i2l, 1) := by decide +kernel
theorem dX8_status_2 : decode cX8_status 2 = .ok (.lconst 0, 1) := by decide +kernel
theorem dX8_status_3 : decode cX8_status 3 = .ok (.ldc2_w 287, 3) := by decide +kernel
theorem dX8_status_6 : decode cX8_status 6 = .ok (.invokestatic 78, 3) := by decide +kernel
theorem dX8_status_9 : decode cX8_status 9 = .ok (.ifCond .eq 12, 3) := by decide +kernel
theorem dX8_status_12 : decode cX8_status 12 = .ok (.aload_n 0, 1) := by decide +kernel
theorem dX8_status_13 : decode cX8_status 13 = .ok (.getfield 20, 3) := by decide +kernel
theorem dX8_status_16 : decode cX8_status 16 = .ok (.iload_n 1, 1) := by decide +kernel
theorem dX8_status_17 : decode cX8_status 17 = .ok (.iaload, 1) := by decide +kernel
theorem dX8_status_18 : decode cX8_status 18 = .ok (.goto 8, 3) := by decide +kernel
theorem dX8_status_21 : decode cX8_status 21 = .ok (.aload_n 0, 1) := by decide +kernel
theorem dX8_status_22 : decode cX8_status 22 = .ok (.iconst (-1), 1) := by decide +kernel
theorem dX8_status_23 : decode cX8_status 23 = .ok (.invokevirtual 86, 3) := by decide +kernel
theorem dX8_status_26 : decode cX8_status 26 = .ok (.ireturn, 1) := by decide +kernel
theorem dX8_manyIn_0 : decode cX8_manyIn 0 = .ok (.iconst 0, 1) := by decide +kernel
theorem dX8_manyIn_1 : decode cX8_manyIn 1 = .ok (.istore_n 1, 1) := by decide +kernel
theorem dX8_manyIn_2 : decode cX8_manyIn 2 = .ok (.iconst 0, 1) := by decide +kernel
theorem dX8_manyIn_3 : decode cX8_manyIn 3 = .ok (.istore_n 2, 1) := by decide +kernel
theorem dX8_manyIn_4 : decode cX8_manyIn 4 = .ok (.iload_n 2, 1) := by decide +kernel
theorem dX8_manyIn_5 : decode cX8_manyIn 5 = .ok (.aload_n 0, 1) := by decide +kernel
theorem dX8_manyIn_6 : decode cX8_manyIn 6 = .ok (.invokevirtual 74, 3) := by decide +kernel
theorem dX8_manyIn_9 : decode cX8_manyIn 9 = .ok (.if_icmp .ge 26, 3) := by decide +kernel
theorem dX8_manyIn_12 : decode cX8_manyIn 12 = .ok (.iload_n 1, 1) := by decide +kernel
theorem dX8_manyIn_13 : decode cX8_manyIn 13 = .ok (.aload_n 0, 1) := by decide +kernel
theorem dX8_manyIn_14 : decode cX8_manyIn 14 = .ok (.iload_n 2, 1) := by decide +kernel
theorem dX8_manyIn_15 : decode cX8_manyIn 15 = .ok (.iconst 4, 1) := by decide +kernel
theorem dX8_manyIn_16 : decode cX8_manyIn 16 = .ok (.invokevirtual 119, 3) := by decide +kernel
theorem dX8_manyIn_19 : decode cX8_manyIn 19 = .ok (.ifCond .ne 7, 3) := by decide +kernel
theorem dX8_manyIn_22 : decode cX8_manyIn 22 = .ok (.iconst 1, 1) := by decide +kernel
theorem dX8_manyIn_23 : decode cX8_manyIn 23 = .ok (.goto 4, 3) := by decide +kernel
theorem dX8_manyIn_26 : decode cX8_manyIn 26 = .ok (.iconst 0, 1) := by decide +kernel
theorem dX8_manyIn_27 : decode cX8_manyIn 27 = .ok (.iadd, 1) := by decide +kernel
theorem dX8_manyIn_28 : decode cX8_manyIn 28 = .ok (.istore_n 1, 1) := by decide +kernel
theorem dX8_manyIn_29 : decode cX8_manyIn 29 = .ok (.iinc 2 1, 3) := by decide +kernel
theorem dX8_manyIn_32 : decode cX8_manyIn 32 = .ok (.goto (-28), 3) := by decide +kernel
theorem dX8_manyIn_35 : decode cX8_manyIn 35 = .ok (.iload_n 1, 1) := by decide +kernel
theorem dX8_manyIn_36 : decode cX8_manyIn 36 = .ok (.ireturn, 1) := by decide +kernel
theorem dX8_counted_0 : decode cX8_counted 0 = .ok (.iload_n 1, 1) := by decide +kernel
theorem dX8_counted_1 : decode cX8_counted 1 = .ok (.tableswitch 67 4 8 #[35, 40, 47, 54, 62], 35) := by decide +kernel
theorem dX8_counted_36 : decode cX8_counted 36 = .ok (.aload_n 0, 1) := by decide +kernel
theorem dX8_counted_37 : decode cX8_counted 37 = .ok (.invokevirtual 289, 3) := by decide +kernel
theorem dX8_counted_40 : decode cX8_counted 40 = .ok (.ireturn, 1) := by decide +kernel
theorem dX8_counted_41 : decode cX8_counted 41 = .ok (.aload_n 0, 1) := by decide +kernel
theorem dX8_counted_42 : decode cX8_counted 42 = .ok (.getfield 7, 3) := by decide +kernel
theorem dX8_counted_45 : decode cX8_counted 45 = .ok (.iconst 4, 1) := by decide +kernel
theorem dX8_counted_46 : decode cX8_counted 46 = .ok (.iaload, 1) := by decide +kernel
theorem dX8_counted_47 : decode cX8_counted 47 = .ok (.ireturn, 1) := by decide +kernel
theorem dX8_counted_48 : decode cX8_counted 48 = .ok (.aload_n 0, 1) := by decide +kernel
theorem dX8_counted_49 : decode cX8_counted 49 = .ok (.getfield 7, 3) := by decide +kernel
theorem dX8_counted_52 : decode cX8_counted 52 = .ok (.iconst 5, 1) := by decide +kernel
theorem dX8_counted_53 : decode cX8_counted 53 = .ok (.iaload, 1) := by decide +kernel
theorem dX8_counted_54 : decode cX8_counted 54 = .ok (.ireturn, 1) := by decide +kernel
theorem dX8_counted_55 : decode cX8_counted 55 = .ok (.aload_n 0, 1) := by decide +kernel
theorem dX8_counted_56 : decode cX8_counted 56 = .ok (.getfield 7, 3) := by decide +kernel
theorem dX8_counted_59 : decode cX8_counted 59 = .ok (.bipush 6, 2) := by decide +kernel
theorem dX8_counted_61 : decode cX8_counted 61 = .ok (.iaload, 1) := by decide +kernel
theorem dX8_counted_62 : decode cX8_counted 62 = .ok (.ireturn, 1) := by decide +kernel
theorem dX8_counted_63 : decode cX8_counted 63 = .ok (.aload_n 0, 1) := by decide +kernel
theorem dX8_counted_64 : decode cX8_counted 64 = .ok (.getfield 225, 3) := by decide +kernel
theorem dX8_counted_67 : decode cX8_counted 67 = .ok (.ireturn, 1) := by decide +kernel
theorem dX8_counted_68 : decode cX8_counted 68 = .ok (.aload_n 0, 1) := by decide +kernel
theorem dX8_counted_69 : decode cX8_counted 69 = .ok (.getfield 7, 3) := by decide +kernel
theorem dX8_counted_72 : decode cX8_counted 72 = .ok (.iload_n 1, 1) := by decide +kernel
theorem dX8_counted_73 : decode cX8_counted 73 = .ok (.iaload, 1) := by decide +kernel
theorem dX8_counted_74 : decode cX8_counted 74 = .ok (.ireturn, 1) := by decide +kernel
theorem dX8_count_0 : decode cX8_count 0 = .ok (.iload_n 1, 1) := by decide +kernel
theorem dX8_count_1 : decode cX8_count 1 = .ok (.i2l, 1) := by decide +kernel
theorem dX8_count_2 : decode cX8_count 2 = .ok (.lconst 0, 1) := by decide +kernel
theorem dX8_count_3 : decode cX8_count 3 = .ok (.ldc2_w 221, 3) := by decide +kernel
theorem dX8_count_6 : decode cX8_count 6 = .ok (.invokestatic 78, 3) := by decide +kernel
theorem dX8_count_9 : decode cX8_count 9 = .ok (.ifCond .eq 11, 3) := by decide +kernel
theorem dX8_count_12 : decode cX8_count 12 = .ok (.aload_n 0, 1) := by decide +kernel
theorem dX8_count_13 : decode cX8_count 13 = .ok (.iload_n 1, 1) := by decide +kernel
theorem dX8_count_14 : decode cX8_count 14 = .ok (.invokevirtual 292, 3) := by decide +kernel
theorem dX8_count_17 : decode cX8_count 17 = .ok (.goto 9, 3) := by decide +kernel
theorem dX8_count_20 : decode cX8_count 20 = .ok (.aload_n 0, 1) := by decide +kernel
theorem dX8_count_21 : decode cX8_count 21 = .ok (.bipush (-2), 2) := by decide +kernel
theorem dX8_count_23 : decode cX8_count 23 = .ok (.invokevirtual 86, 3) := by decide +kernel
theorem dX8_count_26 : decode cX8_count 26 = .ok (.ireturn, 1) := by decide +kernel
theorem dX8_sums_0 : decode cX8_sums 0 = .ok (.lload_n 1, 1) := by decide +kernel
theorem dX8_sums_1 : decode cX8_sums 1 = .ok (.lstore 5, 2) := by decide +kernel
theorem dX8_sums_3 : decode cX8_sums 3 = .ok (.iconst 0, 1) := by decide +kernel
theorem dX8_sums_4 : decode cX8_sums 4 = .ok (.istore 7, 2) := by decide +kernel
theorem dX8_sums_6 : decode cX8_sums 6 = .ok (.iload 7, 2) := by decide +kernel
theorem dX8_sums_8 : decode cX8_sums 8 = .ok (.iload 4, 2) := by decide +kernel
theorem dX8_sums_10 : decode cX8_sums 10 = .ok (.if_icmp .ge 28, 3) := by decide +kernel
theorem dX8_sums_13 : decode cX8_sums 13 = .ok (.ldc2_w 295, 3) := by decide +kernel
theorem dX8_sums_16 : decode cX8_sums 16 = .ok (.lload 5, 2) := by decide +kernel
theorem dX8_sums_18 : decode cX8_sums 18 = .ok (.lmul, 1) := by decide +kernel
theorem dX8_sums_19 : decode cX8_sums 19 = .ok (.aload_n 0, 1) := by decide +kernel
theorem dX8_sums_20 : decode cX8_sums 20 = .ok (.getfield 7, 3) := by decide +kernel
theorem dX8_sums_23 : decode cX8_sums 23 = .ok (.iload_n 3, 1) := by decide +kernel
theorem dX8_sums_24 : decode cX8_sums 24 = .ok (.iload 7, 2) := by decide +kernel
theorem dX8_sums_26 : decode cX8_sums 26 = .ok (.iadd, 1) := by decide +kernel
theorem dX8_sums_27 : decode cX8_sums 27 = .ok (.iaload, 1) := by decide +kernel
theorem dX8_sums_28 : decode cX8_sums 28 = .ok (.i2l, 1) := by decide +kernel
theorem dX8_sums_29 : decode cX8_sums 29 = .ok (.ladd, 1) := by decide +kernel
theorem dX8_sums_30 : decode cX8_sums 30 = .ok (.lstore 5, 2) := by decide +kernel
theorem dX8_sums_32 : decode cX8_sums 32 = .ok (.iinc 7 1, 3) := by decide +kernel
theorem dX8_sums_35 : decode cX8_sums 35 = .ok (.goto (-29), 3) := by decide +kernel
theorem dX8_sums_38 : decode cX8_sums 38 = .ok (.lload 5, 2) := by decide +kernel
theorem dX8_sums_40 : decode cX8_sums 40 = .ok (.lreturn, 1) := by decide +kernel
theorem dX8_digest_0 : decode cX8_digest 0 = .ok (.ldc2_w 297, 3) := by decide +kernel
theorem dX8_digest_3 : decode cX8_digest 3 = .ok (.lstore_n 1, 1) := by decide +kernel
theorem dX8_digest_4 : decode cX8_digest 4 = .ok (.iconst 0, 1) := by decide +kernel
theorem dX8_digest_5 : decode cX8_digest 5 = .ok (.istore_n 3, 1) := by decide +kernel
theorem dX8_digest_6 : decode cX8_digest 6 = .ok (.iload_n 3, 1) := by decide +kernel
theorem dX8_digest_7 : decode cX8_digest 7 = .ok (.bipush 9, 2) := by decide +kernel
theorem dX8_digest_9 : decode cX8_digest 9 = .ok (.if_icmp .ge 22, 3) := by decide +kernel
theorem dX8_digest_12 : decode cX8_digest 12 = .ok (.ldc2_w 295, 3) := by decide +kernel
theorem dX8_digest_15 : decode cX8_digest 15 = .ok (.lload_n 1, 1) := by decide +kernel
theorem dX8_digest_16 : decode cX8_digest 16 = .ok (.lmul, 1) := by decide +kernel
theorem dX8_digest_17 : decode cX8_digest 17 = .ok (.aload_n 0, 1) := by decide +kernel
theorem dX8_digest_18 : decode cX8_digest 18 = .ok (.iload_n 3, 1) := by decide +kernel
theorem dX8_digest_19 : decode cX8_digest 19 = .ok (.invokevirtual 292, 3) := by decide +kernel
theorem dX8_digest_22 : decode cX8_digest 22 = .ok (.i2l, 1) := by decide +kernel
theorem dX8_digest_23 : decode cX8_digest 23 = .ok (.ladd, 1) := by decide +kernel
theorem dX8_digest_24 : decode cX8_digest 24 = .ok (.lstore_n 1, 1) := by decide +kernel
theorem dX8_digest_25 : decode cX8_digest 25 = .ok (.iinc 3 1, 3) := by decide +kernel
theorem dX8_digest_28 : decode cX8_digest 28 = .ok (.goto (-22), 3) := by decide +kernel
theorem dX8_digest_31 : decode cX8_digest 31 = .ok (.aload_n 0, 1) := by decide +kernel
theorem dX8_digest_32 : decode cX8_digest 32 = .ok (.lload_n 1, 1) := by decide +kernel
theorem dX8_digest_33 : decode cX8_digest 33 = .ok (.bipush 7, 2) := by decide +kernel
theorem dX8_digest_35 : decode cX8_digest 35 = .ok (.bipush 8, 2) := by decide +kernel
theorem dX8_digest_37 : decode cX8_digest 37 = .ok (.invokevirtual 299, 3) := by decide +kernel
theorem dX8_digest_40 : decode cX8_digest 40 = .ok (.lstore_n 1, 1) := by decide +kernel
theorem dX8_digest_41 : decode cX8_digest 41 = .ok (.iconst 0, 1) := by decide +kernel
theorem dX8_digest_42 : decode cX8_digest 42 = .ok (.istore_n 3, 1) := by decide +kernel
theorem dX8_digest_43 : decode cX8_digest 43 = .ok (.iload_n 3, 1) := by decide +kernel
theorem dX8_digest_44 : decode cX8_digest 44 = .ok (.bipush 8, 2) := by decide +kernel
theorem dX8_digest_46 : decode cX8_digest 46 = .ok (.if_icmp .ge 42, 3) := by decide +kernel
theorem dX8_digest_49 : decode cX8_digest 49 = .ok (.iload_n 3, 1) := by decide +kernel
theorem dX8_digest_50 : decode cX8_digest 50 = .ok (.iconst 1, 1) := by decide +kernel
theorem dX8_digest_51 : decode cX8_digest 51 = .ok (.iadd, 1) := by decide +kernel
theorem dX8_digest_52 : decode cX8_digest 52 = .ok (.istore 4, 2) := by decide +kernel
theorem dX8_digest_54 : decode cX8_digest 54 = .ok (.iload 4, 2) := by decide +kernel
theorem dX8_digest_56 : decode cX8_digest 56 = .ok (.bipush 8, 2) := by decide +kernel
theorem dX8_digest_58 : decode cX8_digest 58 = .ok (.if_icmp .ge 24, 3) := by decide +kernel
theorem dX8_digest_61 : decode cX8_digest 61 = .ok (.ldc2_w 295, 3) := by decide +kernel
theorem dX8_digest_64 : decode cX8_digest 64 = .ok (.lload_n 1, 1) := by decide +kernel
theorem dX8_digest_65 : decode cX8_digest 65 = .ok (.lmul, 1) := by decide +kernel
theorem dX8_digest_66 : decode cX8_digest 66 = .ok (.aload_n 0, 1) := by decide +kernel
theorem dX8_digest_67 : decode cX8_digest 67 = .ok (.iload_n 3, 1) := by decide +kernel
theorem dX8_digest_68 : decode cX8_digest 68 = .ok (.iload 4, 2) := by decide +kernel
theorem dX8_digest_70 : decode cX8_digest 70 = .ok (.invokevirtual 96, 3) := by decide +kernel
theorem dX8_digest_73 : decode cX8_digest 73 = .ok (.i2l, 1) := by decide +kernel
theorem dX8_digest_74 : decode cX8_digest 74 = .ok (.ladd, 1) := by decide +kernel
theorem dX8_digest_75 : decode cX8_digest 75 = .ok (.lstore_n 1, 1) := by decide +kernel
theorem dX8_digest_76 : decode cX8_digest 76 = .ok (.iinc 4 1, 3) := by decide +kernel
theorem dX8_digest_79 : decode cX8_digest 79 = .ok (.goto (-25), 3) := by decide +kernel
theorem dX8_digest_82 : decode cX8_digest 82 = .ok (.iinc 3 1, 3) := by decide +kernel
theorem dX8_digest_85 : decode cX8_digest 85 = .ok (.goto (-42), 3) := by decide +kernel
theorem dX8_digest_88 : decode cX8_digest 88 = .ok (.aload_n 0, 1) := by decide +kernel
theorem dX8_digest_89 : decode cX8_digest 89 = .ok (.lload_n 1, 1) := by decide +kernel
theorem dX8_digest_90 : decode cX8_digest 90 = .ok (.bipush 79, 2) := by decide +kernel
theorem dX8_digest_92 : decode cX8_digest 92 = .ok (.aload_n 0, 1) := by decide +kernel
theorem dX8_digest_93 : decode cX8_digest 93 = .ok (.getfield 7, 3) := by decide +kernel
theorem dX8_digest_96 : decode cX8_digest 96 = .ok (.iconst 4, 1) := by decide +kernel
theorem dX8_digest_97 : decode cX8_digest 97 = .ok (.iaload, 1) := by decide +kernel
theorem dX8_digest_98 : decode cX8_digest 98 = .ok (.invokevirtual 299, 3) := by decide +kernel
theorem dX8_digest_101 : decode cX8_digest 101 = .ok (.lstore_n 1, 1) := by decide +kernel
theorem dX8_digest_102 : decode cX8_digest 102 = .ok (.aload_n 0, 1) := by decide +kernel
theorem dX8_digest_103 : decode cX8_digest 103 = .ok (.lload_n 1, 1) := by decide +kernel
theorem dX8_digest_104 : decode cX8_digest 104 = .ok (.bipush 91, 2) := by decide +kernel
theorem dX8_digest_106 : decode cX8_digest 106 = .ok (.bipush 7, 2) := by decide +kernel
theorem dX8_digest_108 : decode cX8_digest 108 = .ok (.aload_n 0, 1) := by decide +kernel
theorem dX8_digest_109 : decode cX8_digest 109 = .ok (.invokevirtual 74, 3) := by decide +kernel
theorem dX8_digest_112 : decode cX8_digest 112 = .ok (.imul, 1) := by decide +kernel
theorem dX8_digest_113 : decode cX8_digest 113 = .ok (.invokevirtual 299, 3) := by decide +kernel
theorem dX8_digest_116 : decode cX8_digest 116 = .ok (.lstore_n 1, 1) := by decide +kernel
theorem dX8_digest_117 : decode cX8_digest 117 = .ok (.aload_n 0, 1) := by decide +kernel
theorem dX8_digest_118 : decode cX8_digest 118 = .ok (.lload_n 1, 1) := by decide +kernel
theorem dX8_digest_119 : decode cX8_digest 119 = .ok (.sipush 133, 3) := by decide +kernel
theorem dX8_digest_122 : decode cX8_digest 122 = .ok (.iconst 3, 1) := by decide +kernel
theorem dX8_digest_123 : decode cX8_digest 123 = .ok (.aload_n 0, 1) := by decide +kernel
theorem dX8_digest_124 : decode cX8_digest 124 = .ok (.getfield 7, 3) := by decide +kernel
theorem dX8_digest_127 : decode cX8_digest 127 = .ok (.iconst 5, 1) := by decide +kernel
theorem dX8_digest_128 : decode cX8_digest 128 = .ok (.iaload, 1) := by decide +kernel
theorem dX8_digest_129 : decode cX8_digest 129 = .ok (.imul, 1) := by decide +kernel
theorem dX8_digest_130 : decode cX8_digest 130 = .ok (.invokevirtual 299, 3) := by decide +kernel
theorem dX8_digest_133 : decode cX8_digest 133 = .ok (.lstore_n 1, 1) := by decide +kernel
theorem dX8_digest_134 : decode cX8_digest 134 = .ok (.ldc2_w 295, 3) := by decide +kernel
theorem dX8_digest_137 : decode cX8_digest 137 = .ok (.ldc2_w 295, 3) := by decide +kernel
theorem dX8_digest_140 : decode cX8_digest 140 = .ok (.lload_n 1, 1) := by decide +kernel
theorem dX8_digest_141 : decode cX8_digest 141 = .ok (.lmul, 1) := by decide +kernel
theorem dX8_digest_142 : decode cX8_digest 142 = .ok (.aload_n 0, 1) := by decide +kernel
theorem dX8_digest_143 : decode cX8_digest 143 = .ok (.getfield 183, 3) := by decide +kernel
theorem dX8_digest_146 : decode cX8_digest 146 = .ok (.ladd, 1) := by decide +kernel
theorem dX8_digest_147 : decode cX8_digest 147 = .ok (.lmul, 1) := by decide +kernel
theorem dX8_digest_148 : decode cX8_digest 148 = .ok (.aload_n 0, 1) := by decide +kernel
theorem dX8_digest_149 : decode cX8_digest 149 = .ok (.getfield 23, 3) := by decide +kernel
theorem dX8_digest_152 : decode cX8_digest 152 = .ok (.ladd, 1) := by decide +kernel
theorem dX8_digest_153 : decode cX8_digest 153 = .ok (.lreturn, 1) := by decide +kernel
theorem dJ6_compare_7cf53_0 : decode cJ6_compare_7cf53 0 = .ok (.iload_n 0, 1) := by decide +kernel
theorem dJ6_compare_7cf53_1 : decode cJ6_compare_7cf53 1 = .ok (.iload_n 1, 1) := by decide +kernel
theorem dJ6_compare_7cf53_2 : decode cJ6_compare_7cf53 2 = .ok (.if_icmp .ge 7, 3) := by decide +kernel
theorem dJ6_compare_7cf53_5 : decode cJ6_compare_7cf53 5 = .ok (.iconst (-1), 1) := by decide +kernel
theorem dJ6_compare_7cf53_6 : decode cJ6_compare_7cf53 6 = .ok (.goto 13, 3) := by decide +kernel
theorem dJ6_compare_7cf53_9 : decode cJ6_compare_7cf53 9 = .ok (.iload_n 0, 1) := by decide +kernel
theorem dJ6_compare_7cf53_10 : decode cJ6_compare_7cf53 10 = .ok (.iload_n 1, 1) := by decide +kernel
theorem dJ6_compare_7cf53_11 : decode cJ6_compare_7cf53 11 = .ok (.if_icmp .ne 7, 3) := by decide +kernel
theorem dJ6_compare_7cf53_14 : decode cJ6_compare_7cf53 14 = .ok (.iconst 0, 1) := by decide +kernel
theorem dJ6_compare_7cf53_15 : decode cJ6_compare_7cf53 15 = .ok (.goto 4, 3) := by decide +kernel
theorem dJ6_compare_7cf53_18 : decode cJ6_compare_7cf53 18 = .ok (.iconst 1, 1) := by decide +kernel
theorem dJ6_compare_7cf53_19 : decode cJ6_compare_7cf53 19 = .ok (.ireturn, 1) := by decide +kernel
theorem dJ9_max_7cf53_0 : decode cJ9_max_7cf53 0 = .ok (.iload_n 0, 1) := by decide +kernel
theorem dJ9_max_7cf53_1 : decode cJ9_max_7cf53 1 = .ok (.iload_n 1, 1) := by decide +kernel
theorem dJ9_max_7cf53_2 : decode cJ9_max_7cf53 2 = .ok (.if_icmp .lt 7, 3) := by decide +kernel
theorem dJ9_max_7cf53_5 : decode cJ9_max_7cf53 5 = .ok (.iload_n 0, 1) := by decide +kernel
theorem dJ9_max_7cf53_6 : decode cJ9_max_7cf53 6 = .ok (.goto 4, 3) := by decide +kernel
theorem dJ9_max_7cf53_9 : decode cJ9_max_7cf53 9 = .ok (.iload_n 1, 1) := by decide +kernel
theorem dJ9_max_7cf53_10 : decode cJ9_max_7cf53 10 = .ok (.ireturn, 1) := by decide +kernel
theorem dJ9_max_f86c9_0 : decode cJ9_max_f86c9 0 = .ok (.lload_n 0, 1) := by decide +kernel
theorem dJ9_max_f86c9_1 : decode cJ9_max_f86c9 1 = .ok (.lload_n 2, 1) := by decide +kernel
theorem dJ9_max_f86c9_2 : decode cJ9_max_f86c9 2 = .ok (.lcmp, 1) := by decide +kernel
theorem dJ9_max_f86c9_3 : decode cJ9_max_f86c9 3 = .ok (.ifCond .lt 7, 3) := by decide +kernel
theorem dJ9_max_f86c9_6 : decode cJ9_max_f86c9 6 = .ok (.lload_n 0, 1) := by decide +kernel
theorem dJ9_max_f86c9_7 : decode cJ9_max_f86c9 7 = .ok (.goto 4, 3) := by decide +kernel
theorem dJ9_max_f86c9_10 : decode cJ9_max_f86c9 10 = .ok (.lload_n 2, 1) := by decide +kernel
theorem dJ9_max_f86c9_11 : decode cJ9_max_f86c9 11 = .ok (.lreturn, 1) := by decide +kernel
theorem dJ9_min_7cf53_0 : decode cJ9_min_7cf53 0 = .ok (.iload_n 0, 1) := by decide +kernel
theorem dJ9_min_7cf53_1 : decode cJ9_min_7cf53 1 = .ok (.iload_n 1, 1) := by decide +kernel
theorem dJ9_min_7cf53_2 : decode cJ9_min_7cf53 2 = .ok (.if_icmp .gt 7, 3) := by decide +kernel
theorem dJ9_min_7cf53_5 : decode cJ9_min_7cf53 5 = .ok (.iload_n 0, 1) := by decide +kernel
theorem dJ9_min_7cf53_6 : decode cJ9_min_7cf53 6 = .ok (.goto 4, 3) := by decide +kernel
theorem dJ9_min_7cf53_9 : decode cJ9_min_7cf53 9 = .ok (.iload_n 1, 1) := by decide +kernel
theorem dJ9_min_7cf53_10 : decode cJ9_min_7cf53 10 = .ok (.ireturn, 1) := by decide +kernel
theorem dJ0_length_8abf5_0 : decode cJ0_length_8abf5 0 = .ok (.aload_n 0, 1) := by decide +kernel
theorem dJ0_length_8abf5_1 : decode cJ0_length_8abf5 1 = .ok (.getfield 9, 3) := by decide +kernel
theorem dJ0_length_8abf5_4 : decode cJ0_length_8abf5 4 = .ok (.arraylength, 1) := by decide +kernel
theorem dJ0_length_8abf5_5 : decode cJ0_length_8abf5 5 = .ok (.aload_n 0, 1) := by decide +kernel
theorem dJ0_length_8abf5_6 : decode cJ0_length_8abf5 6 = .ok (.invokevirtual 335, 3) := by decide +kernel
theorem dJ0_length_8abf5_9 : decode cJ0_length_8abf5 9 = .ok (.ishr, 1) := by decide +kernel
theorem dJ0_length_8abf5_10 : decode cJ0_length_8abf5 10 = .ok (.ireturn, 1) := by decide +kernel
theorem dJ0_charAt_5068e_0 : decode cJ0_charAt_5068e 0 = .ok (.aload_n 0, 1) := by decide +kernel
theorem dJ0_charAt_5068e_1 : decode cJ0_charAt_5068e 1 = .ok (.invokevirtual 492, 3) := by decide +kernel
theorem dJ0_charAt_5068e_4 : decode cJ0_charAt_5068e 4 = .ok (.ifCond .eq 12, 3) := by decide +kernel
theorem dJ0_charAt_5068e_7 : decode cJ0_charAt_5068e 7 = .ok (.aload_n 0, 1) := by decide +kernel
theorem dJ0_charAt_5068e_8 : decode cJ0_charAt_5068e 8 = .ok (.getfield 9, 3) := by decide +kernel
theorem dJ0_charAt_5068e_11 : decode cJ0_charAt_5068e 11 = .ok (.iload_n 1, 1) := by decide +kernel
theorem dJ0_charAt_5068e_12 : decode cJ0_charAt_5068e 12 = .ok (.invokestatic 495, 3) := by decide +kernel
theorem dJ0_charAt_5068e_15 : decode cJ0_charAt_5068e 15 = .ok (.ireturn, 1) := by decide +kernel
theorem dJ0_charAt_5068e_16 : decode cJ0_charAt_5068e 16 = .ok (.aload_n 0, 1) := by decide +kernel
theorem dJ0_charAt_5068e_17 : decode cJ0_charAt_5068e 17 = .ok (.getfield 9, 3) := by decide +kernel
theorem dJ0_charAt_5068e_20 : decode cJ0_charAt_5068e 20 = .ok (.iload_n 1, 1) := by decide +kernel
theorem dJ0_charAt_5068e_21 : decode cJ0_charAt_5068e 21 = .ok (.invokestatic 498, 3) := by decide +kernel
theorem dJ0_charAt_5068e_24 : decode cJ0_charAt_5068e 24 = .ok (.ireturn, 1) := by decide +kernel
theorem dJ0_coder_7d493_0 : decode cJ0_coder_7d493 0 = .ok (.getstatic 38, 3) := by decide +kernel
theorem dJ0_coder_7d493_3 : decode cJ0_coder_7d493 3 = .ok (.ifCond .eq 10, 3) := by decide +kernel
theorem dJ0_coder_7d493_6 : decode cJ0_coder_7d493 6 = .ok (.aload_n 0, 1) := by decide +kernel
theorem dJ0_coder_7d493_7 : decode cJ0_coder_7d493 7 = .ok (.getfield 15, 3) := by decide +kernel
theorem dJ0_coder_7d493_10 : decode cJ0_coder_7d493 10 = .ok (.goto 4, 3) := by decide +kernel
theorem dJ0_coder_7d493_13 : decode cJ0_coder_7d493 13 = .ok (.iconst 1, 1) := by decide +kernel
theorem dJ0_coder_7d493_14 : decode cJ0_coder_7d493 14 = .ok (.ireturn, 1) := by decide +kernel
theorem dJ0_isLatin1_aae02_0 : decode cJ0_isLatin1_aae02 0 = .ok (.getstatic 38, 3) := by decide +kernel
theorem dJ0_isLatin1_aae02_3 : decode cJ0_isLatin1_aae02 3 = .ok (.ifCond .eq 14, 3) := by decide +kernel
theorem dJ0_isLatin1_aae02_6 : decode cJ0_isLatin1_aae02 6 = .ok (.aload_n 0, 1) := by decide +kernel
theorem dJ0_isLatin1_aae02_7 : decode cJ0_isLatin1_aae02 7 = .ok (.getfield 15, 3) := by decide +kernel
theorem dJ0_isLatin1_aae02_10 : decode cJ0_isLatin1_aae02 10 = .ok (.ifCond .ne 7, 3) := by decide +kernel
theorem dJ0_isLatin1_aae02_13 : decode cJ0_isLatin1_aae02 13 = .ok (.iconst 1, 1) := by decide +kernel
theorem dJ0_isLatin1_aae02_14 : decode cJ0_isLatin1_aae02 14 = .ok (.goto 4, 3) := by decide +kernel
theorem dJ0_isLatin1_aae02_17 : decode cJ0_isLatin1_aae02 17 = .ok (.iconst 0, 1) := by decide +kernel
theorem dJ0_isLatin1_aae02_18 : decode cJ0_isLatin1_aae02 18 = .ok (.ireturn, 1) := by decide +kernel
theorem dJ0_checkIndex_df160_0 : decode cJ0_checkIndex_df160 0 = .ok (.iload_n 0, 1) := by decide +kernel
theorem dJ0_checkIndex_df160_1 : decode cJ0_checkIndex_df160 1 = .ok (.iload_n 1, 1) := by decide +kernel
theorem dJ0_checkIndex_df160_2 : decode cJ0_checkIndex_df160 2 = .ok (.getstatic 1053, 3) := by decide +kernel
theorem dJ0_checkIndex_df160_5 : decode cJ0_checkIndex_df160 5 = .ok (.invokestatic 1059, 3) := by decide +kernel
theorem dJ0_checkIndex_df160_8 : decode cJ0_checkIndex_df160 8 = .ok (.pop, 1) := by decide +kernel
theorem dJ0_checkIndex_df160_9 : decode cJ0_checkIndex_df160 9 = .ok (.return_, 1) := by decide +kernel
theorem dJ1_charAt_3b067_0 : decode cJ1_charAt_3b067 0 = .ok (.iload_n 1, 1) := by decide +kernel
theorem dJ1_charAt_3b067_1 : decode cJ1_charAt_3b067 1 = .ok (.aload_n 0, 1) := by decide +kernel
theorem dJ1_charAt_3b067_2 : decode cJ1_charAt_3b067 2 = .ok (.arraylength, 1) := by decide +kernel
theorem dJ1_charAt_3b067_3 : decode cJ1_charAt_3b067 3 = .ok (.invokestatic 9, 3) := by decide +kernel
theorem dJ1_charAt_3b067_6 : decode cJ1_charAt_3b067 6 = .ok (.aload_n 0, 1) := by decide +kernel
theorem dJ1_charAt_3b067_7 : decode cJ1_charAt_3b067 7 = .ok (.iload_n 1, 1) := by decide +kernel
theorem dJ1_charAt_3b067_8 : decode cJ1_charAt_3b067 8 = .ok (.baload, 1) := by decide +kernel
theorem dJ1_charAt_3b067_9 : decode cJ1_charAt_3b067 9 = .ok (.sipush 255, 3) := by decide +kernel
theorem dJ1_charAt_3b067_12 : decode cJ1_charAt_3b067 12 = .ok (.iand, 1) := by decide +kernel
theorem dJ1_charAt_3b067_13 : decode cJ1_charAt_3b067 13 = .ok (.i2c, 1) := by decide +kernel
theorem dJ1_charAt_3b067_14 : decode cJ1_charAt_3b067 14 = .ok (.ireturn, 1) := by decide +kernel
theorem dJ2_getChar_3b067_0 : decode cJ2_getChar_3b067 0 = .ok (.getstatic 44, 3) := by decide +kernel
theorem dJ2_getChar_3b067_3 : decode cJ2_getChar_3b067 3 = .ok (.ifCond .ne 25, 3) := by decide +kernel
theorem dJ2_getChar_3b067_6 : decode cJ2_getChar_3b067 6 = .ok (.iload_n 1, 1) := by decide +kernel
theorem dJ2_getChar_3b067_7 : decode cJ2_getChar_3b067 7 = .ok (.ifCond .lt 11, 3) := by decide +kernel
theorem dJ2_getChar_3b067_10 : decode cJ2_getChar_3b067 10 = .ok (.iload_n 1, 1) := by decide +kernel
theorem dJ2_getChar_3b067_11 : decode cJ2_getChar_3b067 11 = .ok (.aload_n 0, 1) := by decide +kernel
theorem dJ2_getChar_3b067_12 : decode cJ2_getChar_3b067 12 = .ok (.invokestatic 48, 3) := by decide +kernel
theorem dJ2_getChar_3b067_15 : decode cJ2_getChar_3b067 15 = .ok (.if_icmp .lt 13, 3) := by decide +kernel
theorem dJ2_getChar_3b067_18 : decode cJ2_getChar_3b067 18 = .ok (.new 52, 3) := by decide +kernel
theorem dJ2_getChar_3b067_21 : decode cJ2_getChar_3b067 21 = .ok (.dup, 1) := by decide +kernel
theorem dJ2_getChar_3b067_22 : decode cJ2_getChar_3b067 22 = .ok (.ldc 54, 2) := by decide +kernel
theorem dJ2_getChar_3b067_24 : decode cJ2_getChar_3b067 24 = .ok (.invokespecial 56, 3) := by decide +kernel
theorem dJ2_getChar_3b067_27 : decode cJ2_getChar_3b067 27 = .ok (.athrow, 1) := by decide +kernel
theorem dJ2_getChar_3b067_28 : decode cJ2_getChar_3b067 28 = .ok (.iload_n 1, 1) := by decide +kernel
theorem dJ2_getChar_3b067_29 : decode cJ2_getChar_3b067 29 = .ok (.iconst 1, 1) := by decide +kernel
theorem dJ2_getChar_3b067_30 : decode cJ2_getChar_3b067 30 = .ok (.ishl, 1) := by decide +kernel
theorem dJ2_getChar_3b067_31 : decode cJ2_getChar_3b067 31 = .ok (.istore_n 1, 1) := by decide +kernel
theorem dJ2_getChar_3b067_32 : decode cJ2_getChar_3b067 32 = .ok (.aload_n 0, 1) := by decide +kernel
theorem dJ2_getChar_3b067_33 : decode cJ2_getChar_3b067 33 = .ok (.iload_n 1, 1) := by decide +kernel
theorem dJ2_getChar_3b067_34 : decode cJ2_getChar_3b067 34 = .ok (.iinc 1 1, 3) := by decide +kernel
theorem dJ2_getChar_3b067_37 : decode cJ2_getChar_3b067 37 = .ok (.baload, 1) := by decide +kernel
theorem dJ2_getChar_3b067_38 : decode cJ2_getChar_3b067 38 = .ok (.sipush 255, 3) := by decide +kernel
theorem dJ2_getChar_3b067_41 : decode cJ2_getChar_3b067 41 = .ok (.iand, 1) := by decide +kernel
theorem dJ2_getChar_3b067_42 : decode cJ2_getChar_3b067 42 = .ok (.getstatic 59, 3) := by decide +kernel
theorem dJ2_getChar_3b067_45 : decode cJ2_getChar_3b067 45 = .ok (.ishl, 1) := by decide +kernel
theorem dJ2_getChar_3b067_46 : decode cJ2_getChar_3b067 46 = .ok (.aload_n 0, 1) := by decide +kernel
theorem dJ2_getChar_3b067_47 : decode cJ2_getChar_3b067 47 = .ok (.iload_n 1, 1) := by decide +kernel
theorem dJ2_getChar_3b067_48 : decode cJ2_getChar_3b067 48 = .ok (.baload, 1) := by decide +kernel
theorem dJ2_getChar_3b067_49 : decode cJ2_getChar_3b067 49 = .ok (.sipush 255, 3) := by decide +kernel
theorem dJ2_getChar_3b067_52 : decode cJ2_getChar_3b067 52 = .ok (.iand, 1) := by decide +kernel
theorem dJ2_getChar_3b067_53 : decode cJ2_getChar_3b067 53 = .ok (.getstatic 63, 3) := by decide +kernel
theorem dJ2_getChar_3b067_56 : decode cJ2_getChar_3b067 56 = .ok (.ishl, 1) := by decide +kernel
theorem dJ2_getChar_3b067_57 : decode cJ2_getChar_3b067 57 = .ok (.ior, 1) := by decide +kernel
theorem dJ2_getChar_3b067_58 : decode cJ2_getChar_3b067 58 = .ok (.i2c, 1) := by decide +kernel
theorem dJ2_getChar_3b067_59 : decode cJ2_getChar_3b067 59 = .ok (.ireturn, 1) := by decide +kernel
theorem dJ2_length_9d52b_0 : decode cJ2_length_9d52b 0 = .ok (.aload_n 0, 1) := by decide +kernel
theorem dJ2_length_9d52b_1 : decode cJ2_length_9d52b 1 = .ok (.arraylength, 1) := by decide +kernel
theorem dJ2_length_9d52b_2 : decode cJ2_length_9d52b 2 = .ok (.iconst 1, 1) := by decide +kernel
theorem dJ2_length_9d52b_3 : decode cJ2_length_9d52b 3 = .ok (.ishr, 1) := by decide +kernel
theorem dJ2_length_9d52b_4 : decode cJ2_length_9d52b 4 = .ok (.ireturn, 1) := by decide +kernel
theorem dJ2_charAt_3b067_0 : decode cJ2_charAt_3b067 0 = .ok (.iload_n 1, 1) := by decide +kernel
theorem dJ2_charAt_3b067_1 : decode cJ2_charAt_3b067 1 = .ok (.aload_n 0, 1) := by decide +kernel
theorem dJ2_charAt_3b067_2 : decode cJ2_charAt_3b067 2 = .ok (.invokestatic 67, 3) := by decide +kernel
theorem dJ2_charAt_3b067_5 : decode cJ2_charAt_3b067 5 = .ok (.aload_n 0, 1) := by decide +kernel
theorem dJ2_charAt_3b067_6 : decode cJ2_charAt_3b067 6 = .ok (.iload_n 1, 1) := by decide +kernel
theorem dJ2_charAt_3b067_7 : decode cJ2_charAt_3b067 7 = .ok (.invokestatic 71, 3) := by decide +kernel
theorem dJ2_charAt_3b067_10 : decode cJ2_charAt_3b067 10 = .ok (.ireturn, 1) := by decide +kernel
theorem dJ2_checkIndex_2214a_0 : decode cJ2_checkIndex_2214a 0 = .ok (.iload_n 0, 1) := by decide +kernel
theorem dJ2_checkIndex_2214a_1 : decode cJ2_checkIndex_2214a 1 = .ok (.aload_n 1, 1) := by decide +kernel
theorem dJ2_checkIndex_2214a_2 : decode cJ2_checkIndex_2214a 2 = .ok (.invokestatic 48, 3) := by decide +kernel
theorem dJ2_checkIndex_2214a_5 : decode cJ2_checkIndex_2214a 5 = .ok (.invokestatic 414, 3) := by decide +kernel
theorem dJ2_checkIndex_2214a_8 : decode cJ2_checkIndex_2214a 8 = .ok (.return_, 1) := by decide +kernel
theorem dJ3_checkIndex_8e157_0 : decode cJ3_checkIndex_8e157 0 = .ok (.iload_n 0, 1) := by decide +kernel
theorem dJ3_checkIndex_8e157_1 : decode cJ3_checkIndex_8e157 1 = .ok (.ifCond .lt 8, 3) := by decide +kernel
theorem dJ3_checkIndex_8e157_4 : decode cJ3_checkIndex_8e157 4 = .ok (.iload_n 0, 1) := by decide +kernel
theorem dJ3_checkIndex_8e157_5 : decode cJ3_checkIndex_8e157 5 = .ok (.iload_n 1, 1) := by decide +kernel
theorem dJ3_checkIndex_8e157_6 : decode cJ3_checkIndex_8e157 6 = .ok (.if_icmp .lt 10, 3) := by decide +kernel
theorem dJ3_checkIndex_8e157_9 : decode cJ3_checkIndex_8e157 9 = .ok (.aload_n 2, 1) := by decide +kernel
theorem dJ3_checkIndex_8e157_10 : decode cJ3_checkIndex_8e157 10 = .ok (.iload_n 0, 1) := by decide +kernel
theorem dJ3_checkIndex_8e157_11 : decode cJ3_checkIndex_8e157 11 = .ok (.iload_n 1, 1) := by decide +kernel
theorem dJ3_checkIndex_8e157_12 : decode cJ3_checkIndex_8e157 12 = .ok (.invokestatic 95, 3) := by decide +kernel
theorem dJ3_checkIndex_8e157_15 : decode cJ3_checkIndex_8e157 15 = .ok (.athrow, 1) := by decide +kernel
theorem dJ3_checkIndex_8e157_16 : decode cJ3_checkIndex_8e157 16 = .ok (.iload_n 0, 1) := by decide +kernel
theorem dJ3_checkIndex_8e157_17 : decode cJ3_checkIndex_8e157 17 = .ok (.ireturn, 1) := by decide +kernel
theorem dL_law_0 : decode cL_law 0 = .ok (.new 7, 3) := by decide +kernel
theorem dL_law_3 : decode cL_law 3 = .ok (.dup, 1) := by decide +kernel
theorem dL_law_4 : decode cL_law 4 = .ok (.invokespecial 9, 3) := by decide +kernel
theorem dL_law_7 : decode cL_law 7 = .ok (.astore_n 1, 1) := by decide +kernel
theorem dL_law_8 : decode cL_law 8 = .ok (.new 10, 3) := by decide +kernel
theorem dL_law_11 : decode cL_law 11 = .ok (.dup, 1) := by decide +kernel
theorem dL_law_12 : decode cL_law 12 = .ok (.invokespecial 12, 3) := by decide +kernel
theorem dL_law_15 : decode cL_law 15 = .ok (.astore_n 2, 1) := by decide +kernel
theorem dL_law_16 : decode cL_law 16 = .ok (.iconst 0, 1) := by decide +kernel
theorem dL_law_17 : decode cL_law 17 = .ok (.istore_n 3, 1) := by decide +kernel
theorem dL_law_18 : decode cL_law 18 = .ok (.iload_n 3, 1) := by decide +kernel
theorem dL_law_19 : decode cL_law 19 = .ok (.aload_n 0, 1) := by decide +kernel
theorem dL_law_20 : decode cL_law 20 = .ok (.arraylength, 1) := by decide +kernel
theorem dL_law_21 : decode cL_law 21 = .ok (.iconst 4, 1) := by decide +kernel
theorem dL_law_22 : decode cL_law 22 = .ok (.isub, 1) := by decide +kernel
theorem dL_law_23 : decode cL_law 23 = .ok (.if_icmp .gt 1022, 3) := by decide +kernel
theorem dL_law_26 : decode cL_law 26 = .ok (.aload_n 0, 1) := by decide +kernel
theorem dL_law_27 : decode cL_law 27 = .ok (.iload_n 3, 1) := by decide +kernel
theorem dL_law_28 : decode cL_law 28 = .ok (.iaload, 1) := by decide +kernel
theorem dL_law_29 : decode cL_law 29 = .ok (.bipush 63, 2) := by decide +kernel
theorem dL_law_31 : decode cL_law 31 = .ok (.iand, 1) := by decide +kernel
theorem dL_law_32 : decode cL_law 32 = .ok (.tableswitch 1007 0 33 #[152, 185, 218, 261, 284, 307, 330, 373, 396, 409, 422, 455, 468, 481, 514, 537, 580, 603, 616, 639, 672, 705, 728, 771, 784, 807, 821, 844, 877, 901, 924, 947, 970, 993], 152) := by decide +kernel
theorem dL_law_184 : decode cL_law 184 = .ok (.aload_n 1, 1) := by decide +kernel
theorem dL_law_185 : decode cL_law 185 = .ok (.aload_n 0, 1) := by decide +kernel
theorem dL_law_186 : decode cL_law 186 = .ok (.iload_n 3, 1) := by decide +kernel
theorem dL_law_187 : decode cL_law 187 = .ok (.iconst 1, 1) := by decide +kernel
theorem dL_law_188 : decode cL_law 188 = .ok (.iadd, 1) := by decide +kernel
theorem dL_law_189 : decode cL_law 189 = .ok (.iaload, 1) := by decide +kernel
theorem dL_law_190 : decode cL_law 190 = .ok (.aload_n 0, 1) := by decide +kernel
theorem dL_law_191 : decode cL_law 191 = .ok (.iload_n 3, 1) := by decide +kernel
theorem dL_law_192 : decode cL_law 192 = .ok (.iconst 2, 1) := by decide +kernel
theorem dL_law_193 : decode cL_law 193 = .ok (.iadd, 1) := by decide +kernel
theorem dL_law_194 : decode cL_law 194 = .ok (.iaload, 1) := by decide +kernel
theorem dL_law_195 : decode cL_law 195 = .ok (.invokevirtual 13, 3) := by decide +kernel
theorem dL_law_198 : decode cL_law 198 = .ok (.aload_n 2, 1) := by decide +kernel
theorem dL_law_199 : decode cL_law 199 = .ok (.aload_n 0, 1) := by decide +kernel
theorem dL_law_200 : decode cL_law 200 = .ok (.iload_n 3, 1) := by decide +kernel
theorem dL_law_201 : decode cL_law 201 = .ok (.iconst 1, 1) := by decide +kernel
theorem dL_law_202 : decode cL_law 202 = .ok (.iadd, 1) := by decide +kernel
theorem dL_law_203 : decode cL_law 203 = .ok (.iaload, 1) := by decide +kernel
theorem dL_law_204 : decode cL_law 204 = .ok (.aload_n 0, 1) := by decide +kernel
theorem dL_law_205 : decode cL_law 205 = .ok (.iload_n 3, 1) := by decide +kernel
theorem dL_law_206 : decode cL_law 206 = .ok (.iconst 2, 1) := by decide +kernel
theorem dL_law_207 : decode cL_law 207 = .ok (.iadd, 1) := by decide +kernel
theorem dL_law_208 : decode cL_law 208 = .ok (.iaload, 1) := by decide +kernel
theorem dL_law_209 : decode cL_law 209 = .ok (.invokevirtual 17, 3) := by decide +kernel
theorem dL_law_212 : decode cL_law 212 = .ok (.if_icmp .eq 827, 3) := by decide +kernel
theorem dL_law_215 : decode cL_law 215 = .ok (.iconst 0, 1) := by decide +kernel
theorem dL_law_216 : decode cL_law 216 = .ok (.ireturn, 1) := by decide +kernel
theorem dL_law_217 : decode cL_law 217 = .ok (.aload_n 1, 1) := by decide +kernel
theorem dL_law_218 : decode cL_law 218 = .ok (.aload_n 0, 1) := by decide +kernel
theorem dL_law_219 : decode cL_law 219 = .ok (.iload_n 3, 1) := by decide +kernel
theorem dL_law_220 : decode cL_law 220 = .ok (.iconst 1, 1) := by decide +kernel
theorem dL_law_221 : decode cL_law 221 = .ok (.iadd, 1) := by decide +kernel
theorem dL_law_222 : decode cL_law 222 = .ok (.iaload, 1) := by decide +kernel
theorem dL_law_223 : decode cL_law 223 = .ok (.aload_n 0, 1) := by decide +kernel
theorem dL_law_224 : decode cL_law 224 = .ok (.iload_n 3, 1) := by decide +kernel
theorem dL_law_225 : decode cL_law 225 = .ok (.iconst 2, 1) := by decide +kernel
theorem dL_law_226 : decode cL_law 226 = .ok (.iadd, 1) := by decide +kernel
theorem dL_law_227 : decode cL_law 227 = .ok (.iaload, 1) := by decide +kernel
theorem dL_law_228 : decode cL_law 228 = .ok (.invokevirtual 18, 3) := by decide +kernel
theorem dL_law_231 : decode cL_law 231 = .ok (.aload_n 2, 1) := by decide +kernel
theorem dL_law_232 : decode cL_law 232 = .ok (.aload_n 0, 1) := by decide +kernel
theorem dL_law_233 : decode cL_law 233 = .ok (.iload_n 3, 1) := by decide +kernel
theorem dL_law_234 : decode cL_law 234 = .ok (.iconst 1, 1) := by decide +kernel
theorem dL_law_235 : decode cL_law 235 = .ok (.iadd, 1) := by decide +kernel
theorem dL_law_236 : decode cL_law 236 = .ok (.iaload, 1) := by decide +kernel
theorem dL_law_237 : decode cL_law 237 = .ok (.aload_n 0, 1) := by decide +kernel
theorem dL_law_238 : decode cL_law 238 = .ok (.iload_n 3, 1) := by decide +kernel
theorem dL_law_239 : decode cL_law 239 = .ok (.iconst 2, 1) := by decide +kernel
theorem dL_law_240 : decode cL_law 240 = .ok (.iadd, 1) := by decide +kernel
theorem dL_law_241 : decode cL_law 241 = .ok (.iaload, 1) := by decide +kernel
theorem dL_law_242 : decode cL_law 242 = .ok (.invokevirtual 21, 3) := by decide +kernel
theorem dL_law_245 : decode cL_law 245 = .ok (.if_icmp .eq 794, 3) := by decide +kernel
theorem dL_law_248 : decode cL_law 248 = .ok (.iconst 0, 1) := by decide +kernel
theorem dL_law_249 : decode cL_law 249 = .ok (.ireturn, 1) := by decide +kernel
theorem dL_law_250 : decode cL_law 250 = .ok (.aload_n 1, 1) := by decide +kernel
theorem dL_law_251 : decode cL_law 251 = .ok (.aload_n 0, 1) := by decide +kernel
theorem dL_law_252 : decode cL_law 252 = .ok (.iload_n 3, 1) := by decide +kernel
theorem dL_law_253 : decode cL_law 253 = .ok (.iconst 1, 1) := by decide +kernel
theorem dL_law_254 : decode cL_law 254 = .ok (.iadd, 1) := by decide +kernel
theorem dL_law_255 : decode cL_law 255 = .ok (.iaload, 1) := by decide +kernel
theorem dL_law_256 : decode cL_law 256 = .ok (.aload_n 0, 1) := by decide +kernel
theorem dL_law_257 : decode cL_law 257 = .ok (.iload_n 3, 1) := by decide +kernel
theorem dL_law_258 : decode cL_law 258 = .ok (.iconst 2, 1) := by decide +kernel
theorem dL_law_259 : decode cL_law 259 = .ok (.iadd, 1) := by decide +kernel
theorem dL_law_260 : decode cL_law 260 = .ok (.iaload, 1) := by decide +kernel
theorem dL_law_261 : decode cL_law 261 = .ok (.aload_n 0, 1) := by decide +kernel
theorem dL_law_262 : decode cL_law 262 = .ok (.iload_n 3, 1) := by decide +kernel
theorem dL_law_263 : decode cL_law 263 = .ok (.iconst 3, 1) := by decide +kernel
theorem dL_law_264 : decode cL_law 264 = .ok (.iadd, 1) := by decide +kernel
theorem dL_law_265 : decode cL_law 265 = .ok (.iaload, 1) := by decide +kernel
theorem dL_law_266 : decode cL_law 266 = .ok (.invokevirtual 22, 3) := by decide +kernel
theorem dL_law_269 : decode cL_law 269 = .ok (.aload_n 2, 1) := by decide +kernel
theorem dL_law_270 : decode cL_law 270 = .ok (.aload_n 0, 1) := by decide +kernel
theorem dL_law_271 : decode cL_law 271 = .ok (.iload_n 3, 1) := by decide +kernel
theorem dL_law_272 : decode cL_law 272 = .ok (.iconst 1, 1) := by decide +kernel
theorem dL_law_273 : decode cL_law 273 = .ok (.iadd, 1) := by decide +kernel
theorem dL_law_274 : decode cL_law 274 = .ok (.iaload, 1) := by decide +kernel
theorem dL_law_275 : decode cL_law 275 = .ok (.aload_n 0, 1) := by decide +kernel
theorem dL_law_276 : decode cL_law 276 = .ok (.iload_n 3, 1) := by decide +kernel
theorem dL_law_277 : decode cL_law 277 = .ok (.iconst 2, 1) := by decide +kernel
theorem dL_law_278 : decode cL_law 278 = .ok (.iadd, 1) := by decide +kernel
theorem dL_law_279 : decode cL_law 279 = .ok (.iaload, 1) := by decide +kernel
theorem dL_law_280 : decode cL_law 280 = .ok (.aload_n 0, 1) := by decide +kernel
theorem dL_law_281 : decode cL_law 281 = .ok (.iload_n 3, 1) := by decide +kernel
theorem dL_law_282 : decode cL_law 282 = .ok (.iconst 3, 1) := by decide +kernel
theorem dL_law_283 : decode cL_law 283 = .ok (.iadd, 1) := by decide +kernel
theorem dL_law_284 : decode cL_law 284 = .ok (.iaload, 1) := by decide +kernel
theorem dL_law_285 : decode cL_law 285 = .ok (.invokevirtual 26, 3) := by decide +kernel
theorem dL_law_288 : decode cL_law 288 = .ok (.if_icmp .eq 751, 3) := by decide +kernel
theorem dL_law_291 : decode cL_law 291 = .ok (.iconst 0, 1) := by decide +kernel
theorem dL_law_292 : decode cL_law 292 = .ok (.ireturn, 1) := by decide +kernel
theorem dL_law_293 : decode cL_law 293 = .ok (.aload_n 1, 1) := by decide +kernel
theorem dL_law_294 : decode cL_law 294 = .ok (.aload_n 0, 1) := by decide +kernel
theorem dL_law_295 : decode cL_law 295 = .ok (.iload_n 3, 1) := by decide +kernel
theorem dL_law_296 : decode cL_law 296 = .ok (.iconst 1, 1) := by decide +kernel
theorem dL_law_297 : decode cL_law 297 = .ok (.iadd, 1) := by decide +kernel
theorem dL_law_298 : decode cL_law 298 = .ok (.iaload, 1) := by decide +kernel
theorem dL_law_299 : decode cL_law 299 = .ok (.invokevirtual 27, 3) := by decide +kernel
theorem dL_law_302 : decode cL_law 302 = .ok (.aload_n 2, 1) := by decide +kernel
theorem dL_law_303 : decode cL_law 303 = .ok (.aload_n 0, 1) := by decide +kernel
theorem dL_law_304 : decode cL_law 304 = .ok (.iload_n 3, 1) := by decide +kernel
theorem dL_law_305 : decode cL_law 305 = .ok (.iconst 1, 1) := by decide +kernel
theorem dL_law_306 : decode cL_law 306 = .ok (.iadd, 1) := by decide +kernel
theorem dL_law_307 : decode cL_law 307 = .ok (.iaload, 1) := by decide +kernel
theorem dL_law_308 : decode cL_law 308 = .ok (.invokevirtual 31, 3) := by decide +kernel
theorem dL_law_311 : decode cL_law 311 = .ok (.if_icmp .eq 728, 3) := by decide +kernel
theorem dL_law_314 : decode cL_law 314 = .ok (.iconst 0, 1) := by decide +kernel
theorem dL_law_315 : decode cL_law 315 = .ok (.ireturn, 1) := by decide +kernel
theorem dL_law_316 : decode cL_law 316 = .ok (.aload_n 1, 1) := by decide +kernel
theorem dL_law_317 : decode cL_law 317 = .ok (.aload_n 0, 1) := by decide +kernel
theorem dL_law_318 : decode cL_law 318 = .ok (.iload_n 3, 1) := by decide +kernel
theorem dL_law_319 : decode cL_law 319 = .ok (.iconst 1, 1) := by decide +kernel
theorem dL_law_320 : decode cL_law 320 = .ok (.iadd, 1) := by decide +kernel
theorem dL_law_321 : decode cL_law 321 = .ok (.iaload, 1) := by decide +kernel
theorem dL_law_322 : decode cL_law 322 = .ok (.invokevirtual 32, 3) := by decide +kernel
theorem dL_law_325 : decode cL_law 325 = .ok (.aload_n 2, 1) := by decide +kernel
theorem dL_law_326 : decode cL_law 326 = .ok (.aload_n 0, 1) := by decide +kernel
theorem dL_law_327 : decode cL_law 327 = .ok (.iload_n 3, 1) := by decide +kernel
theorem dL_law_328 : decode cL_law 328 = .ok (.iconst 1, 1) := by decide +kernel
theorem dL_law_329 : decode cL_law 329 = .ok (.iadd, 1) := by decide +kernel
theorem dL_law_330 : decode cL_law 330 = .ok (.iaload, 1) := by decide +kernel
theorem dL_law_331 : decode cL_law 331 = .ok (.invokevirtual 35, 3) := by decide +kernel
theorem dL_law_334 : decode cL_law 334 = .ok (.if_icmp .eq 705, 3) := by decide +kernel
theorem dL_law_337 : decode cL_law 337 = .ok (.iconst 0, 1) := by decide +kernel
theorem dL_law_338 : decode cL_law 338 = .ok (.ireturn, 1) := by decide +kernel
theorem dL_law_339 : decode cL_law 339 = .ok (.aload_n 1, 1) := by decide +kernel
theorem dL_law_340 : decode cL_law 340 = .ok (.aload_n 0, 1) := by decide +kernel
theorem dL_law_341 : decode cL_law 341 = .ok (.iload_n 3, 1) := by decide +kernel
theorem dL_law_342 : decode cL_law 342 = .ok (.iconst 1, 1) := by decide +kernel
theorem dL_law_343 : decode cL_law 343 = .ok (.iadd, 1) := by decide +kernel
theorem dL_law_344 : decode cL_law 344 = .ok (.iaload, 1) := by decide +kernel
theorem dL_law_345 : decode cL_law 345 = .ok (.invokevirtual 36, 3) := by decide +kernel
theorem dL_law_348 : decode cL_law 348 = .ok (.aload_n 2, 1) := by decide +kernel
theorem dL_law_349 : decode cL_law 349 = .ok (.aload_n 0, 1) := by decide +kernel
theorem dL_law_350 : decode cL_law 350 = .ok (.iload_n 3, 1) := by decide +kernel
theorem dL_law_351 : decode cL_law 351 = .ok (.iconst 1, 1) := by decide +kernel
theorem dL_law_352 : decode cL_law 352 = .ok (.iadd, 1) := by decide +kernel
theorem dL_law_353 : decode cL_law 353 = .ok (.iaload, 1) := by decide +kernel
theorem dL_law_354 : decode cL_law 354 = .ok (.invokevirtual 39, 3) := by decide +kernel
theorem dL_law_357 : decode cL_law 357 = .ok (.if_icmp .eq 682, 3) := by decide +kernel
theorem dL_law_360 : decode cL_law 360 = .ok (.iconst 0, 1) := by decide +kernel
theorem dL_law_361 : decode cL_law 361 = .ok (.ireturn, 1) := by decide +kernel
theorem dL_law_362 : decode cL_law 362 = .ok (.aload_n 1, 1) := by decide +kernel
theorem dL_law_363 : decode cL_law 363 = .ok (.aload_n 0, 1) := by decide +kernel
theorem dL_law_364 : decode cL_law 364 = .ok (.iload_n 3, 1) := by decide +kernel
theorem dL_law_365 : decode cL_law 365 = .ok (.iconst 1, 1) := by decide +kernel
theorem dL_law_366 : decode cL_law 366 = .ok (.iadd, 1) := by decide +kernel
theorem dL_law_367 : decode cL_law 367 = .ok (.iaload, 1) := by decide +kernel
theorem dL_law_368 : decode cL_law 368 = .ok (.aload_n 0, 1) := by decide +kernel
theorem dL_law_369 : decode cL_law 369 = .ok (.iload_n 3, 1) := by decide +kernel
theorem dL_law_370 : decode cL_law 370 = .ok (.iconst 2, 1) := by decide +kernel
theorem dL_law_371 : decode cL_law 371 = .ok (.iadd, 1) := by decide +kernel
theorem dL_law_372 : decode cL_law 372 = .ok (.iaload, 1) := by decide +kernel
theorem dL_law_373 : decode cL_law 373 = .ok (.aload_n 0, 1) := by decide +kernel
theorem dL_law_374 : decode cL_law 374 = .ok (.iload_n 3, 1) := by decide +kernel
theorem dL_law_375 : decode cL_law 375 = .ok (.iconst 3, 1) := by decide +kernel
theorem dL_law_376 : decode cL_law 376 = .ok (.iadd, 1) := by decide +kernel
theorem dL_law_377 : decode cL_law 377 = .ok (.iaload, 1) := by decide +kernel
theorem dL_law_378 : decode cL_law 378 = .ok (.invokevirtual 40, 3) := by decide +kernel
theorem dL_law_381 : decode cL_law 381 = .ok (.aload_n 2, 1) := by decide +kernel
theorem dL_law_382 : decode cL_law 382 = .ok (.aload_n 0, 1) := by decide +kernel
theorem dL_law_383 : decode cL_law 383 = .ok (.iload_n 3, 1) := by decide +kernel
theorem dL_law_384 : decode cL_law 384 = .ok (.iconst 1, 1) := by decide +kernel
theorem dL_law_385 : decode cL_law 385 = .ok (.iadd, 1) := by decide +kernel
theorem dL_law_386 : decode cL_law 386 = .ok (.iaload, 1) := by decide +kernel
theorem dL_law_387 : decode cL_law 387 = .ok (.aload_n 0, 1) := by decide +kernel
theorem dL_law_388 : decode cL_law 388 = .ok (.iload_n 3, 1) := by decide +kernel
theorem dL_law_389 : decode cL_law 389 = .ok (.iconst 2, 1) := by decide +kernel
theorem dL_law_390 : decode cL_law 390 = .ok (.iadd, 1) := by decide +kernel
theorem dL_law_391 : decode cL_law 391 = .ok (.iaload, 1) := by decide +kernel
theorem dL_law_392 : decode cL_law 392 = .ok (.aload_n 0, 1) := by decide +kernel
theorem dL_law_393 : decode cL_law 393 = .ok (.iload_n 3, 1) := by decide +kernel
theorem dL_law_394 : decode cL_law 394 = .ok (.iconst 3, 1) := by decide +kernel
theorem dL_law_395 : decode cL_law 395 = .ok (.iadd, 1) := by decide +kernel
theorem dL_law_396 : decode cL_law 396 = .ok (.iaload, 1) := by decide +kernel
theorem dL_law_397 : decode cL_law 397 = .ok (.invokevirtual 43, 3) := by decide +kernel
theorem dL_law_400 : decode cL_law 400 = .ok (.if_icmp .eq 639, 3) := by decide +kernel
theorem dL_law_403 : decode cL_law 403 = .ok (.iconst 0, 1) := by decide +kernel
theorem dL_law_404 : decode cL_law 404 = .ok (.ireturn, 1) := by decide +kernel
theorem dL_law_405 : decode cL_law 405 = .ok (.aload_n 1, 1) := by decide +kernel
theorem dL_law_406 : decode cL_law 406 = .ok (.aload_n 0, 1) := by decide +kernel
theorem dL_law_407 : decode cL_law 407 = .ok (.iload_n 3, 1) := by decide +kernel
theorem dL_law_408 : decode cL_law 408 = .ok (.iconst 1, 1) := by decide +kernel
theorem dL_law_409 : decode cL_law 409 = .ok (.iadd, 1) := by decide +kernel
theorem dL_law_410 : decode cL_law 410 = .ok (.iaload, 1) := by decide +kernel
theorem dL_law_411 : decode cL_law 411 = .ok (.invokevirtual 44, 3) := by decide +kernel
theorem dL_law_414 : decode cL_law 414 = .ok (.aload_n 2, 1) := by decide +kernel
theorem dL_law_415 : decode cL_law 415 = .ok (.aload_n 0, 1) := by decide +kernel
theorem dL_law_416 : decode cL_law 416 = .ok (.iload_n 3, 1) := by decide +kernel
theorem dL_law_417 : decode cL_law 417 = .ok (.iconst 1, 1) := by decide +kernel
theorem dL_law_418 : decode cL_law 418 = .ok (.iadd, 1) := by decide +kernel
theorem dL_law_419 : decode cL_law 419 = .ok (.iaload, 1) := by decide +kernel
theorem dL_law_420 : decode cL_law 420 = .ok (.invokevirtual 47, 3) := by decide +kernel
theorem dL_law_423 : decode cL_law 423 = .ok (.if_icmp .eq 616, 3) := by decide +kernel
theorem dL_law_426 : decode cL_law 426 = .ok (.iconst 0, 1) := by decide +kernel
theorem dL_law_427 : decode cL_law 427 = .ok (.ireturn, 1) := by decide +kernel
theorem dL_law_428 : decode cL_law 428 = .ok (.aload_n 1, 1) := by decide +kernel
theorem dL_law_429 : decode cL_law 429 = .ok (.invokevirtual 48, 3) := by decide +kernel
theorem dL_law_432 : decode cL_law 432 = .ok (.aload_n 2, 1) := by decide +kernel
theorem dL_law_433 : decode cL_law 433 = .ok (.invokevirtual 52, 3) := by decide +kernel
theorem dL_law_436 : decode cL_law 436 = .ok (.if_icmp .eq 603, 3) := by decide +kernel
theorem dL_law_439 : decode cL_law 439 = .ok (.iconst 0, 1) := by decide +kernel
theorem dL_law_440 : decode cL_law 440 = .ok (.ireturn, 1) := by decide +kernel
theorem dL_law_441 : decode cL_law 441 = .ok (.aload_n 1, 1) := by decide +kernel
theorem dL_law_442 : decode cL_law 442 = .ok (.invokevirtual 53, 3) := by decide +kernel
theorem dL_law_445 : decode cL_law 445 = .ok (.aload_n 2, 1) := by decide +kernel
theorem dL_law_446 : decode cL_law 446 = .ok (.invokevirtual 56, 3) := by decide +kernel
theorem dL_law_449 : decode cL_law 449 = .ok (.if_icmp .eq 590, 3) := by decide +kernel
theorem dL_law_452 : decode cL_law 452 = .ok (.iconst 0, 1) := by decide +kernel
theorem dL_law_453 : decode cL_law 453 = .ok (.ireturn, 1) := by decide +kernel
theorem dL_law_454 : decode cL_law 454 = .ok (.aload_n 1, 1) := by decide +kernel
theorem dL_law_455 : decode cL_law 455 = .ok (.aload_n 0, 1) := by decide +kernel
theorem dL_law_456 : decode cL_law 456 = .ok (.iload_n 3, 1) := by decide +kernel
theorem dL_law_457 : decode cL_law 457 = .ok (.iconst 1, 1) := by decide +kernel
theorem dL_law_458 : decode cL_law 458 = .ok (.iadd, 1) := by decide +kernel
theorem dL_law_459 : decode cL_law 459 = .ok (.iaload, 1) := by decide +kernel
theorem dL_law_460 : decode cL_law 460 = .ok (.aload_n 0, 1) := by decide +kernel
theorem dL_law_461 : decode cL_law 461 = .ok (.iload_n 3, 1) := by decide +kernel
theorem dL_law_462 : decode cL_law 462 = .ok (.iconst 2, 1) := by decide +kernel
theorem dL_law_463 : decode cL_law 463 = .ok (.iadd, 1) := by decide +kernel
theorem dL_law_464 : decode cL_law 464 = .ok (.iaload, 1) := by decide +kernel
theorem dL_law_465 : decode cL_law 465 = .ok (.invokevirtual 57, 3) := by decide +kernel
theorem dL_law_468 : decode cL_law 468 = .ok (.aload_n 2, 1) := by decide +kernel
theorem dL_law_469 : decode cL_law 469 = .ok (.aload_n 0, 1) := by decide +kernel
theorem dL_law_470 : decode cL_law 470 = .ok (.iload_n 3, 1) := by decide +kernel
theorem dL_law_471 : decode cL_law 471 = .ok (.iconst 1, 1) := by decide +kernel
theorem dL_law_472 : decode cL_law 472 = .ok (.iadd, 1) := by decide +kernel
theorem dL_law_473 : decode cL_law 473 = .ok (.iaload, 1) := by decide +kernel
theorem dL_law_474 : decode cL_law 474 = .ok (.aload_n 0, 1) := by decide +kernel
theorem dL_law_475 : decode cL_law 475 = .ok (.iload_n 3, 1) := by decide +kernel
theorem dL_law_476 : decode cL_law 476 = .ok (.iconst 2, 1) := by decide +kernel
theorem dL_law_477 : decode cL_law 477 = .ok (.iadd, 1) := by decide +kernel
theorem dL_law_478 : decode cL_law 478 = .ok (.iaload, 1) := by decide +kernel
theorem dL_law_479 : decode cL_law 479 = .ok (.invokevirtual 60, 3) := by decide +kernel
theorem dL_law_482 : decode cL_law 482 = .ok (.if_icmp .eq 557, 3) := by decide +kernel
theorem dL_law_485 : decode cL_law 485 = .ok (.iconst 0, 1) := by decide +kernel
theorem dL_law_486 : decode cL_law 486 = .ok (.ireturn, 1) := by decide +kernel
theorem dL_law_487 : decode cL_law 487 = .ok (.aload_n 1, 1) := by decide +kernel
theorem dL_law_488 : decode cL_law 488 = .ok (.invokevirtual 61, 3) := by decide +kernel
theorem dL_law_491 : decode cL_law 491 = .ok (.aload_n 2, 1) := by decide +kernel
theorem dL_law_492 : decode cL_law 492 = .ok (.invokevirtual 64, 3) := by decide +kernel
theorem dL_law_495 : decode cL_law 495 = .ok (.if_icmp .eq 544, 3) := by decide +kernel
theorem dL_law_498 : decode cL_law 498 = .ok (.iconst 0, 1) := by decide +kernel
theorem dL_law_499 : decode cL_law 499 = .ok (.ireturn, 1) := by decide +kernel
theorem dL_law_500 : decode cL_law 500 = .ok (.aload_n 1, 1) := by decide +kernel
theorem dL_law_501 : decode cL_law 501 = .ok (.invokevirtual 65, 3) := by decide +kernel
theorem dL_law_504 : decode cL_law 504 = .ok (.aload_n 2, 1) := by decide +kernel
theorem dL_law_505 : decode cL_law 505 = .ok (.invokevirtual 68, 3) := by decide +kernel
theorem dL_law_508 : decode cL_law 508 = .ok (.if_icmp .eq 531, 3) := by decide +kernel
theorem dL_law_511 : decode cL_law 511 = .ok (.iconst 0, 1) := by decide +kernel
theorem dL_law_512 : decode cL_law 512 = .ok (.ireturn, 1) := by decide +kernel
theorem dL_law_513 : decode cL_law 513 = .ok (.aload_n 1, 1) := by decide +kernel
theorem dL_law_514 : decode cL_law 514 = .ok (.aload_n 0, 1) := by decide +kernel
theorem dL_law_515 : decode cL_law 515 = .ok (.iload_n 3, 1) := by decide +kernel
theorem dL_law_516 : decode cL_law 516 = .ok (.iconst 1, 1) := by decide +kernel
theorem dL_law_517 : decode cL_law 517 = .ok (.iadd, 1) := by decide +kernel
theorem dL_law_518 : decode cL_law 518 = .ok (.iaload, 1) := by decide +kernel
theorem dL_law_519 : decode cL_law 519 = .ok (.aload_n 0, 1) := by decide +kernel
theorem dL_law_520 : decode cL_law 520 = .ok (.iload_n 3, 1) := by decide +kernel
theorem dL_law_521 : decode cL_law 521 = .ok (.iconst 2, 1) := by decide +kernel
theorem dL_law_522 : decode cL_law 522 = .ok (.iadd, 1) := by decide +kernel
theorem dL_law_523 : decode cL_law 523 = .ok (.iaload, 1) := by decide +kernel
theorem dL_law_524 : decode cL_law 524 = .ok (.invokevirtual 69, 3) := by decide +kernel
theorem dL_law_527 : decode cL_law 527 = .ok (.aload_n 2, 1) := by decide +kernel
theorem dL_law_528 : decode cL_law 528 = .ok (.aload_n 0, 1) := by decide +kernel
theorem dL_law_529 : decode cL_law 529 = .ok (.iload_n 3, 1) := by decide +kernel
theorem dL_law_530 : decode cL_law 530 = .ok (.iconst 1, 1) := by decide +kernel
theorem dL_law_531 : decode cL_law 531 = .ok (.iadd, 1) := by decide +kernel
theorem dL_law_532 : decode cL_law 532 = .ok (.iaload, 1) := by decide +kernel
theorem dL_law_533 : decode cL_law 533 = .ok (.aload_n 0, 1) := by decide +kernel
theorem dL_law_534 : decode cL_law 534 = .ok (.iload_n 3, 1) := by decide +kernel
theorem dL_law_535 : decode cL_law 535 = .ok (.iconst 2, 1) := by decide +kernel
theorem dL_law_536 : decode cL_law 536 = .ok (.iadd, 1) := by decide +kernel
theorem dL_law_537 : decode cL_law 537 = .ok (.iaload, 1) := by decide +kernel
theorem dL_law_538 : decode cL_law 538 = .ok (.invokevirtual 72, 3) := by decide +kernel
theorem dL_law_541 : decode cL_law 541 = .ok (.if_icmp .eq 498, 3) := by decide +kernel
theorem dL_law_544 : decode cL_law 544 = .ok (.iconst 0, 1) := by decide +kernel
theorem dL_law_545 : decode cL_law 545 = .ok (.ireturn, 1) := by decide +kernel
theorem dL_law_546 : decode cL_law 546 = .ok (.aload_n 1, 1) := by decide +kernel
theorem dL_law_547 : decode cL_law 547 = .ok (.aload_n 0, 1) := by decide +kernel
theorem dL_law_548 : decode cL_law 548 = .ok (.iload_n 3, 1) := by decide +kernel
theorem dL_law_549 : decode cL_law 549 = .ok (.iconst 1, 1) := by decide +kernel
theorem dL_law_550 : decode cL_law 550 = .ok (.iadd, 1) := by decide +kernel
theorem dL_law_551 : decode cL_law 551 = .ok (.iaload, 1) := by decide +kernel
theorem dL_law_552 : decode cL_law 552 = .ok (.invokevirtual 73, 3) := by decide +kernel
theorem dL_law_555 : decode cL_law 555 = .ok (.aload_n 2, 1) := by decide +kernel
theorem dL_law_556 : decode cL_law 556 = .ok (.aload_n 0, 1) := by decide +kernel
theorem dL_law_557 : decode cL_law 557 = .ok (.iload_n 3, 1) := by decide +kernel
theorem dL_law_558 : decode cL_law 558 = .ok (.iconst 1, 1) := by decide +kernel
theorem dL_law_559 : decode cL_law 559 = .ok (.iadd, 1) := by decide +kernel
theorem dL_law_560 : decode cL_law 560 = .ok (.iaload, 1) := by decide +kernel
theorem dL_law_561 : decode cL_law 561 = .ok (.invokevirtual 76, 3) := by decide +kernel
theorem dL_law_564 : decode cL_law 564 = .ok (.if_icmp .eq 475, 3) := by decide +kernel
theorem dL_law_567 : decode cL_law 567 = .ok (.iconst 0, 1) := by decide +kernel
theorem dL_law_568 : decode cL_law 568 = .ok (.ireturn, 1) := by decide +kernel
theorem dL_law_569 : decode cL_law 569 = .ok (.aload_n 1, 1) := by decide +kernel
theorem dL_law_570 : decode cL_law 570 = .ok (.aload_n 0, 1) := by decide +kernel
theorem dL_law_571 : decode cL_law 571 = .ok (.iload_n 3, 1) := by decide +kernel
theorem dL_law_572 : decode cL_law 572 = .ok (.iconst 1, 1) := by decide +kernel
theorem dL_law_573 : decode cL_law 573 = .ok (.iadd, 1) := by decide +kernel
theorem dL_law_574 : decode cL_law 574 = .ok (.iaload, 1) := by decide +kernel
theorem dL_law_575 : decode cL_law 575 = .ok (.aload_n 0, 1) := by decide +kernel
theorem dL_law_576 : decode cL_law 576 = .ok (.iload_n 3, 1) := by decide +kernel
theorem dL_law_577 : decode cL_law 577 = .ok (.iconst 2, 1) := by decide +kernel
theorem dL_law_578 : decode cL_law 578 = .ok (.iadd, 1) := by decide +kernel
theorem dL_law_579 : decode cL_law 579 = .ok (.iaload, 1) := by decide +kernel
theorem dL_law_580 : decode cL_law 580 = .ok (.aload_n 0, 1) := by decide +kernel
theorem dL_law_581 : decode cL_law 581 = .ok (.iload_n 3, 1) := by decide +kernel
theorem dL_law_582 : decode cL_law 582 = .ok (.iconst 3, 1) := by decide +kernel
theorem dL_law_583 : decode cL_law 583 = .ok (.iadd, 1) := by decide +kernel
theorem dL_law_584 : decode cL_law 584 = .ok (.iaload, 1) := by decide +kernel
theorem dL_law_585 : decode cL_law 585 = .ok (.invokevirtual 77, 3) := by decide +kernel
theorem dL_law_588 : decode cL_law 588 = .ok (.aload_n 2, 1) := by decide +kernel
theorem dL_law_589 : decode cL_law 589 = .ok (.aload_n 0, 1) := by decide +kernel
theorem dL_law_590 : decode cL_law 590 = .ok (.iload_n 3, 1) := by decide +kernel
theorem dL_law_591 : decode cL_law 591 = .ok (.iconst 1, 1) := by decide +kernel
theorem dL_law_592 : decode cL_law 592 = .ok (.iadd, 1) := by decide +kernel
theorem dL_law_593 : decode cL_law 593 = .ok (.iaload, 1) := by decide +kernel
theorem dL_law_594 : decode cL_law 594 = .ok (.aload_n 0, 1) := by decide +kernel
theorem dL_law_595 : decode cL_law 595 = .ok (.iload_n 3, 1) := by decide +kernel
theorem dL_law_596 : decode cL_law 596 = .ok (.iconst 2, 1) := by decide +kernel
theorem dL_law_597 : decode cL_law 597 = .ok (.iadd, 1) := by decide +kernel
theorem dL_law_598 : decode cL_law 598 = .ok (.iaload, 1) := by decide +kernel
theorem dL_law_599 : decode cL_law 599 = .ok (.aload_n 0, 1) := by decide +kernel
theorem dL_law_600 : decode cL_law 600 = .ok (.iload_n 3, 1) := by decide +kernel
theorem dL_law_601 : decode cL_law 601 = .ok (.iconst 3, 1) := by decide +kernel
theorem dL_law_602 : decode cL_law 602 = .ok (.iadd, 1) := by decide +kernel
theorem dL_law_603 : decode cL_law 603 = .ok (.iaload, 1) := by decide +kernel
theorem dL_law_604 : decode cL_law 604 = .ok (.invokevirtual 80, 3) := by decide +kernel
theorem dL_law_607 : decode cL_law 607 = .ok (.if_icmp .eq 432, 3) := by decide +kernel
theorem dL_law_610 : decode cL_law 610 = .ok (.iconst 0, 1) := by decide +kernel
theorem dL_law_611 : decode cL_law 611 = .ok (.ireturn, 1) := by decide +kernel
theorem dL_law_612 : decode cL_law 612 = .ok (.aload_n 1, 1) := by decide +kernel
theorem dL_law_613 : decode cL_law 613 = .ok (.aload_n 0, 1) := by decide +kernel
theorem dL_law_614 : decode cL_law 614 = .ok (.iload_n 3, 1) := by decide +kernel
theorem dL_law_615 : decode cL_law 615 = .ok (.iconst 1, 1) := by decide +kernel
theorem dL_law_616 : decode cL_law 616 = .ok (.iadd, 1) := by decide +kernel
theorem dL_law_617 : decode cL_law 617 = .ok (.iaload, 1) := by decide +kernel
theorem dL_law_618 : decode cL_law 618 = .ok (.invokevirtual 81, 3) := by decide +kernel
theorem dL_law_621 : decode cL_law 621 = .ok (.aload_n 2, 1) := by decide +kernel
theorem dL_law_622 : decode cL_law 622 = .ok (.aload_n 0, 1) := by decide +kernel
theorem dL_law_623 : decode cL_law 623 = .ok (.iload_n 3, 1) := by decide +kernel
theorem dL_law_624 : decode cL_law 624 = .ok (.iconst 1, 1) := by decide +kernel
theorem dL_law_625 : decode cL_law 625 = .ok (.iadd, 1) := by decide +kernel
theorem dL_law_626 : decode cL_law 626 = .ok (.iaload, 1) := by decide +kernel
theorem dL_law_627 : decode cL_law 627 = .ok (.invokevirtual 84, 3) := by decide +kernel
theorem dL_law_630 : decode cL_law 630 = .ok (.if_icmp .eq 409, 3) := by decide +kernel
theorem dL_law_633 : decode cL_law 633 = .ok (.iconst 0, 1) := by decide +kernel
theorem dL_law_634 : decode cL_law 634 = .ok (.ireturn, 1) := by decide +kernel
theorem dL_law_635 : decode cL_law 635 = .ok (.aload_n 1, 1) := by decide +kernel
theorem dL_law_636 : decode cL_law 636 = .ok (.invokevirtual 85, 3) := by decide +kernel
theorem dL_law_639 : decode cL_law 639 = .ok (.aload_n 2, 1) := by decide +kernel
theorem dL_law_640 : decode cL_law 640 = .ok (.invokevirtual 88, 3) := by decide +kernel
theorem dL_law_643 : decode cL_law 643 = .ok (.if_icmp .eq 396, 3) := by decide +kernel
theorem dL_law_646 : decode cL_law 646 = .ok (.iconst 0, 1) := by decide +kernel
theorem dL_law_647 : decode cL_law 647 = .ok (.ireturn, 1) := by decide +kernel
theorem dL_law_648 : decode cL_law 648 = .ok (.aload_n 1, 1) := by decide +kernel
theorem dL_law_649 : decode cL_law 649 = .ok (.aload_n 0, 1) := by decide +kernel
theorem dL_law_650 : decode cL_law 650 = .ok (.iload_n 3, 1) := by decide +kernel
theorem dL_law_651 : decode cL_law 651 = .ok (.iconst 1, 1) := by decide +kernel
theorem dL_law_652 : decode cL_law 652 = .ok (.iadd, 1) := by decide +kernel
theorem dL_law_653 : decode cL_law 653 = .ok (.iaload, 1) := by decide +kernel
theorem dL_law_654 : decode cL_law 654 = .ok (.invokevirtual 89, 3) := by decide +kernel
theorem dL_law_657 : decode cL_law 657 = .ok (.aload_n 2, 1) := by decide +kernel
theorem dL_law_658 : decode cL_law 658 = .ok (.aload_n 0, 1) := by decide +kernel
theorem dL_law_659 : decode cL_law 659 = .ok (.iload_n 3, 1) := by decide +kernel
theorem dL_law_660 : decode cL_law 660 = .ok (.iconst 1, 1) := by decide +kernel
theorem dL_law_661 : decode cL_law 661 = .ok (.iadd, 1) := by decide +kernel
theorem dL_law_662 : decode cL_law 662 = .ok (.iaload, 1) := by decide +kernel
theorem dL_law_663 : decode cL_law 663 = .ok (.invokevirtual 92, 3) := by decide +kernel
theorem dL_law_666 : decode cL_law 666 = .ok (.if_icmp .eq 373, 3) := by decide +kernel
theorem dL_law_669 : decode cL_law 669 = .ok (.iconst 0, 1) := by decide +kernel
theorem dL_law_670 : decode cL_law 670 = .ok (.ireturn, 1) := by decide +kernel
theorem dL_law_671 : decode cL_law 671 = .ok (.aload_n 1, 1) := by decide +kernel
theorem dL_law_672 : decode cL_law 672 = .ok (.aload_n 0, 1) := by decide +kernel
theorem dL_law_673 : decode cL_law 673 = .ok (.iload_n 3, 1) := by decide +kernel
theorem dL_law_674 : decode cL_law 674 = .ok (.iconst 1, 1) := by decide +kernel
theorem dL_law_675 : decode cL_law 675 = .ok (.iadd, 1) := by decide +kernel
theorem dL_law_676 : decode cL_law 676 = .ok (.iaload, 1) := by decide +kernel
theorem dL_law_677 : decode cL_law 677 = .ok (.aload_n 0, 1) := by decide +kernel
theorem dL_law_678 : decode cL_law 678 = .ok (.iload_n 3, 1) := by decide +kernel
theorem dL_law_679 : decode cL_law 679 = .ok (.iconst 2, 1) := by decide +kernel
theorem dL_law_680 : decode cL_law 680 = .ok (.iadd, 1) := by decide +kernel
theorem dL_law_681 : decode cL_law 681 = .ok (.iaload, 1) := by decide +kernel
theorem dL_law_682 : decode cL_law 682 = .ok (.invokevirtual 93, 3) := by decide +kernel
theorem dL_law_685 : decode cL_law 685 = .ok (.aload_n 2, 1) := by decide +kernel
theorem dL_law_686 : decode cL_law 686 = .ok (.aload_n 0, 1) := by decide +kernel
theorem dL_law_687 : decode cL_law 687 = .ok (.iload_n 3, 1) := by decide +kernel
theorem dL_law_688 : decode cL_law 688 = .ok (.iconst 1, 1) := by decide +kernel
theorem dL_law_689 : decode cL_law 689 = .ok (.iadd, 1) := by decide +kernel
theorem dL_law_690 : decode cL_law 690 = .ok (.iaload, 1) := by decide +kernel
theorem dL_law_691 : decode cL_law 691 = .ok (.aload_n 0, 1) := by decide +kernel
theorem dL_law_692 : decode cL_law 692 = .ok (.iload_n 3, 1) := by decide +kernel
theorem dL_law_693 : decode cL_law 693 = .ok (.iconst 2, 1) := by decide +kernel
theorem dL_law_694 : decode cL_law 694 = .ok (.iadd, 1) := by decide +kernel
theorem dL_law_695 : decode cL_law 695 = .ok (.iaload, 1) := by decide +kernel
theorem dL_law_696 : decode cL_law 696 = .ok (.invokevirtual 96, 3) := by decide +kernel
theorem dL_law_699 : decode cL_law 699 = .ok (.if_icmp .eq 340, 3) := by decide +kernel
theorem dL_law_702 : decode cL_law 702 = .ok (.iconst 0, 1) := by decide +kernel
theorem dL_law_703 : decode cL_law 703 = .ok (.ireturn, 1) := by decide +kernel
theorem dL_law_704 : decode cL_law 704 = .ok (.aload_n 1, 1) := by decide +kernel
theorem dL_law_705 : decode cL_law 705 = .ok (.aload_n 0, 1) := by decide +kernel
theorem dL_law_706 : decode cL_law 706 = .ok (.iload_n 3, 1) := by decide +kernel
theorem dL_law_707 : decode cL_law 707 = .ok (.iconst 1, 1) := by decide +kernel
theorem dL_law_708 : decode cL_law 708 = .ok (.iadd, 1) := by decide +kernel
theorem dL_law_709 : decode cL_law 709 = .ok (.iaload, 1) := by decide +kernel
theorem dL_law_710 : decode cL_law 710 = .ok (.aload_n 0, 1) := by decide +kernel
theorem dL_law_711 : decode cL_law 711 = .ok (.iload_n 3, 1) := by decide +kernel
theorem dL_law_712 : decode cL_law 712 = .ok (.iconst 2, 1) := by decide +kernel
theorem dL_law_713 : decode cL_law 713 = .ok (.iadd, 1) := by decide +kernel
theorem dL_law_714 : decode cL_law 714 = .ok (.iaload, 1) := by decide +kernel
theorem dL_law_715 : decode cL_law 715 = .ok (.invokevirtual 97, 3) := by decide +kernel
theorem dL_law_718 : decode cL_law 718 = .ok (.aload_n 2, 1) := by decide +kernel
theorem dL_law_719 : decode cL_law 719 = .ok (.aload_n 0, 1) := by decide +kernel
theorem dL_law_720 : decode cL_law 720 = .ok (.iload_n 3, 1) := by decide +kernel
theorem dL_law_721 : decode cL_law 721 = .ok (.iconst 1, 1) := by decide +kernel
theorem dL_law_722 : decode cL_law 722 = .ok (.iadd, 1) := by decide +kernel
theorem dL_law_723 : decode cL_law 723 = .ok (.iaload, 1) := by decide +kernel
theorem dL_law_724 : decode cL_law 724 = .ok (.aload_n 0, 1) := by decide +kernel
theorem dL_law_725 : decode cL_law 725 = .ok (.iload_n 3, 1) := by decide +kernel
theorem dL_law_726 : decode cL_law 726 = .ok (.iconst 2, 1) := by decide +kernel
theorem dL_law_727 : decode cL_law 727 = .ok (.iadd, 1) := by decide +kernel
theorem dL_law_728 : decode cL_law 728 = .ok (.iaload, 1) := by decide +kernel
theorem dL_law_729 : decode cL_law 729 = .ok (.invokevirtual 100, 3) := by decide +kernel
theorem dL_law_732 : decode cL_law 732 = .ok (.if_icmp .eq 307, 3) := by decide +kernel
theorem dL_law_735 : decode cL_law 735 = .ok (.iconst 0, 1) := by decide +kernel
theorem dL_law_736 : decode cL_law 736 = .ok (.ireturn, 1) := by decide +kernel
theorem dL_law_737 : decode cL_law 737 = .ok (.aload_n 1, 1) := by decide +kernel
theorem dL_law_738 : decode cL_law 738 = .ok (.aload_n 0, 1) := by decide +kernel
theorem dL_law_739 : decode cL_law 739 = .ok (.iload_n 3, 1) := by decide +kernel
theorem dL_law_740 : decode cL_law 740 = .ok (.iconst 1, 1) := by decide +kernel
theorem dL_law_741 : decode cL_law 741 = .ok (.iadd, 1) := by decide +kernel
theorem dL_law_742 : decode cL_law 742 = .ok (.iaload, 1) := by decide +kernel
theorem dL_law_743 : decode cL_law 743 = .ok (.invokevirtual 101, 3) := by decide +kernel
theorem dL_law_746 : decode cL_law 746 = .ok (.aload_n 2, 1) := by decide +kernel
theorem dL_law_747 : decode cL_law 747 = .ok (.aload_n 0, 1) := by decide +kernel
theorem dL_law_748 : decode cL_law 748 = .ok (.iload_n 3, 1) := by decide +kernel
theorem dL_law_749 : decode cL_law 749 = .ok (.iconst 1, 1) := by decide +kernel
theorem dL_law_750 : decode cL_law 750 = .ok (.iadd, 1) := by decide +kernel
theorem dL_law_751 : decode cL_law 751 = .ok (.iaload, 1) := by decide +kernel
theorem dL_law_752 : decode cL_law 752 = .ok (.invokevirtual 104, 3) := by decide +kernel
theorem dL_law_755 : decode cL_law 755 = .ok (.if_icmp .eq 284, 3) := by decide +kernel
theorem dL_law_758 : decode cL_law 758 = .ok (.iconst 0, 1) := by decide +kernel
theorem dL_law_759 : decode cL_law 759 = .ok (.ireturn, 1) := by decide +kernel
theorem dL_law_760 : decode cL_law 760 = .ok (.aload_n 1, 1) := by decide +kernel
theorem dL_law_761 : decode cL_law 761 = .ok (.aload_n 0, 1) := by decide +kernel
theorem dL_law_762 : decode cL_law 762 = .ok (.iload_n 3, 1) := by decide +kernel
theorem dL_law_763 : decode cL_law 763 = .ok (.iconst 1, 1) := by decide +kernel
theorem dL_law_764 : decode cL_law 764 = .ok (.iadd, 1) := by decide +kernel
theorem dL_law_765 : decode cL_law 765 = .ok (.iaload, 1) := by decide +kernel
theorem dL_law_766 : decode cL_law 766 = .ok (.aload_n 0, 1) := by decide +kernel
theorem dL_law_767 : decode cL_law 767 = .ok (.iload_n 3, 1) := by decide +kernel
theorem dL_law_768 : decode cL_law 768 = .ok (.iconst 2, 1) := by decide +kernel
theorem dL_law_769 : decode cL_law 769 = .ok (.iadd, 1) := by decide +kernel
theorem dL_law_770 : decode cL_law 770 = .ok (.iaload, 1) := by decide +kernel
theorem dL_law_771 : decode cL_law 771 = .ok (.aload_n 0, 1) := by decide +kernel
theorem dL_law_772 : decode cL_law 772 = .ok (.iload_n 3, 1) := by decide +kernel
theorem dL_law_773 : decode cL_law 773 = .ok (.iconst 3, 1) := by decide +kernel
theorem dL_law_774 : decode cL_law 774 = .ok (.iadd, 1) := by decide +kernel
theorem dL_law_775 : decode cL_law 775 = .ok (.iaload, 1) := by decide +kernel
theorem dL_law_776 : decode cL_law 776 = .ok (.invokevirtual 105, 3) := by decide +kernel
theorem dL_law_779 : decode cL_law 779 = .ok (.aload_n 2, 1) := by decide +kernel
theorem dL_law_780 : decode cL_law 780 = .ok (.aload_n 0, 1) := by decide +kernel
theorem dL_law_781 : decode cL_law 781 = .ok (.iload_n 3, 1) := by decide +kernel
theorem dL_law_782 : decode cL_law 782 = .ok (.iconst 1, 1) := by decide +kernel
theorem dL_law_783 : decode cL_law 783 = .ok (.iadd, 1) := by decide +kernel
theorem dL_law_784 : decode cL_law 784 = .ok (.iaload, 1) := by decide +kernel
theorem dL_law_785 : decode cL_law 785 = .ok (.aload_n 0, 1) := by decide +kernel
theorem dL_law_786 : decode cL_law 786 = .ok (.iload_n 3, 1) := by decide +kernel
theorem dL_law_787 : decode cL_law 787 = .ok (.iconst 2, 1) := by decide +kernel
theorem dL_law_788 : decode cL_law 788 = .ok (.iadd, 1) := by decide +kernel
theorem dL_law_789 : decode cL_law 789 = .ok (.iaload, 1) := by decide +kernel
theorem dL_law_790 : decode cL_law 790 = .ok (.aload_n 0, 1) := by decide +kernel
theorem dL_law_791 : decode cL_law 791 = .ok (.iload_n 3, 1) := by decide +kernel
theorem dL_law_792 : decode cL_law 792 = .ok (.iconst 3, 1) := by decide +kernel
theorem dL_law_793 : decode cL_law 793 = .ok (.iadd, 1) := by decide +kernel
theorem dL_law_794 : decode cL_law 794 = .ok (.iaload, 1) := by decide +kernel
theorem dL_law_795 : decode cL_law 795 = .ok (.invokevirtual 108, 3) := by decide +kernel
theorem dL_law_798 : decode cL_law 798 = .ok (.if_icmp .eq 241, 3) := by decide +kernel
theorem dL_law_801 : decode cL_law 801 = .ok (.iconst 0, 1) := by decide +kernel
theorem dL_law_802 : decode cL_law 802 = .ok (.ireturn, 1) := by decide +kernel
theorem dL_law_803 : decode cL_law 803 = .ok (.aload_n 1, 1) := by decide +kernel
theorem dL_law_804 : decode cL_law 804 = .ok (.invokevirtual 109, 3) := by decide +kernel
theorem dL_law_807 : decode cL_law 807 = .ok (.aload_n 2, 1) := by decide +kernel
theorem dL_law_808 : decode cL_law 808 = .ok (.invokevirtual 112, 3) := by decide +kernel
theorem dL_law_811 : decode cL_law 811 = .ok (.if_icmp .eq 228, 3) := by decide +kernel
theorem dL_law_814 : decode cL_law 814 = .ok (.iconst 0, 1) := by decide +kernel
theorem dL_law_815 : decode cL_law 815 = .ok (.ireturn, 1) := by decide +kernel
theorem dL_law_816 : decode cL_law 816 = .ok (.aload_n 1, 1) := by decide +kernel
theorem dL_law_817 : decode cL_law 817 = .ok (.aload_n 0, 1) := by decide +kernel
theorem dL_law_818 : decode cL_law 818 = .ok (.iload_n 3, 1) := by decide +kernel
theorem dL_law_819 : decode cL_law 819 = .ok (.iconst 1, 1) := by decide +kernel
theorem dL_law_820 : decode cL_law 820 = .ok (.iadd, 1) := by decide +kernel
theorem dL_law_821 : decode cL_law 821 = .ok (.iaload, 1) := by decide +kernel
theorem dL_law_822 : decode cL_law 822 = .ok (.invokevirtual 113, 3) := by decide +kernel
theorem dL_law_825 : decode cL_law 825 = .ok (.aload_n 2, 1) := by decide +kernel
theorem dL_law_826 : decode cL_law 826 = .ok (.aload_n 0, 1) := by decide +kernel
theorem dL_law_827 : decode cL_law 827 = .ok (.iload_n 3, 1) := by decide +kernel
theorem dL_law_828 : decode cL_law 828 = .ok (.iconst 1, 1) := by decide +kernel
theorem dL_law_829 : decode cL_law 829 = .ok (.iadd, 1) := by decide +kernel
theorem dL_law_830 : decode cL_law 830 = .ok (.iaload, 1) := by decide +kernel
theorem dL_law_831 : decode cL_law 831 = .ok (.invokevirtual 116, 3) := by decide +kernel
theorem dL_law_834 : decode cL_law 834 = .ok (.if_icmp .eq 205, 3) := by decide +kernel
theorem dL_law_837 : decode cL_law 837 = .ok (.iconst 0, 1) := by decide +kernel
theorem dL_law_838 : decode cL_law 838 = .ok (.ireturn, 1) := by decide +kernel
theorem dL_law_839 : decode cL_law 839 = .ok (.aload_n 1, 1) := by decide +kernel
theorem dL_law_840 : decode cL_law 840 = .ok (.invokevirtual 117, 3) := by decide +kernel
theorem dL_law_843 : decode cL_law 843 = .ok (.aload_n 2, 1) := by decide +kernel
theorem dL_law_844 : decode cL_law 844 = .ok (.invokevirtual 121, 3) := by decide +kernel
theorem dL_law_847 : decode cL_law 847 = .ok (.lcmp, 1) := by decide +kernel
theorem dL_law_848 : decode cL_law 848 = .ok (.ifCond .eq 191, 3) := by decide +kernel
theorem dL_law_851 : decode cL_law 851 = .ok (.iconst 0, 1) := by decide +kernel
theorem dL_law_852 : decode cL_law 852 = .ok (.ireturn, 1) := by decide +kernel
theorem dL_law_853 : decode cL_law 853 = .ok (.aload_n 1, 1) := by decide +kernel
theorem dL_law_854 : decode cL_law 854 = .ok (.aload_n 0, 1) := by decide +kernel
theorem dL_law_855 : decode cL_law 855 = .ok (.iload_n 3, 1) := by decide +kernel
theorem dL_law_856 : decode cL_law 856 = .ok (.iconst 1, 1) := by decide +kernel
theorem dL_law_857 : decode cL_law 857 = .ok (.iadd, 1) := by decide +kernel
theorem dL_law_858 : decode cL_law 858 = .ok (.iaload, 1) := by decide +kernel
theorem dL_law_859 : decode cL_law 859 = .ok (.invokevirtual 122, 3) := by decide +kernel
theorem dL_law_862 : decode cL_law 862 = .ok (.aload_n 2, 1) := by decide +kernel
theorem dL_law_863 : decode cL_law 863 = .ok (.aload_n 0, 1) := by decide +kernel
theorem dL_law_864 : decode cL_law 864 = .ok (.iload_n 3, 1) := by decide +kernel
theorem dL_law_865 : decode cL_law 865 = .ok (.iconst 1, 1) := by decide +kernel
theorem dL_law_866 : decode cL_law 866 = .ok (.iadd, 1) := by decide +kernel
theorem dL_law_867 : decode cL_law 867 = .ok (.iaload, 1) := by decide +kernel
theorem dL_law_868 : decode cL_law 868 = .ok (.invokevirtual 125, 3) := by decide +kernel
theorem dL_law_871 : decode cL_law 871 = .ok (.if_icmp .eq 168, 3) := by decide +kernel
theorem dL_law_874 : decode cL_law 874 = .ok (.iconst 0, 1) := by decide +kernel
theorem dL_law_875 : decode cL_law 875 = .ok (.ireturn, 1) := by decide +kernel
theorem dL_law_876 : decode cL_law 876 = .ok (.aload_n 1, 1) := by decide +kernel
theorem dL_law_877 : decode cL_law 877 = .ok (.aload_n 0, 1) := by decide +kernel
theorem dL_law_878 : decode cL_law 878 = .ok (.iload_n 3, 1) := by decide +kernel
theorem dL_law_879 : decode cL_law 879 = .ok (.iconst 1, 1) := by decide +kernel
theorem dL_law_880 : decode cL_law 880 = .ok (.iadd, 1) := by decide +kernel
theorem dL_law_881 : decode cL_law 881 = .ok (.iaload, 1) := by decide +kernel
theorem dL_law_882 : decode cL_law 882 = .ok (.aload_n 0, 1) := by decide +kernel
theorem dL_law_883 : decode cL_law 883 = .ok (.iload_n 3, 1) := by decide +kernel
theorem dL_law_884 : decode cL_law 884 = .ok (.iconst 2, 1) := by decide +kernel
theorem dL_law_885 : decode cL_law 885 = .ok (.iadd, 1) := by decide +kernel
theorem dL_law_886 : decode cL_law 886 = .ok (.iaload, 1) := by decide +kernel
theorem dL_law_887 : decode cL_law 887 = .ok (.invokevirtual 126, 3) := by decide +kernel
theorem dL_law_890 : decode cL_law 890 = .ok (.aload_n 2, 1) := by decide +kernel
theorem dL_law_891 : decode cL_law 891 = .ok (.aload_n 0, 1) := by decide +kernel
theorem dL_law_892 : decode cL_law 892 = .ok (.iload_n 3, 1) := by decide +kernel
theorem dL_law_893 : decode cL_law 893 = .ok (.iconst 1, 1) := by decide +kernel
theorem dL_law_894 : decode cL_law 894 = .ok (.iadd, 1) := by decide +kernel
theorem dL_law_895 : decode cL_law 895 = .ok (.iaload, 1) := by decide +kernel
theorem dL_law_896 : decode cL_law 896 = .ok (.aload_n 0, 1) := by decide +kernel
theorem dL_law_897 : decode cL_law 897 = .ok (.iload_n 3, 1) := by decide +kernel
theorem dL_law_898 : decode cL_law 898 = .ok (.iconst 2, 1) := by decide +kernel
theorem dL_law_899 : decode cL_law 899 = .ok (.iadd, 1) := by decide +kernel
theorem dL_law_900 : decode cL_law 900 = .ok (.iaload, 1) := by decide +kernel
theorem dL_law_901 : decode cL_law 901 = .ok (.invokevirtual 129, 3) := by decide +kernel
theorem dL_law_904 : decode cL_law 904 = .ok (.if_icmp .eq 135, 3) := by decide +kernel
theorem dL_law_907 : decode cL_law 907 = .ok (.iconst 0, 1) := by decide +kernel
theorem dL_law_908 : decode cL_law 908 = .ok (.ireturn, 1) := by decide +kernel
theorem dL_law_909 : decode cL_law 909 = .ok (.aload_n 1, 1) := by decide +kernel
theorem dL_law_910 : decode cL_law 910 = .ok (.aload_n 0, 1) := by decide +kernel
theorem dL_law_911 : decode cL_law 911 = .ok (.iload_n 3, 1) := by decide +kernel
theorem dL_law_912 : decode cL_law 912 = .ok (.iconst 1, 1) := by decide +kernel
theorem dL_law_913 : decode cL_law 913 = .ok (.iadd, 1) := by decide +kernel
theorem dL_law_914 : decode cL_law 914 = .ok (.iaload, 1) := by decide +kernel
theorem dL_law_915 : decode cL_law 915 = .ok (.invokevirtual 130, 3) := by decide +kernel
theorem dL_law_918 : decode cL_law 918 = .ok (.aload_n 2, 1) := by decide +kernel
theorem dL_law_919 : decode cL_law 919 = .ok (.aload_n 0, 1) := by decide +kernel
theorem dL_law_920 : decode cL_law 920 = .ok (.iload_n 3, 1) := by decide +kernel
theorem dL_law_921 : decode cL_law 921 = .ok (.iconst 1, 1) := by decide +kernel
theorem dL_law_922 : decode cL_law 922 = .ok (.iadd, 1) := by decide +kernel
theorem dL_law_923 : decode cL_law 923 = .ok (.iaload, 1) := by decide +kernel
theorem dL_law_924 : decode cL_law 924 = .ok (.invokevirtual 134, 3) := by decide +kernel
theorem dL_law_927 : decode cL_law 927 = .ok (.lcmp, 1) := by decide +kernel
theorem dL_law_928 : decode cL_law 928 = .ok (.ifCond .eq 111, 3) := by decide +kernel
theorem dL_law_931 : decode cL_law 931 = .ok (.iconst 0, 1) := by decide +kernel
theorem dL_law_932 : decode cL_law 932 = .ok (.ireturn, 1) := by decide +kernel
theorem dL_law_933 : decode cL_law 933 = .ok (.aload_n 1, 1) := by decide +kernel
theorem dL_law_934 : decode cL_law 934 = .ok (.aload_n 0, 1) := by decide +kernel
theorem dL_law_935 : decode cL_law 935 = .ok (.iload_n 3, 1) := by decide +kernel
theorem dL_law_936 : decode cL_law 936 = .ok (.iconst 1, 1) := by decide +kernel
theorem dL_law_937 : decode cL_law 937 = .ok (.iadd, 1) := by decide +kernel
theorem dL_law_938 : decode cL_law 938 = .ok (.iaload, 1) := by decide +kernel
theorem dL_law_939 : decode cL_law 939 = .ok (.invokevirtual 135, 3) := by decide +kernel
theorem dL_law_942 : decode cL_law 942 = .ok (.aload_n 2, 1) := by decide +kernel
theorem dL_law_943 : decode cL_law 943 = .ok (.aload_n 0, 1) := by decide +kernel
theorem dL_law_944 : decode cL_law 944 = .ok (.iload_n 3, 1) := by decide +kernel
theorem dL_law_945 : decode cL_law 945 = .ok (.iconst 1, 1) := by decide +kernel
theorem dL_law_946 : decode cL_law 946 = .ok (.iadd, 1) := by decide +kernel
theorem dL_law_947 : decode cL_law 947 = .ok (.iaload, 1) := by decide +kernel
theorem dL_law_948 : decode cL_law 948 = .ok (.invokevirtual 138, 3) := by decide +kernel
theorem dL_law_951 : decode cL_law 951 = .ok (.if_icmp .eq 88, 3) := by decide +kernel
theorem dL_law_954 : decode cL_law 954 = .ok (.iconst 0, 1) := by decide +kernel
theorem dL_law_955 : decode cL_law 955 = .ok (.ireturn, 1) := by decide +kernel
theorem dL_law_956 : decode cL_law 956 = .ok (.aload_n 1, 1) := by decide +kernel
theorem dL_law_957 : decode cL_law 957 = .ok (.aload_n 0, 1) := by decide +kernel
theorem dL_law_958 : decode cL_law 958 = .ok (.iload_n 3, 1) := by decide +kernel
theorem dL_law_959 : decode cL_law 959 = .ok (.iconst 1, 1) := by decide +kernel
theorem dL_law_960 : decode cL_law 960 = .ok (.iadd, 1) := by decide +kernel
theorem dL_law_961 : decode cL_law 961 = .ok (.iaload, 1) := by decide +kernel
theorem dL_law_962 : decode cL_law 962 = .ok (.invokevirtual 139, 3) := by decide +kernel
theorem dL_law_965 : decode cL_law 965 = .ok (.aload_n 2, 1) := by decide +kernel
theorem dL_law_966 : decode cL_law 966 = .ok (.aload_n 0, 1) := by decide +kernel
theorem dL_law_967 : decode cL_law 967 = .ok (.iload_n 3, 1) := by decide +kernel
theorem dL_law_968 : decode cL_law 968 = .ok (.iconst 1, 1) := by decide +kernel
theorem dL_law_969 : decode cL_law 969 = .ok (.iadd, 1) := by decide +kernel
theorem dL_law_970 : decode cL_law 970 = .ok (.iaload, 1) := by decide +kernel
theorem dL_law_971 : decode cL_law 971 = .ok (.invokevirtual 142, 3) := by decide +kernel
theorem dL_law_974 : decode cL_law 974 = .ok (.if_icmp .eq 65, 3) := by decide +kernel
theorem dL_law_977 : decode cL_law 977 = .ok (.iconst 0, 1) := by decide +kernel
theorem dL_law_978 : decode cL_law 978 = .ok (.ireturn, 1) := by decide +kernel
theorem dL_law_979 : decode cL_law 979 = .ok (.aload_n 1, 1) := by decide +kernel
theorem dL_law_980 : decode cL_law 980 = .ok (.aload_n 0, 1) := by decide +kernel
theorem dL_law_981 : decode cL_law 981 = .ok (.iload_n 3, 1) := by decide +kernel
theorem dL_law_982 : decode cL_law 982 = .ok (.iconst 1, 1) := by decide +kernel
theorem dL_law_983 : decode cL_law 983 = .ok (.iadd, 1) := by decide +kernel
theorem dL_law_984 : decode cL_law 984 = .ok (.iaload, 1) := by decide +kernel
theorem dL_law_985 : decode cL_law 985 = .ok (.invokevirtual 143, 3) := by decide +kernel
theorem dL_law_988 : decode cL_law 988 = .ok (.aload_n 2, 1) := by decide +kernel
theorem dL_law_989 : decode cL_law 989 = .ok (.aload_n 0, 1) := by decide +kernel
theorem dL_law_990 : decode cL_law 990 = .ok (.iload_n 3, 1) := by decide +kernel
theorem dL_law_991 : decode cL_law 991 = .ok (.iconst 1, 1) := by decide +kernel
theorem dL_law_992 : decode cL_law 992 = .ok (.iadd, 1) := by decide +kernel
theorem dL_law_993 : decode cL_law 993 = .ok (.iaload, 1) := by decide +kernel
theorem dL_law_994 : decode cL_law 994 = .ok (.invokevirtual 146, 3) := by decide +kernel
theorem dL_law_997 : decode cL_law 997 = .ok (.if_icmp .eq 42, 3) := by decide +kernel
theorem dL_law_1000 : decode cL_law 1000 = .ok (.iconst 0, 1) := by decide +kernel
theorem dL_law_1001 : decode cL_law 1001 = .ok (.ireturn, 1) := by decide +kernel
theorem dL_law_1002 : decode cL_law 1002 = .ok (.aload_n 1, 1) := by decide +kernel
theorem dL_law_1003 : decode cL_law 1003 = .ok (.aload_n 0, 1) := by decide +kernel
theorem dL_law_1004 : decode cL_law 1004 = .ok (.iload_n 3, 1) := by decide +kernel
theorem dL_law_1005 : decode cL_law 1005 = .ok (.iconst 1, 1) := by decide +kernel
theorem dL_law_1006 : decode cL_law 1006 = .ok (.iadd, 1) := by decide +kernel
theorem dL_law_1007 : decode cL_law 1007 = .ok (.iaload, 1) := by decide +kernel
theorem dL_law_1008 : decode cL_law 1008 = .ok (.invokevirtual 147, 3) := by decide +kernel
theorem dL_law_1011 : decode cL_law 1011 = .ok (.aload_n 2, 1) := by decide +kernel
theorem dL_law_1012 : decode cL_law 1012 = .ok (.aload_n 0, 1) := by decide +kernel
theorem dL_law_1013 : decode cL_law 1013 = .ok (.iload_n 3, 1) := by decide +kernel
theorem dL_law_1014 : decode cL_law 1014 = .ok (.iconst 1, 1) := by decide +kernel
theorem dL_law_1015 : decode cL_law 1015 = .ok (.iadd, 1) := by decide +kernel
theorem dL_law_1016 : decode cL_law 1016 = .ok (.iaload, 1) := by decide +kernel
theorem dL_law_1017 : decode cL_law 1017 = .ok (.invokevirtual 150, 3) := by decide +kernel
theorem dL_law_1020 : decode cL_law 1020 = .ok (.if_icmp .eq 19, 3) := by decide +kernel
theorem dL_law_1023 : decode cL_law 1023 = .ok (.iconst 0, 1) := by decide +kernel
theorem dL_law_1024 : decode cL_law 1024 = .ok (.ireturn, 1) := by decide +kernel
theorem dL_law_1025 : decode cL_law 1025 = .ok (.aload_n 1, 1) := by decide +kernel
theorem dL_law_1026 : decode cL_law 1026 = .ok (.invokevirtual 151, 3) := by decide +kernel
theorem dL_law_1029 : decode cL_law 1029 = .ok (.aload_n 2, 1) := by decide +kernel
theorem dL_law_1030 : decode cL_law 1030 = .ok (.invokevirtual 154, 3) := by decide +kernel
theorem dL_law_1033 : decode cL_law 1033 = .ok (.lcmp, 1) := by decide +kernel
theorem dL_law_1034 : decode cL_law 1034 = .ok (.ifCond .eq 5, 3) := by decide +kernel
theorem dL_law_1037 : decode cL_law 1037 = .ok (.iconst 0, 1) := by decide +kernel
theorem dL_law_1038 : decode cL_law 1038 = .ok (.ireturn, 1) := by decide +kernel
theorem dL_law_1039 : decode cL_law 1039 = .ok (.iinc 3 4, 3) := by decide +kernel
theorem dL_law_1042 : decode cL_law 1042 = .ok (.goto (-1024), 3) := by decide +kernel
theorem dL_law_1045 : decode cL_law 1045 = .ok (.iconst 1, 1) := by decide +kernel
theorem dL_law_1046 : decode cL_law 1046 = .ok (.ireturn, 1) := by decide +kernel
