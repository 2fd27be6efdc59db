theorem dX8_init_0 : decode cX8_init 0 = .ok (.aload_n 0, 1) := by decide +kernel
theorem dX8_init_1 : decode cX8_init 1 = .ok (.invokespecial 1, 3) := by decide +kernel
theorem dX8_init_4 : decode cX8_init 4 = .ok (.aload_n 0, 1) := by decide +kernel
theorem dX8_init_5 : decode cX8_init 5 = .ok (.new 7, 3) := by decide +kernel
theorem dX8_init_8 : decode cX8_init 8 = .ok (.dup, 1) := by decide +kernel
theorem dX8_init_9 : decode cX8_init 9 = .ok (.invokespecial 9, 3) := by decide +kernel
theorem dX8_init_12 : decode cX8_init 12 = .ok (.putfield 10, 3) := by decide +kernel
theorem dX8_init_15 : decode cX8_init 15 = .ok (.aload_n 0, 1) := by decide +kernel
theorem dX8_init_16 : decode cX8_init 16 = .ok (.new 7, 3) := by decide +kernel
theorem dX8_init_19 : decode cX8_init 19 = .ok (.dup, 1) := by decide +kernel
theorem dX8_init_20 : decode cX8_init 20 = .ok (.invokespecial 9, 3) := by decide +kernel
theorem dX8_init_23 : decode cX8_init 23 = .ok (.putfield 16, 3) := by decide +kernel
theorem dX8_init_26 : decode cX8_init 26 = .ok (.return_, 1) := by decide +kernel
theorem dX8_addHalt_0 : decode cX8_addHalt 0 = .ok (.aload_n 0, 1) := by decide +kernel
theorem dX8_addHalt_1 : decode cX8_addHalt 1 = .ok (.getfield 10, 3) := by decide +kernel
theorem dX8_addHalt_4 : decode cX8_addHalt 4 = .ok (.getfield 19, 3) := by decide +kernel
theorem dX8_addHalt_7 : decode cX8_addHalt 7 = .ok (.invokevirtual 23, 3) := by decide +kernel
theorem dX8_addHalt_10 : decode cX8_addHalt 10 = .ok (.istore_n 1, 1) := by decide +kernel
theorem dX8_addHalt_11 : decode cX8_addHalt 11 = .ok (.iload_n 1, 1) := by decide +kernel
theorem dX8_addHalt_12 : decode cX8_addHalt 12 = .ok (.bipush 8, 2) := by decide +kernel
theorem dX8_addHalt_14 : decode cX8_addHalt 14 = .ok (.if_icmp .lt 13, 3) := by decide +kernel
theorem dX8_addHalt_17 : decode cX8_addHalt 17 = .ok (.new 29, 3) := by decide +kernel
theorem dX8_addHalt_20 : decode cX8_addHalt 20 = .ok (.dup, 1) := by decide +kernel
theorem dX8_addHalt_21 : decode cX8_addHalt 21 = .ok (.ldc 31, 2) := by decide +kernel
theorem dX8_addHalt_23 : decode cX8_addHalt 23 = .ok (.invokespecial 33, 3) := by decide +kernel
theorem dX8_addHalt_26 : decode cX8_addHalt 26 = .ok (.athrow, 1) := by decide +kernel
theorem dX8_addHalt_27 : decode cX8_addHalt 27 = .ok (.aload_n 0, 1) := by decide +kernel
theorem dX8_addHalt_28 : decode cX8_addHalt 28 = .ok (.getfield 10, 3) := by decide +kernel
theorem dX8_addHalt_31 : decode cX8_addHalt 31 = .ok (.getfield 19, 3) := by decide +kernel
theorem dX8_addHalt_34 : decode cX8_addHalt 34 = .ok (.new 36, 3) := by decide +kernel
theorem dX8_addHalt_37 : decode cX8_addHalt 37 = .ok (.dup, 1) := by decide +kernel
theorem dX8_addHalt_38 : decode cX8_addHalt 38 = .ok (.invokespecial 38, 3) := by decide +kernel
theorem dX8_addHalt_41 : decode cX8_addHalt 41 = .ok (.invokevirtual 39, 3) := by decide +kernel
theorem dX8_addHalt_44 : decode cX8_addHalt 44 = .ok (.pop, 1) := by decide +kernel
theorem dX8_addHalt_45 : decode cX8_addHalt 45 = .ok (.aload_n 0, 1) := by decide +kernel
theorem dX8_addHalt_46 : decode cX8_addHalt 46 = .ok (.getfield 16, 3) := by decide +kernel
theorem dX8_addHalt_49 : decode cX8_addHalt 49 = .ok (.getfield 19, 3) := by decide +kernel
theorem dX8_addHalt_52 : decode cX8_addHalt 52 = .ok (.new 36, 3) := by decide +kernel
theorem dX8_addHalt_55 : decode cX8_addHalt 55 = .ok (.dup, 1) := by decide +kernel
theorem dX8_addHalt_56 : decode cX8_addHalt 56 = .ok (.invokespecial 38, 3) := by decide +kernel
theorem dX8_addHalt_59 : decode cX8_addHalt 59 = .ok (.invokevirtual 39, 3) := by decide +kernel
theorem dX8_addHalt_62 : decode cX8_addHalt 62 = .ok (.pop, 1) := by decide +kernel
theorem dX8_addHalt_63 : decode cX8_addHalt 63 = .ok (.iload_n 1, 1) := by decide +kernel
theorem dX8_addHalt_64 : decode cX8_addHalt 64 = .ok (.ireturn, 1) := by decide +kernel
theorem dX8_addLane_0 : decode cX8_addLane 0 = .ok (.aload_n 0, 1) := by decide +kernel
theorem dX8_addLane_1 : decode cX8_addLane 1 = .ok (.iload_n 1, 1) := by decide +kernel
theorem dX8_addLane_2 : decode cX8_addLane 2 = .ok (.invokevirtual 43, 3) := by decide +kernel
theorem dX8_addLane_5 : decode cX8_addLane 5 = .ok (.aload_n 0, 1) := by decide +kernel
theorem dX8_addLane_6 : decode cX8_addLane 6 = .ok (.iload_n 2, 1) := by decide +kernel
theorem dX8_addLane_7 : decode cX8_addLane 7 = .ok (.invokevirtual 43, 3) := by decide +kernel
theorem dX8_addLane_10 : decode cX8_addLane 10 = .ok (.iload_n 1, 1) := by decide +kernel
theorem dX8_addLane_11 : decode cX8_addLane 11 = .ok (.iload_n 2, 1) := by decide +kernel
theorem dX8_addLane_12 : decode cX8_addLane 12 = .ok (.if_icmp .ne 13, 3) := by decide +kernel
theorem dX8_addLane_15 : decode cX8_addLane 15 = .ok (.new 47, 3) := by decide +kernel
theorem dX8_addLane_18 : decode cX8_addLane 18 = .ok (.dup, 1) := by decide +kernel
theorem dX8_addLane_19 : decode cX8_addLane 19 = .ok (.ldc 49, 2) := by decide +kernel
theorem dX8_addLane_21 : decode cX8_addLane 21 = .ok (.invokespecial 51, 3) := by decide +kernel
theorem dX8_addLane_24 : decode cX8_addLane 24 = .ok (.athrow, 1) := by decide +kernel
theorem dX8_addLane_25 : decode cX8_addLane 25 = .ok (.iload_n 3, 1) := by decide +kernel
theorem dX8_addLane_26 : decode cX8_addLane 26 = .ok (.iconst 1, 1) := by decide +kernel
theorem dX8_addLane_27 : decode cX8_addLane 27 = .ok (.bipush 30, 2) := by decide +kernel
theorem dX8_addLane_29 : decode cX8_addLane 29 = .ok (.invokestatic 52, 3) := by decide +kernel
theorem dX8_addLane_32 : decode cX8_addLane 32 = .ok (.ifCond .ne 13, 3) := by decide +kernel
theorem dX8_addLane_35 : decode cX8_addLane 35 = .ok (.new 47, 3) := by decide +kernel
theorem dX8_addLane_38 : decode cX8_addLane 38 = .ok (.dup, 1) := by decide +kernel
theorem dX8_addLane_39 : decode cX8_addLane 39 = .ok (.ldc 56, 2) := by decide +kernel
theorem dX8_addLane_41 : decode cX8_addLane 41 = .ok (.invokespecial 51, 3) := by decide +kernel
theorem dX8_addLane_44 : decode cX8_addLane 44 = .ok (.athrow, 1) := by decide +kernel
theorem dX8_addLane_45 : decode cX8_addLane 45 = .ok (.iload 4, 2) := by decide +kernel
theorem dX8_addLane_47 : decode cX8_addLane 47 = .ok (.iconst 0, 1) := by decide +kernel
theorem dX8_addLane_48 : decode cX8_addLane 48 = .ok (.bipush 9, 2) := by decide +kernel
theorem dX8_addLane_50 : decode cX8_addLane 50 = .ok (.invokestatic 52, 3) := by decide +kernel
theorem dX8_addLane_53 : decode cX8_addLane 53 = .ok (.ifCond .ne 13, 3) := by decide +kernel
theorem dX8_addLane_56 : decode cX8_addLane 56 = .ok (.new 47, 3) := by decide +kernel
theorem dX8_addLane_59 : decode cX8_addLane 59 = .ok (.dup, 1) := by decide +kernel
theorem dX8_addLane_60 : decode cX8_addLane 60 = .ok (.ldc 58, 2) := by decide +kernel
theorem dX8_addLane_62 : decode cX8_addLane 62 = .ok (.invokespecial 51, 3) := by decide +kernel
theorem dX8_addLane_65 : decode cX8_addLane 65 = .ok (.athrow, 1) := by decide +kernel
theorem dX8_addLane_66 : decode cX8_addLane 66 = .ok (.aload_n 0, 1) := by decide +kernel
theorem dX8_addLane_67 : decode cX8_addLane 67 = .ok (.getfield 10, 3) := by decide +kernel
theorem dX8_addLane_70 : decode cX8_addLane 70 = .ok (.getfield 60, 3) := by decide +kernel
theorem dX8_addLane_73 : decode cX8_addLane 73 = .ok (.invokevirtual 23, 3) := by decide +kernel
theorem dX8_addLane_76 : decode cX8_addLane 76 = .ok (.istore 5, 2) := by decide +kernel
theorem dX8_addLane_78 : decode cX8_addLane 78 = .ok (.iload 5, 2) := by decide +kernel
theorem dX8_addLane_80 : decode cX8_addLane 80 = .ok (.bipush 16, 2) := by decide +kernel
theorem dX8_addLane_82 : decode cX8_addLane 82 = .ok (.if_icmp .lt 13, 3) := by decide +kernel
theorem dX8_addLane_85 : decode cX8_addLane 85 = .ok (.new 29, 3) := by decide +kernel
theorem dX8_addLane_88 : decode cX8_addLane 88 = .ok (.dup, 1) := by decide +kernel
theorem dX8_addLane_89 : decode cX8_addLane 89 = .ok (.ldc 63, 2) := by decide +kernel
theorem dX8_addLane_91 : decode cX8_addLane 91 = .ok (.invokespecial 33, 3) := by decide +kernel
theorem dX8_addLane_94 : decode cX8_addLane 94 = .ok (.athrow, 1) := by decide +kernel
theorem dX8_addLane_95 : decode cX8_addLane 95 = .ok (.aload_n 0, 1) := by decide +kernel
theorem dX8_addLane_96 : decode cX8_addLane 96 = .ok (.getfield 10, 3) := by decide +kernel
theorem dX8_addLane_99 : decode cX8_addLane 99 = .ok (.getfield 60, 3) := by decide +kernel
theorem dX8_addLane_102 : decode cX8_addLane 102 = .ok (.new 65, 3) := by decide +kernel
theorem dX8_addLane_105 : decode cX8_addLane 105 = .ok (.dup, 1) := by decide +kernel
theorem dX8_addLane_106 : decode cX8_addLane 106 = .ok (.iload_n 1, 1) := by decide +kernel
theorem dX8_addLane_107 : decode cX8_addLane 107 = .ok (.iload_n 2, 1) := by decide +kernel
theorem dX8_addLane_108 : decode cX8_addLane 108 = .ok (.iload_n 3, 1) := by decide +kernel
theorem dX8_addLane_109 : decode cX8_addLane 109 = .ok (.iload 4, 2) := by decide +kernel
theorem dX8_addLane_111 : decode cX8_addLane 111 = .ok (.invokespecial 67, 3) := by decide +kernel
theorem dX8_addLane_114 : decode cX8_addLane 114 = .ok (.invokevirtual 39, 3) := by decide +kernel
theorem dX8_addLane_117 : decode cX8_addLane 117 = .ok (.pop, 1) := by decide +kernel
theorem dX8_addLane_118 : decode cX8_addLane 118 = .ok (.aload_n 0, 1) := by decide +kernel
theorem dX8_addLane_119 : decode cX8_addLane 119 = .ok (.getfield 16, 3) := by decide +kernel
theorem dX8_addLane_122 : decode cX8_addLane 122 = .ok (.getfield 60, 3) := by decide +kernel
theorem dX8_addLane_125 : decode cX8_addLane 125 = .ok (.new 65, 3) := by decide +kernel
theorem dX8_addLane_128 : decode cX8_addLane 128 = .ok (.dup, 1) := by decide +kernel
theorem dX8_addLane_129 : decode cX8_addLane 129 = .ok (.iload_n 1, 1) := by decide +kernel
theorem dX8_addLane_130 : decode cX8_addLane 130 = .ok (.iload_n 2, 1) := by decide +kernel
theorem dX8_addLane_131 : decode cX8_addLane 131 = .ok (.iload_n 3, 1) := by decide +kernel
theorem dX8_addLane_132 : decode cX8_addLane 132 = .ok (.iload 4, 2) := by decide +kernel
theorem dX8_addLane_134 : decode cX8_addLane 134 = .ok (.invokespecial 67, 3) := by decide +kernel
theorem dX8_addLane_137 : decode cX8_addLane 137 = .ok (.invokevirtual 39, 3) := by decide +kernel
theorem dX8_addLane_140 : decode cX8_addLane 140 = .ok (.pop, 1) := by decide +kernel
theorem dX8_addLane_141 : decode cX8_addLane 141 = .ok (.iload 5, 2) := by decide +kernel
theorem dX8_addLane_143 : decode cX8_addLane 143 = .ok (.ireturn, 1) := by decide +kernel
theorem dX8_setRain_0 : decode cX8_setRain 0 = .ok (.iload_n 1, 1) := by decide +kernel
theorem dX8_setRain_1 : decode cX8_setRain 1 = .ok (.bipush 7, 2) := by decide +kernel
theorem dX8_setRain_3 : decode cX8_setRain 3 = .ok (.invokestatic 70, 3) := by decide +kernel
theorem dX8_setRain_6 : decode cX8_setRain 6 = .ok (.iload_n 2, 1) := by decide +kernel
theorem dX8_setRain_7 : decode cX8_setRain 7 = .ok (.iconst 0, 1) := by decide +kernel
theorem dX8_setRain_8 : decode cX8_setRain 8 = .ok (.bipush 9, 2) := by decide +kernel
theorem dX8_setRain_10 : decode cX8_setRain 10 = .ok (.invokestatic 52, 3) := by decide +kernel
theorem dX8_setRain_13 : decode cX8_setRain 13 = .ok (.ifCond .ne 13, 3) := by decide +kernel
theorem dX8_setRain_16 : decode cX8_setRain 16 = .ok (.new 47, 3) := by decide +kernel
theorem dX8_setRain_19 : decode cX8_setRain 19 = .ok (.dup, 1) := by decide +kernel
theorem dX8_setRain_20 : decode cX8_setRain 20 = .ok (.ldc 74, 2) := by decide +kernel
theorem dX8_setRain_22 : decode cX8_setRain 22 = .ok (.invokespecial 51, 3) := by decide +kernel
theorem dX8_setRain_25 : decode cX8_setRain 25 = .ok (.athrow, 1) := by decide +kernel
theorem dX8_setRain_26 : decode cX8_setRain 26 = .ok (.aload_n 0, 1) := by decide +kernel
theorem dX8_setRain_27 : decode cX8_setRain 27 = .ok (.getfield 10, 3) := by decide +kernel
theorem dX8_setRain_30 : decode cX8_setRain 30 = .ok (.iload_n 1, 1) := by decide +kernel
theorem dX8_setRain_31 : decode cX8_setRain 31 = .ok (.iload_n 2, 1) := by decide +kernel
theorem dX8_setRain_32 : decode cX8_setRain 32 = .ok (.invokevirtual 76, 3) := by decide +kernel
theorem dX8_setRain_35 : decode cX8_setRain 35 = .ok (.ireturn, 1) := by decide +kernel
theorem dX8_setRound_0 : decode cX8_setRound 0 = .ok (.iload_n 1, 1) := by decide +kernel
theorem dX8_setRound_1 : decode cX8_setRound 1 = .ok (.iconst 0, 1) := by decide +kernel
theorem dX8_setRound_2 : decode cX8_setRound 2 = .ok (.ldc 80, 2) := by decide +kernel
theorem dX8_setRound_4 : decode cX8_setRound 4 = .ok (.invokestatic 52, 3) := by decide +kernel
theorem dX8_setRound_7 : decode cX8_setRound 7 = .ok (.ifCond .ne 13, 3) := by decide +kernel
theorem dX8_setRound_10 : decode cX8_setRound 10 = .ok (.new 47, 3) := by decide +kernel
theorem dX8_setRound_13 : decode cX8_setRound 13 = .ok (.dup, 1) := by decide +kernel
theorem dX8_setRound_14 : decode cX8_setRound 14 = .ok (.ldc 81, 2) := by decide +kernel
theorem dX8_setRound_16 : decode cX8_setRound 16 = .ok (.invokespecial 51, 3) := by decide +kernel
theorem dX8_setRound_19 : decode cX8_setRound 19 = .ok (.athrow, 1) := by decide +kernel
theorem dX8_setRound_20 : decode cX8_setRound 20 = .ok (.iload_n 1, 1) := by decide +kernel
theorem dX8_setRound_21 : decode cX8_setRound 21 = .ok (.aload_n 0, 1) := by decide +kernel
theorem dX8_setRound_22 : decode cX8_setRound 22 = .ok (.getfield 10, 3) := by decide +kernel
theorem dX8_setRound_25 : decode cX8_setRound 25 = .ok (.getfield 19, 3) := by decide +kernel
theorem dX8_setRound_28 : decode cX8_setRound 28 = .ok (.invokevirtual 23, 3) := by decide +kernel
theorem dX8_setRound_31 : decode cX8_setRound 31 = .ok (.invokestatic 83, 3) := by decide +kernel
theorem dX8_setRound_34 : decode cX8_setRound 34 = .ok (.ifCond .ne 13, 3) := by decide +kernel
theorem dX8_setRound_37 : decode cX8_setRound 37 = .ok (.new 47, 3) := by decide +kernel
theorem dX8_setRound_40 : decode cX8_setRound 40 = .ok (.dup, 1) := by decide +kernel
theorem dX8_setRound_41 : decode cX8_setRound 41 = .ok (.ldc 87, 2) := by decide +kernel
theorem dX8_setRound_43 : decode cX8_setRound 43 = .ok (.invokespecial 51, 3) := by decide +kernel
theorem dX8_setRound_46 : decode cX8_setRound 46 = .ok (.athrow, 1) := by decide +kernel
theorem dX8_setRound_47 : decode cX8_setRound 47 = .ok (.iload_n 2, 1) := by decide +kernel
theorem dX8_setRound_48 : decode cX8_setRound 48 = .ok (.bipush 10, 2) := by decide +kernel
theorem dX8_setRound_50 : decode cX8_setRound 50 = .ok (.sipush 300, 3) := by decide +kernel
theorem dX8_setRound_53 : decode cX8_setRound 53 = .ok (.invokestatic 52, 3) := by decide +kernel
theorem dX8_setRound_56 : decode cX8_setRound 56 = .ok (.ifCond .ne 13, 3) := by decide +kernel
theorem dX8_setRound_59 : decode cX8_setRound 59 = .ok (.new 47, 3) := by decide +kernel
theorem dX8_setRound_62 : decode cX8_setRound 62 = .ok (.dup, 1) := by decide +kernel
theorem dX8_setRound_63 : decode cX8_setRound 63 = .ok (.ldc 89, 2) := by decide +kernel
theorem dX8_setRound_65 : decode cX8_setRound 65 = .ok (.invokespecial 51, 3) := by decide +kernel
theorem dX8_setRound_68 : decode cX8_setRound 68 = .ok (.athrow, 1) := by decide +kernel
theorem dX8_setRound_69 : decode cX8_setRound 69 = .ok (.aload_n 0, 1) := by decide +kernel
theorem dX8_setRound_70 : decode cX8_setRound 70 = .ok (.getfield 10, 3) := by decide +kernel
theorem dX8_setRound_73 : decode cX8_setRound 73 = .ok (.getfield 91, 3) := by decide +kernel
theorem dX8_setRound_76 : decode cX8_setRound 76 = .ok (.iload_n 1, 1) := by decide +kernel
theorem dX8_setRound_77 : decode cX8_setRound 77 = .ok (.iload_n 2, 1) := by decide +kernel
theorem dX8_setRound_78 : decode cX8_setRound 78 = .ok (.invokevirtual 95, 3) := by decide +kernel
theorem dX8_setRound_81 : decode cX8_setRound 81 = .ok (.aload_n 0, 1) := by decide +kernel
theorem dX8_setRound_82 : decode cX8_setRound 82 = .ok (.getfield 10, 3) := by decide +kernel
theorem dX8_setRound_85 : decode cX8_setRound 85 = .ok (.getfield 91, 3) := by decide +kernel
theorem dX8_setRound_88 : decode cX8_setRound 88 = .ok (.invokevirtual 100, 3) := by decide +kernel
theorem dX8_setRound_91 : decode cX8_setRound 91 = .ok (.ireturn, 1) := by decide +kernel
theorem dX8_halt_0 : decode cX8_halt 0 = .ok (.aload_n 0, 1) := by decide +kernel
theorem dX8_halt_1 : decode cX8_halt 1 = .ok (.iload_n 1, 1) := by decide +kernel
theorem dX8_halt_2 : decode cX8_halt 2 = .ok (.invokevirtual 43, 3) := by decide +kernel
theorem dX8_halt_5 : decode cX8_halt 5 = .ok (.iload_n 2, 1) := by decide +kernel
theorem dX8_halt_6 : decode cX8_halt 6 = .ok (.iconst 5, 1) := by decide +kernel
theorem dX8_halt_7 : decode cX8_halt 7 = .ok (.invokestatic 70, 3) := by decide +kernel
theorem dX8_halt_10 : decode cX8_halt 10 = .ok (.aload_n 0, 1) := by decide +kernel
theorem dX8_halt_11 : decode cX8_halt 11 = .ok (.getfield 10, 3) := by decide +kernel
theorem dX8_halt_14 : decode cX8_halt 14 = .ok (.iload_n 1, 1) := by decide +kernel
theorem dX8_halt_15 : decode cX8_halt 15 = .ok (.iload_n 2, 1) := by decide +kernel
theorem dX8_halt_16 : decode cX8_halt 16 = .ok (.invokevirtual 101, 3) := by decide +kernel
theorem dX8_halt_19 : decode cX8_halt 19 = .ok (.ireturn, 1) := by decide +kernel
theorem dX8_lane_0 : decode cX8_lane 0 = .ok (.iload_n 1, 1) := by decide +kernel
theorem dX8_lane_1 : decode cX8_lane 1 = .ok (.aload_n 0, 1) := by decide +kernel
theorem dX8_lane_2 : decode cX8_lane 2 = .ok (.getfield 10, 3) := by decide +kernel
theorem dX8_lane_5 : decode cX8_lane 5 = .ok (.getfield 60, 3) := by decide +kernel
theorem dX8_lane_8 : decode cX8_lane 8 = .ok (.invokevirtual 23, 3) := by decide +kernel
theorem dX8_lane_11 : decode cX8_lane 11 = .ok (.invokestatic 70, 3) := by decide +kernel
theorem dX8_lane_14 : decode cX8_lane 14 = .ok (.iload_n 2, 1) := by decide +kernel
theorem dX8_lane_15 : decode cX8_lane 15 = .ok (.bipush 6, 2) := by decide +kernel
theorem dX8_lane_17 : decode cX8_lane 17 = .ok (.invokestatic 70, 3) := by decide +kernel
theorem dX8_lane_20 : decode cX8_lane 20 = .ok (.aload_n 0, 1) := by decide +kernel
theorem dX8_lane_21 : decode cX8_lane 21 = .ok (.getfield 10, 3) := by decide +kernel
theorem dX8_lane_24 : decode cX8_lane 24 = .ok (.iload_n 1, 1) := by decide +kernel
theorem dX8_lane_25 : decode cX8_lane 25 = .ok (.iload_n 2, 1) := by decide +kernel
theorem dX8_lane_26 : decode cX8_lane 26 = .ok (.invokevirtual 104, 3) := by decide +kernel
theorem dX8_lane_29 : decode cX8_lane 29 = .ok (.ireturn, 1) := by decide +kernel
theorem dX8_way_0 : decode cX8_way 0 = .ok (.aload_n 0, 1) := by decide +kernel
theorem dX8_way_1 : decode cX8_way 1 = .ok (.iload_n 1, 1) := by decide +kernel
theorem dX8_way_2 : decode cX8_way 2 = .ok (.invokevirtual 43, 3) := by decide +kernel
theorem dX8_way_5 : decode cX8_way 5 = .ok (.aload_n 0, 1) := by decide +kernel
theorem dX8_way_6 : decode cX8_way 6 = .ok (.iload_n 2, 1) := by decide +kernel
theorem dX8_way_7 : decode cX8_way 7 = .ok (.invokevirtual 43, 3) := by decide +kernel
theorem dX8_way_10 : decode cX8_way 10 = .ok (.aload_n 0, 1) := by decide +kernel
theorem dX8_way_11 : decode cX8_way 11 = .ok (.getfield 10, 3) := by decide +kernel
theorem dX8_way_14 : decode cX8_way 14 = .ok (.iload_n 1, 1) := by decide +kernel
theorem dX8_way_15 : decode cX8_way 15 = .ok (.iload_n 2, 1) := by decide +kernel
theorem dX8_way_16 : decode cX8_way 16 = .ok (.invokevirtual 107, 3) := by decide +kernel
theorem dX8_way_19 : decode cX8_way 19 = .ok (.ireturn, 1) := by decide +kernel
theorem dX8_addBook_0 : decode cX8_addBook 0 = .ok (.iload_n 1, 1) := by decide +kernel
theorem dX8_addBook_1 : decode cX8_addBook 1 = .ok (.iconst 0, 1) := by decide +kernel
theorem dX8_addBook_2 : decode cX8_addBook 2 = .ok (.iconst 5, 1) := by decide +kernel
theorem dX8_addBook_3 : decode cX8_addBook 3 = .ok (.invokestatic 52, 3) := by decide +kernel
theorem dX8_addBook_6 : decode cX8_addBook 6 = .ok (.ifCond .ne 13, 3) := by decide +kernel
theorem dX8_addBook_9 : decode cX8_addBook 9 = .ok (.new 47, 3) := by decide +kernel
theorem dX8_addBook_12 : decode cX8_addBook 12 = .ok (.dup, 1) := by decide +kernel
theorem dX8_addBook_13 : decode cX8_addBook 13 = .ok (.ldc 110, 2) := by decide +kernel
theorem dX8_addBook_15 : decode cX8_addBook 15 = .ok (.invokespecial 51, 3) := by decide +kernel
theorem dX8_addBook_18 : decode cX8_addBook 18 = .ok (.athrow, 1) := by decide +kernel
theorem dX8_addBook_19 : decode cX8_addBook 19 = .ok (.aload_n 0, 1) := by decide +kernel
theorem dX8_addBook_20 : decode cX8_addBook 20 = .ok (.getfield 10, 3) := by decide +kernel
theorem dX8_addBook_23 : decode cX8_addBook 23 = .ok (.getfield 112, 3) := by decide +kernel
theorem dX8_addBook_26 : decode cX8_addBook 26 = .ok (.invokevirtual 23, 3) := by decide +kernel
theorem dX8_addBook_29 : decode cX8_addBook 29 = .ok (.istore_n 2, 1) := by decide +kernel
theorem dX8_addBook_30 : decode cX8_addBook 30 = .ok (.iload_n 2, 1) := by decide +kernel
theorem dX8_addBook_31 : decode cX8_addBook 31 = .ok (.bipush 24, 2) := by decide +kernel
theorem dX8_addBook_33 : decode cX8_addBook 33 = .ok (.if_icmp .lt 13, 3) := by decide +kernel
theorem dX8_addBook_36 : decode cX8_addBook 36 = .ok (.new 29, 3) := by decide +kernel
theorem dX8_addBook_39 : decode cX8_addBook 39 = .ok (.dup, 1) := by decide +kernel
theorem dX8_addBook_40 : decode cX8_addBook 40 = .ok (.ldc 115, 2) := by decide +kernel
theorem dX8_addBook_42 : decode cX8_addBook 42 = .ok (.invokespecial 33, 3) := by decide +kernel
theorem dX8_addBook_45 : decode cX8_addBook 45 = .ok (.athrow, 1) := by decide +kernel
theorem dX8_addBook_46 : decode cX8_addBook 46 = .ok (.aload_n 0, 1) := by decide +kernel
theorem dX8_addBook_47 : decode cX8_addBook 47 = .ok (.getfield 10, 3) := by decide +kernel
theorem dX8_addBook_50 : decode cX8_addBook 50 = .ok (.getfield 112, 3) := by decide +kernel
theorem dX8_addBook_53 : decode cX8_addBook 53 = .ok (.new 117, 3) := by decide +kernel
theorem dX8_addBook_56 : decode cX8_addBook 56 = .ok (.dup, 1) := by decide +kernel
theorem dX8_addBook_57 : decode cX8_addBook 57 = .ok (.iload_n 2, 1) := by decide +kernel
theorem dX8_addBook_58 : decode cX8_addBook 58 = .ok (.iload_n 1, 1) := by decide +kernel
theorem dX8_addBook_59 : decode cX8_addBook 59 = .ok (.invokespecial 119, 3) := by decide +kernel
theorem dX8_addBook_62 : decode cX8_addBook 62 = .ok (.invokevirtual 39, 3) := by decide +kernel
theorem dX8_addBook_65 : decode cX8_addBook 65 = .ok (.pop, 1) := by decide +kernel
theorem dX8_addBook_66 : decode cX8_addBook 66 = .ok (.aload_n 0, 1) := by decide +kernel
theorem dX8_addBook_67 : decode cX8_addBook 67 = .ok (.getfield 16, 3) := by decide +kernel
theorem dX8_addBook_70 : decode cX8_addBook 70 = .ok (.getfield 112, 3) := by decide +kernel
theorem dX8_addBook_73 : decode cX8_addBook 73 = .ok (.new 117, 3) := by decide +kernel
theorem dX8_addBook_76 : decode cX8_addBook 76 = .ok (.dup, 1) := by decide +kernel
theorem dX8_addBook_77 : decode cX8_addBook 77 = .ok (.iload_n 2, 1) := by decide +kernel
theorem dX8_addBook_78 : decode cX8_addBook 78 = .ok (.iload_n 1, 1) := by decide +kernel
theorem dX8_addBook_79 : decode cX8_addBook 79 = .ok (.invokespecial 119, 3) := by decide +kernel
theorem dX8_addBook_82 : decode cX8_addBook 82 = .ok (.invokevirtual 39, 3) := by decide +kernel
theorem dX8_addBook_85 : decode cX8_addBook 85 = .ok (.pop, 1) := by decide +kernel
theorem dX8_addBook_86 : decode cX8_addBook 86 = .ok (.iload_n 2, 1) := by decide +kernel
theorem dX8_addBook_87 : decode cX8_addBook 87 = .ok (.ireturn, 1) := by decide +kernel
theorem dX8_addReader_0 : decode cX8_addReader 0 = .ok (.aload_n 0, 1) := by decide +kernel
theorem dX8_addReader_1 : decode cX8_addReader 1 = .ok (.iload_n 1, 1) := by decide +kernel
theorem dX8_addReader_2 : decode cX8_addReader 2 = .ok (.invokevirtual 43, 3) := by decide +kernel
theorem dX8_addReader_5 : decode cX8_addReader 5 = .ok (.iload_n 2, 1) := by decide +kernel
theorem dX8_addReader_6 : decode cX8_addReader 6 = .ok (.iconst 0, 1) := by decide +kernel
theorem dX8_addReader_7 : decode cX8_addReader 7 = .ok (.iconst 5, 1) := by decide +kernel
theorem dX8_addReader_8 : decode cX8_addReader 8 = .ok (.invokestatic 52, 3) := by decide +kernel
theorem dX8_addReader_11 : decode cX8_addReader 11 = .ok (.ifCond .ne 13, 3) := by decide +kernel
theorem dX8_addReader_14 : decode cX8_addReader 14 = .ok (.new 47, 3) := by decide +kernel
theorem dX8_addReader_17 : decode cX8_addReader 17 = .ok (.dup, 1) := by decide +kernel
theorem dX8_addReader_18 : decode cX8_addReader 18 = .ok (.ldc 110, 2) := by decide +kernel
theorem dX8_addReader_20 : decode cX8_addReader 20 = .ok (.invokespecial 51, 3) := by decide +kernel
theorem dX8_addReader_23 : decode cX8_addReader 23 = .ok (.athrow, 1) := by decide +kernel
theorem dX8_addReader_24 : decode cX8_addReader 24 = .ok (.iload_n 3, 1) := by decide +kernel
theorem dX8_addReader_25 : decode cX8_addReader 25 = .ok (.iconst 1, 1) := by decide +kernel
theorem dX8_addReader_26 : decode cX8_addReader 26 = .ok (.bipush 30, 2) := by decide +kernel
theorem dX8_addReader_28 : decode cX8_addReader 28 = .ok (.invokestatic 52, 3) := by decide +kernel
theorem dX8_addReader_31 : decode cX8_addReader 31 = .ok (.ifCond .ne 13, 3) := by decide +kernel
theorem dX8_addReader_34 : decode cX8_addReader 34 = .ok (.new 47, 3) := by decide +kernel
theorem dX8_addReader_37 : decode cX8_addReader 37 = .ok (.dup, 1) := by decide +kernel
theorem dX8_addReader_38 : decode cX8_addReader 38 = .ok (.ldc 121, 2) := by decide +kernel
theorem dX8_addReader_40 : decode cX8_addReader 40 = .ok (.invokespecial 51, 3) := by decide +kernel
theorem dX8_addReader_43 : decode cX8_addReader 43 = .ok (.athrow, 1) := by decide +kernel
theorem dX8_addReader_44 : decode cX8_addReader 44 = .ok (.aload_n 0, 1) := by decide +kernel
theorem dX8_addReader_45 : decode cX8_addReader 45 = .ok (.getfield 10, 3) := by decide +kernel
theorem dX8_addReader_48 : decode cX8_addReader 48 = .ok (.getfield 123, 3) := by decide +kernel
theorem dX8_addReader_51 : decode cX8_addReader 51 = .ok (.invokevirtual 23, 3) := by decide +kernel
theorem dX8_addReader_54 : decode cX8_addReader 54 = .ok (.istore 4, 2) := by decide +kernel
theorem dX8_addReader_56 : decode cX8_addReader 56 = .ok (.iload 4, 2) := by decide +kernel
theorem dX8_addReader_58 : decode cX8_addReader 58 = .ok (.bipush 10, 2) := by decide +kernel
theorem dX8_addReader_60 : decode cX8_addReader 60 = .ok (.if_icmp .lt 13, 3) := by decide +kernel
theorem dX8_addReader_63 : decode cX8_addReader 63 = .ok (.new 29, 3) := by decide +kernel
theorem dX8_addReader_66 : decode cX8_addReader 66 = .ok (.dup, 1) := by decide +kernel
theorem dX8_addReader_67 : decode cX8_addReader 67 = .ok (.ldc 126, 2) := by decide +kernel
theorem dX8_addReader_69 : decode cX8_addReader 69 = .ok (.invokespecial 33, 3) := by decide +kernel
theorem dX8_addReader_72 : decode cX8_addReader 72 = .ok (.athrow, 1) := by decide +kernel
theorem dX8_addReader_73 : decode cX8_addReader 73 = .ok (.aload_n 0, 1) := by decide +kernel
theorem dX8_addReader_74 : decode cX8_addReader 74 = .ok (.getfield 10, 3) := by decide +kernel
theorem dX8_addReader_77 : decode cX8_addReader 77 = .ok (.getfield 123, 3) := by decide +kernel
theorem dX8_addReader_80 : decode cX8_addReader 80 = .ok (.new 128, 3) := by decide +kernel
theorem dX8_addReader_83 : decode cX8_addReader 83 = .ok (.dup, 1) := by decide +kernel
theorem dX8_addReader_84 : decode cX8_addReader 84 = .ok (.iload 4, 2) := by decide +kernel
theorem dX8_addReader_86 : decode cX8_addReader 86 = .ok (.iload_n 1, 1) := by decide +kernel
theorem dX8_addReader_87 : decode cX8_addReader 87 = .ok (.iload_n 2, 1) := by decide +kernel
theorem dX8_addReader_88 : decode cX8_addReader 88 = .ok (.iload_n 3, 1) := by decide +kernel
theorem dX8_addReader_89 : decode cX8_addReader 89 = .ok (.invokespecial 130, 3) := by decide +kernel
theorem dX8_addReader_92 : decode cX8_addReader 92 = .ok (.invokevirtual 39, 3) := by decide +kernel
theorem dX8_addReader_95 : decode cX8_addReader 95 = .ok (.pop, 1) := by decide +kernel
theorem dX8_addReader_96 : decode cX8_addReader 96 = .ok (.aload_n 0, 1) := by decide +kernel
theorem dX8_addReader_97 : decode cX8_addReader 97 = .ok (.getfield 16, 3) := by decide +kernel
theorem dX8_addReader_100 : decode cX8_addReader 100 = .ok (.getfield 123, 3) := by decide +kernel
theorem dX8_addReader_103 : decode cX8_addReader 103 = .ok (.new 128, 3) := by decide +kernel
theorem dX8_addReader_106 : decode cX8_addReader 106 = .ok (.dup, 1) := by decide +kernel
theorem dX8_addReader_107 : decode cX8_addReader 107 = .ok (.iload 4, 2) := by decide +kernel
theorem dX8_addReader_109 : decode cX8_addReader 109 = .ok (.iload_n 1, 1) := by decide +kernel
theorem dX8_addReader_110 : decode cX8_addReader 110 = .ok (.iload_n 2, 1) := by decide +kernel
theorem dX8_addReader_111 : decode cX8_addReader 111 = .ok (.iload_n 3, 1) := by decide +kernel
theorem dX8_addReader_112 : decode cX8_addReader 112 = .ok (.invokespecial 130, 3) := by decide +kernel
theorem dX8_addReader_115 : decode cX8_addReader 115 = .ok (.invokevirtual 39, 3) := by decide +kernel
theorem dX8_addReader_118 : decode cX8_addReader 118 = .ok (.pop, 1) := by decide +kernel
theorem dX8_addReader_119 : decode cX8_addReader 119 = .ok (.iload 4, 2) := by decide +kernel
theorem dX8_addReader_121 : decode cX8_addReader 121 = .ok (.ireturn, 1) := by decide +kernel
theorem dX8_reserve_0 : decode cX8_reserve 0 = .ok (.aload_n 0, 1) := by decide +kernel
theorem dX8_reserve_1 : decode cX8_reserve 1 = .ok (.iload_n 1, 1) := by decide +kernel
theorem dX8_reserve_2 : decode cX8_reserve 2 = .ok (.invokevirtual 131, 3) := by decide +kernel
theorem dX8_reserve_5 : decode cX8_reserve 5 = .ok (.aload_n 0, 1) := by decide +kernel
theorem dX8_reserve_6 : decode cX8_reserve 6 = .ok (.iload_n 2, 1) := by decide +kernel
theorem dX8_reserve_7 : decode cX8_reserve 7 = .ok (.invokevirtual 134, 3) := by decide +kernel
theorem dX8_reserve_10 : decode cX8_reserve 10 = .ok (.aload_n 0, 1) := by decide +kernel
theorem dX8_reserve_11 : decode cX8_reserve 11 = .ok (.getfield 10, 3) := by decide +kernel
theorem dX8_reserve_14 : decode cX8_reserve 14 = .ok (.getfield 112, 3) := by decide +kernel
theorem dX8_reserve_17 : decode cX8_reserve 17 = .ok (.iload_n 2, 1) := by decide +kernel
theorem dX8_reserve_18 : decode cX8_reserve 18 = .ok (.invokevirtual 137, 3) := by decide +kernel
theorem dX8_reserve_21 : decode cX8_reserve 21 = .ok (.checkcast 117, 3) := by decide +kernel
theorem dX8_reserve_24 : decode cX8_reserve 24 = .ok (.astore_n 3, 1) := by decide +kernel
theorem dX8_reserve_25 : decode cX8_reserve 25 = .ok (.aload_n 3, 1) := by decide +kernel
theorem dX8_reserve_26 : decode cX8_reserve 26 = .ok (.getfield 141, 3) := by decide +kernel
theorem dX8_reserve_29 : decode cX8_reserve 29 = .ok (.iload_n 1, 1) := by decide +kernel
theorem dX8_reserve_30 : decode cX8_reserve 30 = .ok (.invokevirtual 145, 3) := by decide +kernel
theorem dX8_reserve_33 : decode cX8_reserve 33 = .ok (.iconst (-1), 1) := by decide +kernel
theorem dX8_reserve_34 : decode cX8_reserve 34 = .ok (.if_icmp .eq 13, 3) := by decide +kernel
theorem dX8_reserve_37 : decode cX8_reserve 37 = .ok (.new 29, 3) := by decide +kernel
theorem dX8_reserve_40 : decode cX8_reserve 40 = .ok (.dup, 1) := by decide +kernel
theorem dX8_reserve_41 : decode cX8_reserve 41 = .ok (.ldc 151, 2) := by decide +kernel
theorem dX8_reserve_43 : decode cX8_reserve 43 = .ok (.invokespecial 33, 3) := by decide +kernel
theorem dX8_reserve_46 : decode cX8_reserve 46 = .ok (.athrow, 1) := by decide +kernel
theorem dX8_reserve_47 : decode cX8_reserve 47 = .ok (.aload_n 3, 1) := by decide +kernel
theorem dX8_reserve_48 : decode cX8_reserve 48 = .ok (.getfield 153, 3) := by decide +kernel
theorem dX8_reserve_51 : decode cX8_reserve 51 = .ok (.iload_n 1, 1) := by decide +kernel
theorem dX8_reserve_52 : decode cX8_reserve 52 = .ok (.if_icmp .ne 13, 3) := by decide +kernel
theorem dX8_reserve_55 : decode cX8_reserve 55 = .ok (.new 29, 3) := by decide +kernel
theorem dX8_reserve_58 : decode cX8_reserve 58 = .ok (.dup, 1) := by decide +kernel
theorem dX8_reserve_59 : decode cX8_reserve 59 = .ok (.ldc 157, 2) := by decide +kernel
theorem dX8_reserve_61 : decode cX8_reserve 61 = .ok (.invokespecial 33, 3) := by decide +kernel
theorem dX8_reserve_64 : decode cX8_reserve 64 = .ok (.athrow, 1) := by decide +kernel
theorem dX8_reserve_65 : decode cX8_reserve 65 = .ok (.aload_n 3, 1) := by decide +kernel
theorem dX8_reserve_66 : decode cX8_reserve 66 = .ok (.getfield 141, 3) := by decide +kernel
theorem dX8_reserve_69 : decode cX8_reserve 69 = .ok (.iload_n 1, 1) := by decide +kernel
theorem dX8_reserve_70 : decode cX8_reserve 70 = .ok (.invokevirtual 159, 3) := by decide +kernel
theorem dX8_reserve_73 : decode cX8_reserve 73 = .ok (.aload_n 3, 1) := by decide +kernel
theorem dX8_reserve_74 : decode cX8_reserve 74 = .ok (.getfield 141, 3) := by decide +kernel
theorem dX8_reserve_77 : decode cX8_reserve 77 = .ok (.invokevirtual 162, 3) := by decide +kernel
theorem dX8_reserve_80 : decode cX8_reserve 80 = .ok (.ireturn, 1) := by decide +kernel
theorem dX8_cancel_0 : decode cX8_cancel 0 = .ok (.aload_n 0, 1) := by decide +kernel
theorem dX8_cancel_1 : decode cX8_cancel 1 = .ok (.iload_n 1, 1) := by decide +kernel
theorem dX8_cancel_2 : decode cX8_cancel 2 = .ok (.invokevirtual 131, 3) := by decide +kernel
theorem dX8_cancel_5 : decode cX8_cancel 5 = .ok (.aload_n 0, 1) := by decide +kernel
theorem dX8_cancel_6 : decode cX8_cancel 6 = .ok (.iload_n 2, 1) := by decide +kernel
theorem dX8_cancel_7 : decode cX8_cancel 7 = .ok (.invokevirtual 134, 3) := by decide +kernel
theorem dX8_cancel_10 : decode cX8_cancel 10 = .ok (.aload_n 0, 1) := by decide +kernel
theorem dX8_cancel_11 : decode cX8_cancel 11 = .ok (.getfield 10, 3) := by decide +kernel
theorem dX8_cancel_14 : decode cX8_cancel 14 = .ok (.getfield 112, 3) := by decide +kernel
theorem dX8_cancel_17 : decode cX8_cancel 17 = .ok (.iload_n 2, 1) := by decide +kernel
theorem dX8_cancel_18 : decode cX8_cancel 18 = .ok (.invokevirtual 137, 3) := by decide +kernel
theorem dX8_cancel_21 : decode cX8_cancel 21 = .ok (.checkcast 117, 3) := by decide +kernel
theorem dX8_cancel_24 : decode cX8_cancel 24 = .ok (.getfield 141, 3) := by decide +kernel
theorem dX8_cancel_27 : decode cX8_cancel 27 = .ok (.astore_n 3, 1) := by decide +kernel
theorem dX8_cancel_28 : decode cX8_cancel 28 = .ok (.aload_n 3, 1) := by decide +kernel
theorem dX8_cancel_29 : decode cX8_cancel 29 = .ok (.iload_n 1, 1) := by decide +kernel
theorem dX8_cancel_30 : decode cX8_cancel 30 = .ok (.invokevirtual 145, 3) := by decide +kernel
theorem dX8_cancel_33 : decode cX8_cancel 33 = .ok (.istore 4, 2) := by decide +kernel
theorem dX8_cancel_35 : decode cX8_cancel 35 = .ok (.aload_n 3, 1) := by decide +kernel
theorem dX8_cancel_36 : decode cX8_cancel 36 = .ok (.iload 4, 2) := by decide +kernel
theorem dX8_cancel_38 : decode cX8_cancel 38 = .ok (.invokevirtual 163, 3) := by decide +kernel
theorem dX8_cancel_41 : decode cX8_cancel 41 = .ok (.iload 4, 2) := by decide +kernel
theorem dX8_cancel_43 : decode cX8_cancel 43 = .ok (.ireturn, 1) := by decide +kernel
theorem dX8_book_0 : decode cX8_book 0 = .ok (.aload_n 0, 1) := by decide +kernel
theorem dX8_book_1 : decode cX8_book 1 = .ok (.iload_n 1, 1) := by decide +kernel
theorem dX8_book_2 : decode cX8_book 2 = .ok (.invokevirtual 134, 3) := by decide +kernel
theorem dX8_book_5 : decode cX8_book 5 = .ok (.iload_n 2, 1) := by decide +kernel
theorem dX8_book_6 : decode cX8_book 6 = .ok (.bipush 7, 2) := by decide +kernel
theorem dX8_book_8 : decode cX8_book 8 = .ok (.invokestatic 70, 3) := by decide +kernel
theorem dX8_book_11 : decode cX8_book 11 = .ok (.aload_n 0, 1) := by decide +kernel
theorem dX8_book_12 : decode cX8_book 12 = .ok (.getfield 10, 3) := by decide +kernel
theorem dX8_book_15 : decode cX8_book 15 = .ok (.iload_n 1, 1) := by decide +kernel
theorem dX8_book_16 : decode cX8_book 16 = .ok (.iload_n 2, 1) := by decide +kernel
theorem dX8_book_17 : decode cX8_book 17 = .ok (.invokevirtual 166, 3) := by decide +kernel
theorem dX8_book_20 : decode cX8_book 20 = .ok (.ireturn, 1) := by decide +kernel
theorem dX8_reader_0 : decode cX8_reader 0 = .ok (.aload_n 0, 1) := by decide +kernel
theorem dX8_reader_1 : decode cX8_reader 1 = .ok (.iload_n 1, 1) := by decide +kernel
theorem dX8_reader_2 : decode cX8_reader 2 = .ok (.invokevirtual 131, 3) := by decide +kernel
theorem dX8_reader_5 : decode cX8_reader 5 = .ok (.iload_n 2, 1) := by decide +kernel
theorem dX8_reader_6 : decode cX8_reader 6 = .ok (.bipush 8, 2) := by decide +kernel
theorem dX8_reader_8 : decode cX8_reader 8 = .ok (.invokestatic 70, 3) := by decide +kernel
theorem dX8_reader_11 : decode cX8_reader 11 = .ok (.aload_n 0, 1) := by decide +kernel
theorem dX8_reader_12 : decode cX8_reader 12 = .ok (.getfield 10, 3) := by decide +kernel
theorem dX8_reader_15 : decode cX8_reader 15 = .ok (.iload_n 1, 1) := by decide +kernel
theorem dX8_reader_16 : decode cX8_reader 16 = .ok (.iload_n 2, 1) := by decide +kernel
theorem dX8_reader_17 : decode cX8_reader 17 = .ok (.invokevirtual 169, 3) := by decide +kernel
theorem dX8_reader_20 : decode cX8_reader 20 = .ok (.ireturn, 1) := by decide +kernel
theorem dX8_pay_0 : decode cX8_pay 0 = .ok (.aload_n 0, 1) := by decide +kernel
theorem dX8_pay_1 : decode cX8_pay 1 = .ok (.iload_n 1, 1) := by decide +kernel
theorem dX8_pay_2 : decode cX8_pay 2 = .ok (.invokevirtual 131, 3) := by decide +kernel
theorem dX8_pay_5 : decode cX8_pay 5 = .ok (.aload_n 0, 1) := by decide +kernel
theorem dX8_pay_6 : decode cX8_pay 6 = .ok (.getfield 10, 3) := by decide +kernel
theorem dX8_pay_9 : decode cX8_pay 9 = .ok (.getfield 123, 3) := by decide +kernel
theorem dX8_pay_12 : decode cX8_pay 12 = .ok (.iload_n 1, 1) := by decide +kernel
theorem dX8_pay_13 : decode cX8_pay 13 = .ok (.invokevirtual 137, 3) := by decide +kernel
theorem dX8_pay_16 : decode cX8_pay 16 = .ok (.checkcast 128, 3) := by decide +kernel
theorem dX8_pay_19 : decode cX8_pay 19 = .ok (.astore_n 3, 1) := by decide +kernel
theorem dX8_pay_20 : decode cX8_pay 20 = .ok (.iload_n 2, 1) := by decide +kernel
theorem dX8_pay_21 : decode cX8_pay 21 = .ok (.iconst 1, 1) := by decide +kernel
theorem dX8_pay_22 : decode cX8_pay 22 = .ok (.aload_n 3, 1) := by decide +kernel
theorem dX8_pay_23 : decode cX8_pay 23 = .ok (.getfield 172, 3) := by decide +kernel
theorem dX8_pay_26 : decode cX8_pay 26 = .ok (.invokestatic 52, 3) := by decide +kernel
theorem dX8_pay_29 : decode cX8_pay 29 = .ok (.ifCond .ne 13, 3) := by decide +kernel
theorem dX8_pay_32 : decode cX8_pay 32 = .ok (.new 47, 3) := by decide +kernel
theorem dX8_pay_35 : decode cX8_pay 35 = .ok (.dup, 1) := by decide +kernel
theorem dX8_pay_36 : decode cX8_pay 36 = .ok (.ldc 175, 2) := by decide +kernel
theorem dX8_pay_38 : decode cX8_pay 38 = .ok (.invokespecial 51, 3) := by decide +kernel
theorem dX8_pay_41 : decode cX8_pay 41 = .ok (.athrow, 1) := by decide +kernel
theorem dX8_pay_42 : decode cX8_pay 42 = .ok (.aload_n 3, 1) := by decide +kernel
theorem dX8_pay_43 : decode cX8_pay 43 = .ok (.dup, 1) := by decide +kernel
theorem dX8_pay_44 : decode cX8_pay 44 = .ok (.getfield 172, 3) := by decide +kernel
theorem dX8_pay_47 : decode cX8_pay 47 = .ok (.iload_n 2, 1) := by decide +kernel
theorem dX8_pay_48 : decode cX8_pay 48 = .ok (.isub, 1) := by decide +kernel
theorem dX8_pay_49 : decode cX8_pay 49 = .ok (.putfield 172, 3) := by decide +kernel
theorem dX8_pay_52 : decode cX8_pay 52 = .ok (.aload_n 3, 1) := by decide +kernel
theorem dX8_pay_53 : decode cX8_pay 53 = .ok (.getfield 172, 3) := by decide +kernel
theorem dX8_pay_56 : decode cX8_pay 56 = .ok (.ireturn, 1) := by decide +kernel
theorem dX8_pass_0 : decode cX8_pass 0 = .ok (.iload_n 1, 1) := by decide +kernel
theorem dX8_pass_1 : decode cX8_pass 1 = .ok (.bipush 60, 2) := by decide +kernel
theorem dX8_pass_3 : decode cX8_pass 3 = .ok (.invokestatic 177, 3) := by decide +kernel
theorem dX8_pass_6 : decode cX8_pass 6 = .ok (.aload_n 0, 1) := by decide +kernel
theorem dX8_pass_7 : decode cX8_pass 7 = .ok (.getfield 10, 3) := by decide +kernel
theorem dX8_pass_10 : decode cX8_pass 10 = .ok (.invokevirtual 180, 3) := by decide +kernel
theorem dX8_pass_13 : decode cX8_pass 13 = .ok (.istore_n 2, 1) := by decide +kernel
theorem dX8_pass_14 : decode cX8_pass 14 = .ok (.aload_n 0, 1) := by decide +kernel
theorem dX8_pass_15 : decode cX8_pass 15 = .ok (.getfield 10, 3) := by decide +kernel
theorem dX8_pass_18 : decode cX8_pass 18 = .ok (.iload_n 1, 1) := by decide +kernel
theorem dX8_pass_19 : decode cX8_pass 19 = .ok (.invokevirtual 183, 3) := by decide +kernel
theorem dX8_pass_22 : decode cX8_pass 22 = .ok (.aload_n 0, 1) := by decide +kernel
theorem dX8_pass_23 : decode cX8_pass 23 = .ok (.getfield 10, 3) := by decide +kernel
theorem dX8_pass_26 : decode cX8_pass 26 = .ok (.invokevirtual 180, 3) := by decide +kernel
theorem dX8_pass_29 : decode cX8_pass 29 = .ok (.iload_n 2, 1) := by decide +kernel
theorem dX8_pass_30 : decode cX8_pass 30 = .ok (.isub, 1) := by decide +kernel
theorem dX8_pass_31 : decode cX8_pass 31 = .ok (.ireturn, 1) := by decide +kernel
theorem dX8_count_0 : decode cX8_count 0 = .ok (.iload_n 1, 1) := by decide +kernel
theorem dX8_count_1 : decode cX8_count 1 = .ok (.bipush 10, 2) := by decide +kernel
theorem dX8_count_3 : decode cX8_count 3 = .ok (.invokestatic 70, 3) := by decide +kernel
theorem dX8_count_6 : decode cX8_count 6 = .ok (.aload_n 0, 1) := by decide +kernel
theorem dX8_count_7 : decode cX8_count 7 = .ok (.getfield 10, 3) := by decide +kernel
theorem dX8_count_10 : decode cX8_count 10 = .ok (.iload_n 1, 1) := by decide +kernel
theorem dX8_count_11 : decode cX8_count 11 = .ok (.invokevirtual 186, 3) := by decide +kernel
theorem dX8_count_14 : decode cX8_count 14 = .ok (.ireturn, 1) := by decide +kernel
theorem dX8_foresee_0 : decode cX8_foresee 0 = .ok (.iload_n 1, 1) := by decide +kernel
theorem dX8_foresee_1 : decode cX8_foresee 1 = .ok (.bipush 60, 2) := by decide +kernel
theorem dX8_foresee_3 : decode cX8_foresee 3 = .ok (.invokestatic 177, 3) := by decide +kernel
theorem dX8_foresee_6 : decode cX8_foresee 6 = .ok (.iload_n 2, 1) := by decide +kernel
theorem dX8_foresee_7 : decode cX8_foresee 7 = .ok (.iconst 4, 1) := by decide +kernel
theorem dX8_foresee_8 : decode cX8_foresee 8 = .ok (.invokestatic 70, 3) := by decide +kernel
theorem dX8_foresee_11 : decode cX8_foresee 11 = .ok (.aload_n 0, 1) := by decide +kernel
theorem dX8_foresee_12 : decode cX8_foresee 12 = .ok (.getfield 16, 3) := by decide +kernel
theorem dX8_foresee_15 : decode cX8_foresee 15 = .ok (.aload_n 0, 1) := by decide +kernel
theorem dX8_foresee_16 : decode cX8_foresee 16 = .ok (.getfield 10, 3) := by decide +kernel
theorem dX8_foresee_19 : decode cX8_foresee 19 = .ok (.invokevirtual 189, 3) := by decide +kernel
theorem dX8_foresee_22 : decode cX8_foresee 22 = .ok (.aload_n 0, 1) := by decide +kernel
theorem dX8_foresee_23 : decode cX8_foresee 23 = .ok (.getfield 16, 3) := by decide +kernel
theorem dX8_foresee_26 : decode cX8_foresee 26 = .ok (.iload_n 1, 1) := by decide +kernel
theorem dX8_foresee_27 : decode cX8_foresee 27 = .ok (.invokevirtual 183, 3) := by decide +kernel
theorem dX8_foresee_30 : decode cX8_foresee 30 = .ok (.iload_n 2, 1) := by decide +kernel
theorem dX8_foresee_31 : decode cX8_foresee 31 = .ok (.tableswitch 65 0 2 #[25, 41, 57], 25) := by decide +kernel
theorem dX8_foresee_56 : decode cX8_foresee 56 = .ok (.aload_n 0, 1) := by decide +kernel
theorem dX8_foresee_57 : decode cX8_foresee 57 = .ok (.getfield 16, 3) := by decide +kernel
theorem dX8_foresee_60 : decode cX8_foresee 60 = .ok (.invokevirtual 180, 3) := by decide +kernel
theorem dX8_foresee_63 : decode cX8_foresee 63 = .ok (.aload_n 0, 1) := by decide +kernel
theorem dX8_foresee_64 : decode cX8_foresee 64 = .ok (.getfield 10, 3) := by decide +kernel
theorem dX8_foresee_67 : decode cX8_foresee 67 = .ok (.invokevirtual 180, 3) := by decide +kernel
theorem dX8_foresee_70 : decode cX8_foresee 70 = .ok (.isub, 1) := by decide +kernel
theorem dX8_foresee_71 : decode cX8_foresee 71 = .ok (.ireturn, 1) := by decide +kernel
theorem dX8_foresee_72 : decode cX8_foresee 72 = .ok (.aload_n 0, 1) := by decide +kernel
theorem dX8_foresee_73 : decode cX8_foresee 73 = .ok (.getfield 16, 3) := by decide +kernel
theorem dX8_foresee_76 : decode cX8_foresee 76 = .ok (.invokevirtual 193, 3) := by decide +kernel
theorem dX8_foresee_79 : decode cX8_foresee 79 = .ok (.aload_n 0, 1) := by decide +kernel
theorem dX8_foresee_80 : decode cX8_foresee 80 = .ok (.getfield 10, 3) := by decide +kernel
theorem dX8_foresee_83 : decode cX8_foresee 83 = .ok (.invokevirtual 193, 3) := by decide +kernel
theorem dX8_foresee_86 : decode cX8_foresee 86 = .ok (.isub, 1) := by decide +kernel
theorem dX8_foresee_87 : decode cX8_foresee 87 = .ok (.ireturn, 1) := by decide +kernel
theorem dX8_foresee_88 : decode cX8_foresee 88 = .ok (.aload_n 0, 1) := by decide +kernel
theorem dX8_foresee_89 : decode cX8_foresee 89 = .ok (.getfield 16, 3) := by decide +kernel
theorem dX8_foresee_92 : decode cX8_foresee 92 = .ok (.invokevirtual 196, 3) := by decide +kernel
theorem dX8_foresee_95 : decode cX8_foresee 95 = .ok (.ireturn, 1) := by decide +kernel
theorem dX8_foresee_96 : decode cX8_foresee 96 = .ok (.aload_n 0, 1) := by decide +kernel
theorem dX8_foresee_97 : decode cX8_foresee 97 = .ok (.getfield 16, 3) := by decide +kernel
theorem dX8_foresee_100 : decode cX8_foresee 100 = .ok (.invokevirtual 199, 3) := by decide +kernel
theorem dX8_foresee_103 : decode cX8_foresee 103 = .ok (.ireturn, 1) := by decide +kernel
theorem dX8_gets_0 : decode cX8_gets 0 = .ok (.aload_n 0, 1) := by decide +kernel
theorem dX8_gets_1 : decode cX8_gets 1 = .ok (.iload_n 1, 1) := by decide +kernel
theorem dX8_gets_2 : decode cX8_gets 2 = .ok (.invokevirtual 131, 3) := by decide +kernel
theorem dX8_gets_5 : decode cX8_gets 5 = .ok (.aload_n 0, 1) := by decide +kernel
theorem dX8_gets_6 : decode cX8_gets 6 = .ok (.iload_n 2, 1) := by decide +kernel
theorem dX8_gets_7 : decode cX8_gets 7 = .ok (.invokevirtual 134, 3) := by decide +kernel
theorem dX8_gets_10 : decode cX8_gets 10 = .ok (.aload_n 0, 1) := by decide +kernel
theorem dX8_gets_11 : decode cX8_gets 11 = .ok (.getfield 10, 3) := by decide +kernel
theorem dX8_gets_14 : decode cX8_gets 14 = .ok (.iload_n 2, 1) := by decide +kernel
theorem dX8_gets_15 : decode cX8_gets 15 = .ok (.invokevirtual 202, 3) := by decide +kernel
theorem dX8_gets_18 : decode cX8_gets 18 = .ok (.iload_n 1, 1) := by decide +kernel
theorem dX8_gets_19 : decode cX8_gets 19 = .ok (.if_icmp .ne 5, 3) := by decide +kernel
theorem dX8_gets_22 : decode cX8_gets 22 = .ok (.iconst 0, 1) := by decide +kernel
theorem dX8_gets_23 : decode cX8_gets 23 = .ok (.ireturn, 1) := by decide +kernel
theorem dX8_gets_24 : decode cX8_gets 24 = .ok (.aload_n 0, 1) := by decide +kernel
theorem dX8_gets_25 : decode cX8_gets 25 = .ok (.getfield 16, 3) := by decide +kernel
theorem dX8_gets_28 : decode cX8_gets 28 = .ok (.aload_n 0, 1) := by decide +kernel
theorem dX8_gets_29 : decode cX8_gets 29 = .ok (.getfield 10, 3) := by decide +kernel
theorem dX8_gets_32 : decode cX8_gets 32 = .ok (.invokevirtual 189, 3) := by decide +kernel
theorem dX8_gets_35 : decode cX8_gets 35 = .ok (.iconst 1, 1) := by decide +kernel
theorem dX8_gets_36 : decode cX8_gets 36 = .ok (.istore_n 3, 1) := by decide +kernel
theorem dX8_gets_37 : decode cX8_gets 37 = .ok (.iload_n 3, 1) := by decide +kernel
theorem dX8_gets_38 : decode cX8_gets 38 = .ok (.bipush 100, 2) := by decide +kernel
theorem dX8_gets_40 : decode cX8_gets 40 = .ok (.if_icmp .gt 31, 3) := by decide +kernel
theorem dX8_gets_43 : decode cX8_gets 43 = .ok (.aload_n 0, 1) := by decide +kernel
theorem dX8_gets_44 : decode cX8_gets 44 = .ok (.getfield 16, 3) := by decide +kernel
theorem dX8_gets_47 : decode cX8_gets 47 = .ok (.iconst 1, 1) := by decide +kernel
theorem dX8_gets_48 : decode cX8_gets 48 = .ok (.invokevirtual 183, 3) := by decide +kernel
theorem dX8_gets_51 : decode cX8_gets 51 = .ok (.aload_n 0, 1) := by decide +kernel
theorem dX8_gets_52 : decode cX8_gets 52 = .ok (.getfield 16, 3) := by decide +kernel
theorem dX8_gets_55 : decode cX8_gets 55 = .ok (.iload_n 2, 1) := by decide +kernel
theorem dX8_gets_56 : decode cX8_gets 56 = .ok (.invokevirtual 202, 3) := by decide +kernel
theorem dX8_gets_59 : decode cX8_gets 59 = .ok (.iload_n 1, 1) := by decide +kernel
theorem dX8_gets_60 : decode cX8_gets 60 = .ok (.if_icmp .ne 5, 3) := by decide +kernel
theorem dX8_gets_63 : decode cX8_gets 63 = .ok (.iload_n 3, 1) := by decide +kernel
theorem dX8_gets_64 : decode cX8_gets 64 = .ok (.ireturn, 1) := by decide +kernel
theorem dX8_gets_65 : decode cX8_gets 65 = .ok (.iinc 3 1, 3) := by decide +kernel
theorem dX8_gets_68 : decode cX8_gets 68 = .ok (.goto (-31), 3) := by decide +kernel
theorem dX8_gets_71 : decode cX8_gets 71 = .ok (.iconst (-1), 1) := by decide +kernel
theorem dX8_gets_72 : decode cX8_gets 72 = .ok (.ireturn, 1) := by decide +kernel
theorem dX8_advise_0 : decode cX8_advise 0 = .ok (.iload_n 1, 1) := by decide +kernel
theorem dX8_advise_1 : decode cX8_advise 1 = .ok (.bipush 30, 2) := by decide +kernel
theorem dX8_advise_3 : decode cX8_advise 3 = .ok (.invokestatic 177, 3) := by decide +kernel
theorem dX8_advise_6 : decode cX8_advise 6 = .ok (.aload_n 0, 1) := by decide +kernel
theorem dX8_advise_7 : decode cX8_advise 7 = .ok (.getfield 10, 3) := by decide +kernel
theorem dX8_advise_10 : decode cX8_advise 10 = .ok (.getfield 91, 3) := by decide +kernel
theorem dX8_advise_13 : decode cX8_advise 13 = .ok (.invokevirtual 100, 3) := by decide +kernel
theorem dX8_advise_16 : decode cX8_advise 16 = .ok (.bipush 8, 2) := by decide +kernel
theorem dX8_advise_18 : decode cX8_advise 18 = .ok (.if_icmp .lt 13, 3) := by decide +kernel
theorem dX8_advise_21 : decode cX8_advise 21 = .ok (.new 29, 3) := by decide +kernel
theorem dX8_advise_24 : decode cX8_advise 24 = .ok (.dup, 1) := by decide +kernel
theorem dX8_advise_25 : decode cX8_advise 25 = .ok (.ldc 205, 2) := by decide +kernel
theorem dX8_advise_27 : decode cX8_advise 27 = .ok (.invokespecial 33, 3) := by decide +kernel
theorem dX8_advise_30 : decode cX8_advise 30 = .ok (.athrow, 1) := by decide +kernel
theorem dX8_advise_31 : decode cX8_advise 31 = .ok (.iconst (-1), 1) := by decide +kernel
theorem dX8_advise_32 : decode cX8_advise 32 = .ok (.istore_n 2, 1) := by decide +kernel
theorem dX8_advise_33 : decode cX8_advise 33 = .ok (.aload_n 0, 1) := by decide +kernel
theorem dX8_advise_34 : decode cX8_advise 34 = .ok (.iload_n 1, 1) := by decide +kernel
theorem dX8_advise_35 : decode cX8_advise 35 = .ok (.iconst (-1), 1) := by decide +kernel
theorem dX8_advise_36 : decode cX8_advise 36 = .ok (.invokevirtual 207, 3) := by decide +kernel
theorem dX8_advise_39 : decode cX8_advise 39 = .ok (.istore_n 3, 1) := by decide +kernel
theorem dX8_advise_40 : decode cX8_advise 40 = .ok (.iconst 0, 1) := by decide +kernel
theorem dX8_advise_41 : decode cX8_advise 41 = .ok (.istore 4, 2) := by decide +kernel
theorem dX8_advise_43 : decode cX8_advise 43 = .ok (.iload 4, 2) := by decide +kernel
theorem dX8_advise_45 : decode cX8_advise 45 = .ok (.aload_n 0, 1) := by decide +kernel
theorem dX8_advise_46 : decode cX8_advise 46 = .ok (.getfield 10, 3) := by decide +kernel
theorem dX8_advise_49 : decode cX8_advise 49 = .ok (.getfield 19, 3) := by decide +kernel
theorem dX8_advise_52 : decode cX8_advise 52 = .ok (.invokevirtual 23, 3) := by decide +kernel
theorem dX8_advise_55 : decode cX8_advise 55 = .ok (.if_icmp .ge 30, 3) := by decide +kernel
theorem dX8_advise_58 : decode cX8_advise 58 = .ok (.aload_n 0, 1) := by decide +kernel
theorem dX8_advise_59 : decode cX8_advise 59 = .ok (.iload_n 1, 1) := by decide +kernel
theorem dX8_advise_60 : decode cX8_advise 60 = .ok (.iload 4, 2) := by decide +kernel
theorem dX8_advise_62 : decode cX8_advise 62 = .ok (.invokevirtual 207, 3) := by decide +kernel
theorem dX8_advise_65 : decode cX8_advise 65 = .ok (.istore 5, 2) := by decide +kernel
theorem dX8_advise_67 : decode cX8_advise 67 = .ok (.iload 5, 2) := by decide +kernel
theorem dX8_advise_69 : decode cX8_advise 69 = .ok (.iload_n 3, 1) := by decide +kernel
theorem dX8_advise_70 : decode cX8_advise 70 = .ok (.if_icmp .le 9, 3) := by decide +kernel
theorem dX8_advise_73 : decode cX8_advise 73 = .ok (.iload 4, 2) := by decide +kernel
theorem dX8_advise_75 : decode cX8_advise 75 = .ok (.istore_n 2, 1) := by decide +kernel
theorem dX8_advise_76 : decode cX8_advise 76 = .ok (.iload 5, 2) := by decide +kernel
theorem dX8_advise_78 : decode cX8_advise 78 = .ok (.istore_n 3, 1) := by decide +kernel
theorem dX8_advise_79 : decode cX8_advise 79 = .ok (.iinc 4 1, 3) := by decide +kernel
theorem dX8_advise_82 : decode cX8_advise 82 = .ok (.goto (-39), 3) := by decide +kernel
theorem dX8_advise_85 : decode cX8_advise 85 = .ok (.iload_n 2, 1) := by decide +kernel
theorem dX8_advise_86 : decode cX8_advise 86 = .ok (.ireturn, 1) := by decide +kernel
theorem dX8_daily_0 : decode cX8_daily 0 = .ok (.aload_n 0, 1) := by decide +kernel
theorem dX8_daily_1 : decode cX8_daily 1 = .ok (.getfield 10, 3) := by decide +kernel
theorem dX8_daily_4 : decode cX8_daily 4 = .ok (.getfield 210, 3) := by decide +kernel
theorem dX8_daily_7 : decode cX8_daily 7 = .ok (.ifCond .gt 5, 3) := by decide +kernel
theorem dX8_daily_10 : decode cX8_daily 10 = .ok (.dconst 0, 1) := by decide +kernel
theorem dX8_daily_11 : decode cX8_daily 11 = .ok (.dreturn, 1) := by decide +kernel
theorem dX8_daily_12 : decode cX8_daily 12 = .ok (.aload_n 0, 1) := by decide +kernel
theorem dX8_daily_13 : decode cX8_daily 13 = .ok (.getfield 10, 3) := by decide +kernel
theorem dX8_daily_16 : decode cX8_daily 16 = .ok (.invokevirtual 180, 3) := by decide +kernel
theorem dX8_daily_19 : decode cX8_daily 19 = .ok (.i2d, 1) := by decide +kernel
theorem dX8_daily_20 : decode cX8_daily 20 = .ok (.aload_n 0, 1) := by decide +kernel
theorem dX8_daily_21 : decode cX8_daily 21 = .ok (.getfield 10, 3) := by decide +kernel
theorem dX8_daily_24 : decode cX8_daily 24 = .ok (.getfield 210, 3) := by decide +kernel
theorem dX8_daily_27 : decode cX8_daily 27 = .ok (.i2d, 1) := by decide +kernel
theorem dX8_daily_28 : decode cX8_daily 28 = .ok (.ddiv, 1) := by decide +kernel
theorem dX8_daily_29 : decode cX8_daily 29 = .ok (.dreturn, 1) := by decide +kernel
theorem dX8_digest_0 : decode cX8_digest 0 = .ok (.aload_n 0, 1) := by decide +kernel
theorem dX8_digest_1 : decode cX8_digest 1 = .ok (.getfield 10, 3) := by decide +kernel
theorem dX8_digest_4 : decode cX8_digest 4 = .ok (.ldc2_w 213, 3) := by decide +kernel
theorem dX8_digest_7 : decode cX8_digest 7 = .ok (.invokevirtual 215, 3) := by decide +kernel
theorem dX8_digest_10 : decode cX8_digest 10 = .ok (.lstore_n 1, 1) := by decide +kernel
theorem dX8_digest_11 : decode cX8_digest 11 = .ok (.aload_n 0, 1) := by decide +kernel
theorem dX8_digest_12 : decode cX8_digest 12 = .ok (.getfield 10, 3) := by decide +kernel
theorem dX8_digest_15 : decode cX8_digest 15 = .ok (.lload_n 1, 1) := by decide +kernel
theorem dX8_digest_16 : decode cX8_digest 16 = .ok (.invokevirtual 219, 3) := by decide +kernel
theorem dX8_digest_19 : decode cX8_digest 19 = .ok (.lstore_n 1, 1) := by decide +kernel
theorem dX8_digest_20 : decode cX8_digest 20 = .ok (.aload_n 0, 1) := by decide +kernel
theorem dX8_digest_21 : decode cX8_digest 21 = .ok (.getfield 10, 3) := by decide +kernel
theorem dX8_digest_24 : decode cX8_digest 24 = .ok (.lload_n 1, 1) := by decide +kernel
theorem dX8_digest_25 : decode cX8_digest 25 = .ok (.invokevirtual 222, 3) := by decide +kernel
theorem dX8_digest_28 : decode cX8_digest 28 = .ok (.lreturn, 1) := by decide +kernel
theorem dX8_isWithin_0 : decode cX8_isWithin 0 = .ok (.iload_n 0, 1) := by decide +kernel
theorem dX8_isWithin_1 : decode cX8_isWithin 1 = .ok (.iload_n 1, 1) := by decide +kernel
theorem dX8_isWithin_2 : decode cX8_isWithin 2 = .ok (.if_icmp .lt 12, 3) := by decide +kernel
theorem dX8_isWithin_5 : decode cX8_isWithin 5 = .ok (.iload_n 0, 1) := by decide +kernel
theorem dX8_isWithin_6 : decode cX8_isWithin 6 = .ok (.iload_n 2, 1) := by decide +kernel
theorem dX8_isWithin_7 : decode cX8_isWithin 7 = .ok (.if_icmp .gt 7, 3) := by decide +kernel
theorem dX8_isWithin_10 : decode cX8_isWithin 10 = .ok (.iconst 1, 1) := by decide +kernel
theorem dX8_isWithin_11 : decode cX8_isWithin 11 = .ok (.goto 4, 3) := by decide +kernel
theorem dX8_isWithin_14 : decode cX8_isWithin 14 = .ok (.iconst 0, 1) := by decide +kernel
theorem dX8_isWithin_15 : decode cX8_isWithin 15 = .ok (.ireturn, 1) := by decide +kernel
theorem dX8_needKind_0 : decode cX8_needKind 0 = .ok (.iload_n 0, 1) := by decide +kernel
theorem dX8_needKind_1 : decode cX8_needKind 1 = .ok (.ifCond .lt 8, 3) := by decide +kernel
theorem dX8_needKind_4 : decode cX8_needKind 4 = .ok (.iload_n 0, 1) := by decide +kernel
theorem dX8_needKind_5 : decode cX8_needKind 5 = .ok (.iload_n 1, 1) := by decide +kernel
theorem dX8_needKind_6 : decode cX8_needKind 6 = .ok (.if_icmp .lt 13, 3) := by decide +kernel
theorem dX8_needKind_9 : decode cX8_needKind 9 = .ok (.new 225, 3) := by decide +kernel
theorem dX8_needKind_12 : decode cX8_needKind 12 = .ok (.dup, 1) := by decide +kernel
theorem dX8_needKind_13 : decode cX8_needKind 13 = .ok (.ldc 227, 2) := by decide +kernel
theorem dX8_needKind_15 : decode cX8_needKind 15 = .ok (.invokespecial 229, 3) := by decide +kernel
theorem dX8_needKind_18 : decode cX8_needKind 18 = .ok (.athrow, 1) := by decide +kernel
theorem dX8_needKind_19 : decode cX8_needKind 19 = .ok (.return_, 1) := by decide +kernel
theorem dX8_needDays_0 : decode cX8_needDays 0 = .ok (.iload_n 0, 1) := by decide +kernel
theorem dX8_needDays_1 : decode cX8_needDays 1 = .ok (.iconst 1, 1) := by decide +kernel
theorem dX8_needDays_2 : decode cX8_needDays 2 = .ok (.iload_n 1, 1) := by decide +kernel
theorem dX8_needDays_3 : decode cX8_needDays 3 = .ok (.invokestatic 52, 3) := by decide +kernel
theorem dX8_needDays_6 : decode cX8_needDays 6 = .ok (.ifCond .ne 13, 3) := by decide +kernel
theorem dX8_needDays_9 : decode cX8_needDays 9 = .ok (.new 47, 3) := by decide +kernel
theorem dX8_needDays_12 : decode cX8_needDays 12 = .ok (.dup, 1) := by decide +kernel
theorem dX8_needDays_13 : decode cX8_needDays 13 = .ok (.ldc 230, 2) := by decide +kernel
theorem dX8_needDays_15 : decode cX8_needDays 15 = .ok (.invokespecial 51, 3) := by decide +kernel
theorem dX8_needDays_18 : decode cX8_needDays 18 = .ok (.athrow, 1) := by decide +kernel
theorem dX8_needDays_19 : decode cX8_needDays 19 = .ok (.return_, 1) := by decide +kernel
theorem dX8_needHalt_0 : decode cX8_needHalt 0 = .ok (.iload_n 1, 1) := by decide +kernel
theorem dX8_needHalt_1 : decode cX8_needHalt 1 = .ok (.aload_n 0, 1) := by decide +kernel
theorem dX8_needHalt_2 : decode cX8_needHalt 2 = .ok (.getfield 10, 3) := by decide +kernel
theorem dX8_needHalt_5 : decode cX8_needHalt 5 = .ok (.getfield 19, 3) := by decide +kernel
theorem dX8_needHalt_8 : decode cX8_needHalt 8 = .ok (.invokevirtual 23, 3) := by decide +kernel
theorem dX8_needHalt_11 : decode cX8_needHalt 11 = .ok (.invokestatic 70, 3) := by decide +kernel
theorem dX8_needHalt_14 : decode cX8_needHalt 14 = .ok (.return_, 1) := by decide +kernel
theorem dX8_needBook_0 : decode cX8_needBook 0 = .ok (.iload_n 1, 1) := by decide +kernel
theorem dX8_needBook_1 : decode cX8_needBook 1 = .ok (.aload_n 0, 1) := by decide +kernel
theorem dX8_needBook_2 : decode cX8_needBook 2 = .ok (.getfield 10, 3) := by decide +kernel
theorem dX8_needBook_5 : decode cX8_needBook 5 = .ok (.getfield 112, 3) := by decide +kernel
theorem dX8_needBook_8 : decode cX8_needBook 8 = .ok (.invokevirtual 23, 3) := by decide +kernel
theorem dX8_needBook_11 : decode cX8_needBook 11 = .ok (.invokestatic 70, 3) := by decide +kernel
theorem dX8_needBook_14 : decode cX8_needBook 14 = .ok (.return_, 1) := by decide +kernel
theorem dX8_needReader_0 : decode cX8_needReader 0 = .ok (.iload_n 1, 1) := by decide +kernel
theorem dX8_needReader_1 : decode cX8_needReader 1 = .ok (.aload_n 0, 1) := by decide +kernel
theorem dX8_needReader_2 : decode cX8_needReader 2 = .ok (.getfield 10, 3) := by decide +kernel
theorem dX8_needReader_5 : decode cX8_needReader 5 = .ok (.getfield 123, 3) := by decide +kernel
theorem dX8_needReader_8 : decode cX8_needReader 8 = .ok (.invokevirtual 23, 3) := by decide +kernel
theorem dX8_needReader_11 : decode cX8_needReader 11 = .ok (.invokestatic 70, 3) := by decide +kernel
theorem dX8_needReader_14 : decode cX8_needReader 14 = .ok (.return_, 1) := by decide +kernel
theorem dX8_standsForHalts_0 : decode cX8_standsForHalts 0 = .ok (.iload_n 0, 1) := by decide +kernel
theorem dX8_standsForHalts_1 : decode cX8_standsForHalts 1 = .ok (.istore_n 2, 1) := by decide +kernel
theorem dX8_standsForHalts_2 : decode cX8_standsForHalts 2 = .ok (.iload_n 2, 1) := by decide +kernel
theorem dX8_standsForHalts_3 : decode cX8_standsForHalts 3 = .ok (.ifCond .le 25, 3) := by decide +kernel
theorem dX8_standsForHalts_6 : decode cX8_standsForHalts 6 = .ok (.iload_n 2, 1) := by decide +kernel
theorem dX8_standsForHalts_7 : decode cX8_standsForHalts 7 = .ok (.bipush 10, 2) := by decide +kernel
theorem dX8_standsForHalts_9 : decode cX8_standsForHalts 9 = .ok (.irem, 1) := by decide +kernel
theorem dX8_standsForHalts_10 : decode cX8_standsForHalts 10 = .ok (.iconst 1, 1) := by decide +kernel
theorem dX8_standsForHalts_11 : decode cX8_standsForHalts 11 = .ok (.iload_n 1, 1) := by decide +kernel
theorem dX8_standsForHalts_12 : decode cX8_standsForHalts 12 = .ok (.invokestatic 52, 3) := by decide +kernel
theorem dX8_standsForHalts_15 : decode cX8_standsForHalts 15 = .ok (.ifCond .ne 5, 3) := by decide +kernel
theorem dX8_standsForHalts_18 : decode cX8_standsForHalts 18 = .ok (.iconst 0, 1) := by decide +kernel
theorem dX8_standsForHalts_19 : decode cX8_standsForHalts 19 = .ok (.ireturn, 1) := by decide +kernel
theorem dX8_standsForHalts_20 : decode cX8_standsForHalts 20 = .ok (.iload_n 2, 1) := by decide +kernel
theorem dX8_standsForHalts_21 : decode cX8_standsForHalts 21 = .ok (.bipush 10, 2) := by decide +kernel
theorem dX8_standsForHalts_23 : decode cX8_standsForHalts 23 = .ok (.idiv, 1) := by decide +kernel
theorem dX8_standsForHalts_24 : decode cX8_standsForHalts 24 = .ok (.istore_n 2, 1) := by decide +kernel
theorem dX8_standsForHalts_25 : decode cX8_standsForHalts 25 = .ok (.goto (-23), 3) := by decide +kernel
theorem dX8_standsForHalts_28 : decode cX8_standsForHalts 28 = .ok (.iconst 1, 1) := by decide +kernel
theorem dX8_standsForHalts_29 : decode cX8_standsForHalts 29 = .ok (.ireturn, 1) := by decide +kernel
theorem dX8_loansAhead_0 : decode cX8_loansAhead 0 = .ok (.aload_n 0, 1) := by decide +kernel
theorem dX8_loansAhead_1 : decode cX8_loansAhead 1 = .ok (.getfield 16, 3) := by decide +kernel
theorem dX8_loansAhead_4 : decode cX8_loansAhead 4 = .ok (.aload_n 0, 1) := by decide +kernel
theorem dX8_loansAhead_5 : decode cX8_loansAhead 5 = .ok (.getfield 10, 3) := by decide +kernel
theorem dX8_loansAhead_8 : decode cX8_loansAhead 8 = .ok (.invokevirtual 189, 3) := by decide +kernel
theorem dX8_loansAhead_11 : decode cX8_loansAhead 11 = .ok (.iload_n 2, 1) := by decide +kernel
theorem dX8_loansAhead_12 : decode cX8_loansAhead 12 = .ok (.iconst (-1), 1) := by decide +kernel
theorem dX8_loansAhead_13 : decode cX8_loansAhead 13 = .ok (.if_icmp .eq 14, 3) := by decide +kernel
theorem dX8_loansAhead_16 : decode cX8_loansAhead 16 = .ok (.aload_n 0, 1) := by decide +kernel
theorem dX8_loansAhead_17 : decode cX8_loansAhead 17 = .ok (.getfield 16, 3) := by decide +kernel
theorem dX8_loansAhead_20 : decode cX8_loansAhead 20 = .ok (.getfield 91, 3) := by decide +kernel
theorem dX8_loansAhead_23 : decode cX8_loansAhead 23 = .ok (.iload_n 2, 1) := by decide +kernel
theorem dX8_loansAhead_24 : decode cX8_loansAhead 24 = .ok (.invokevirtual 232, 3) := by decide +kernel
theorem dX8_loansAhead_27 : decode cX8_loansAhead 27 = .ok (.aload_n 0, 1) := by decide +kernel
theorem dX8_loansAhead_28 : decode cX8_loansAhead 28 = .ok (.getfield 16, 3) := by decide +kernel
theorem dX8_loansAhead_31 : decode cX8_loansAhead 31 = .ok (.iload_n 1, 1) := by decide +kernel
theorem dX8_loansAhead_32 : decode cX8_loansAhead 32 = .ok (.invokevirtual 183, 3) := by decide +kernel
theorem dX8_loansAhead_35 : decode cX8_loansAhead 35 = .ok (.aload_n 0, 1) := by decide +kernel
theorem dX8_loansAhead_36 : decode cX8_loansAhead 36 = .ok (.getfield 16, 3) := by decide +kernel
theorem dX8_loansAhead_39 : decode cX8_loansAhead 39 = .ok (.invokevirtual 180, 3) := by decide +kernel
theorem dX8_loansAhead_42 : decode cX8_loansAhead 42 = .ok (.aload_n 0, 1) := by decide +kernel
theorem dX8_loansAhead_43 : decode cX8_loansAhead 43 = .ok (.getfield 10, 3) := by decide +kernel
theorem dX8_loansAhead_46 : decode cX8_loansAhead 46 = .ok (.invokevirtual 180, 3) := by decide +kernel
theorem dX8_loansAhead_49 : decode cX8_loansAhead 49 = .ok (.isub, 1) := by decide +kernel
theorem dX8_loansAhead_50 : decode cX8_loansAhead 50 = .ok (.ireturn, 1) := by decide +kernel
theorem dX8_mix_0 : decode cX8_mix 0 = .ok (.lload_n 0, 1) := by decide +kernel
theorem dX8_mix_1 : decode cX8_mix 1 = .ok (.ldc2_w 235, 3) := by decide +kernel
theorem dX8_mix_4 : decode cX8_mix 4 = .ok (.lmul, 1) := by decide +kernel
theorem dX8_mix_5 : decode cX8_mix 5 = .ok (.lload_n 2, 1) := by decide +kernel
theorem dX8_mix_6 : decode cX8_mix 6 = .ok (.ladd, 1) := by decide +kernel
theorem dX8_mix_7 : decode cX8_mix 7 = .ok (.lreturn, 1) := by decide +kernel
theorem dX8_copyRow_0 : decode cX8_copyRow 0 = .ok (.iconst 0, 1) := by decide +kernel
theorem dX8_copyRow_1 : decode cX8_copyRow 1 = .ok (.istore_n 2, 1) := by decide +kernel
theorem dX8_copyRow_2 : decode cX8_copyRow 2 = .ok (.iload_n 2, 1) := by decide +kernel
theorem dX8_copyRow_3 : decode cX8_copyRow 3 = .ok (.aload_n 0, 1) := by decide +kernel
theorem dX8_copyRow_4 : decode cX8_copyRow 4 = .ok (.arraylength, 1) := by decide +kernel
theorem dX8_copyRow_5 : decode cX8_copyRow 5 = .ok (.if_icmp .ge 21, 3) := by decide +kernel
theorem dX8_copyRow_8 : decode cX8_copyRow 8 = .ok (.iload_n 2, 1) := by decide +kernel
theorem dX8_copyRow_9 : decode cX8_copyRow 9 = .ok (.aload_n 1, 1) := by decide +kernel
theorem dX8_copyRow_10 : decode cX8_copyRow 10 = .ok (.arraylength, 1) := by decide +kernel
theorem dX8_copyRow_11 : decode cX8_copyRow 11 = .ok (.if_icmp .ge 15, 3) := by decide +kernel
theorem dX8_copyRow_14 : decode cX8_copyRow 14 = .ok (.aload_n 1, 1) := by decide +kernel
theorem dX8_copyRow_15 : decode cX8_copyRow 15 = .ok (.iload_n 2, 1) := by decide +kernel
theorem dX8_copyRow_16 : decode cX8_copyRow 16 = .ok (.aload_n 0, 1) := by decide +kernel
theorem dX8_copyRow_17 : decode cX8_copyRow 17 = .ok (.iload_n 2, 1) := by decide +kernel
theorem dX8_copyRow_18 : decode cX8_copyRow 18 = .ok (.iaload, 1) := by decide +kernel
theorem dX8_copyRow_19 : decode cX8_copyRow 19 = .ok (.iastore, 1) := by decide +kernel
theorem dX8_copyRow_20 : decode cX8_copyRow 20 = .ok (.iinc 2 1, 3) := by decide +kernel
theorem dX8_copyRow_23 : decode cX8_copyRow 23 = .ok (.goto (-21), 3) := by decide +kernel
theorem dX8_copyRow_26 : decode cX8_copyRow 26 = .ok (.return_, 1) := by decide +kernel
