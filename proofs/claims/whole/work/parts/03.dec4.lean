theorem dX10_init_0 : decode cX10_init 0 = .ok (.aload_n 0, 1) := by decide +kernel
theorem dX10_init_1 : decode cX10_init 1 = .ok (.invokespecial 1, 3) := by decide +kernel
theorem dX10_init_4 : decode cX10_init 4 = .ok (.aload_n 0, 1) := by decide +kernel
theorem dX10_init_5 : decode cX10_init 5 = .ok (.bipush 64, 2) := by decide +kernel
theorem dX10_init_7 : decode cX10_init 7 = .ok (.newarray .int, 2) := by decide +kernel
theorem dX10_init_9 : decode cX10_init 9 = .ok (.putfield 9, 3) := by decide +kernel
theorem dX10_init_12 : decode cX10_init 12 = .ok (.aload_n 0, 1) := by decide +kernel
theorem dX10_init_13 : decode cX10_init 13 = .ok (.bipush 7, 2) := by decide +kernel
theorem dX10_init_15 : decode cX10_init 15 = .ok (.newarray .int, 2) := by decide +kernel
theorem dX10_init_17 : decode cX10_init 17 = .ok (.putfield 13, 3) := by decide +kernel
theorem dX10_init_20 : decode cX10_init 20 = .ok (.aload_n 0, 1) := by decide +kernel
theorem dX10_init_21 : decode cX10_init 21 = .ok (.bipush 120, 2) := by decide +kernel
theorem dX10_init_23 : decode cX10_init 23 = .ok (.putfield 16, 3) := by decide +kernel
theorem dX10_init_26 : decode cX10_init 26 = .ok (.aload_n 0, 1) := by decide +kernel
theorem dX10_init_27 : decode cX10_init 27 = .ok (.bipush 24, 2) := by decide +kernel
theorem dX10_init_29 : decode cX10_init 29 = .ok (.newarray .int, 2) := by decide +kernel
theorem dX10_init_31 : decode cX10_init 31 = .ok (.putfield 20, 3) := by decide +kernel
theorem dX10_init_34 : decode cX10_init 34 = .ok (.aload_n 0, 1) := by decide +kernel
theorem dX10_init_35 : decode cX10_init 35 = .ok (.bipush 30, 2) := by decide +kernel
theorem dX10_init_37 : decode cX10_init 37 = .ok (.newarray .int, 2) := by decide +kernel
theorem dX10_init_39 : decode cX10_init 39 = .ok (.putfield 23, 3) := by decide +kernel
theorem dX10_init_42 : decode cX10_init 42 = .ok (.aload_n 0, 1) := by decide +kernel
theorem dX10_init_43 : decode cX10_init 43 = .ok (.bipush 64, 2) := by decide +kernel
theorem dX10_init_45 : decode cX10_init 45 = .ok (.newarray .int, 2) := by decide +kernel
theorem dX10_init_47 : decode cX10_init 47 = .ok (.putfield 26, 3) := by decide +kernel
theorem dX10_init_50 : decode cX10_init 50 = .ok (.aload_n 0, 1) := by decide +kernel
theorem dX10_init_51 : decode cX10_init 51 = .ok (.new 29, 3) := by decide +kernel
theorem dX10_init_54 : decode cX10_init 54 = .ok (.dup, 1) := by decide +kernel
theorem dX10_init_55 : decode cX10_init 55 = .ok (.aload_n 0, 1) := by decide +kernel
theorem dX10_init_56 : decode cX10_init 56 = .ok (.invokespecial 31, 3) := by decide +kernel
theorem dX10_init_59 : decode cX10_init 59 = .ok (.putfield 34, 3) := by decide +kernel
theorem dX10_init_62 : decode cX10_init 62 = .ok (.aload_n 0, 1) := by decide +kernel
theorem dX10_init_63 : decode cX10_init 63 = .ok (.new 29, 3) := by decide +kernel
theorem dX10_init_66 : decode cX10_init 66 = .ok (.dup, 1) := by decide +kernel
theorem dX10_init_67 : decode cX10_init 67 = .ok (.aload_n 0, 1) := by decide +kernel
theorem dX10_init_68 : decode cX10_init 68 = .ok (.invokespecial 31, 3) := by decide +kernel
theorem dX10_init_71 : decode cX10_init 71 = .ok (.putfield 38, 3) := by decide +kernel
theorem dX10_init_74 : decode cX10_init 74 = .ok (.return_, 1) := by decide +kernel
theorem dX10_thrown_0 : decode cX10_thrown 0 = .ok (.aload_n 0, 1) := by decide +kernel
theorem dX10_thrown_1 : decode cX10_thrown 1 = .ok (.getfield 41, 3) := by decide +kernel
theorem dX10_thrown_4 : decode cX10_thrown 4 = .ok (.ireturn, 1) := by decide +kernel
theorem dX10_no_0 : decode cX10_no 0 = .ok (.aload_n 0, 1) := by decide +kernel
theorem dX10_no_1 : decode cX10_no 1 = .ok (.iload_n 1, 1) := by decide +kernel
theorem dX10_no_2 : decode cX10_no 2 = .ok (.putfield 41, 3) := by decide +kernel
theorem dX10_no_5 : decode cX10_no 5 = .ok (.iconst 0, 1) := by decide +kernel
theorem dX10_no_6 : decode cX10_no 6 = .ok (.ireturn, 1) := by decide +kernel
theorem dX10_isIn_0 : decode cX10_isIn 0 = .ok (.iload_n 0, 1) := by decide +kernel
theorem dX10_isIn_1 : decode cX10_isIn 1 = .ok (.iload_n 1, 1) := by decide +kernel
theorem dX10_isIn_2 : decode cX10_isIn 2 = .ok (.if_icmp .lt 12, 3) := by decide +kernel
theorem dX10_isIn_5 : decode cX10_isIn 5 = .ok (.iload_n 0, 1) := by decide +kernel
theorem dX10_isIn_6 : decode cX10_isIn 6 = .ok (.iload_n 2, 1) := by decide +kernel
theorem dX10_isIn_7 : decode cX10_isIn 7 = .ok (.if_icmp .gt 7, 3) := by decide +kernel
theorem dX10_isIn_10 : decode cX10_isIn 10 = .ok (.iconst 1, 1) := by decide +kernel
theorem dX10_isIn_11 : decode cX10_isIn 11 = .ok (.goto 4, 3) := by decide +kernel
theorem dX10_isIn_14 : decode cX10_isIn 14 = .ok (.iconst 0, 1) := by decide +kernel
theorem dX10_isIn_15 : decode cX10_isIn 15 = .ok (.ireturn, 1) := by decide +kernel
theorem dX10_isHalt_0 : decode cX10_isHalt 0 = .ok (.iload_n 1, 1) := by decide +kernel
theorem dX10_isHalt_1 : decode cX10_isHalt 1 = .ok (.iconst 0, 1) := by decide +kernel
theorem dX10_isHalt_2 : decode cX10_isHalt 2 = .ok (.aload_n 0, 1) := by decide +kernel
theorem dX10_isHalt_3 : decode cX10_isHalt 3 = .ok (.getfield 44, 3) := by decide +kernel
theorem dX10_isHalt_6 : decode cX10_isHalt 6 = .ok (.iconst 1, 1) := by decide +kernel
theorem dX10_isHalt_7 : decode cX10_isHalt 7 = .ok (.isub, 1) := by decide +kernel
theorem dX10_isHalt_8 : decode cX10_isHalt 8 = .ok (.invokestatic 47, 3) := by decide +kernel
theorem dX10_isHalt_11 : decode cX10_isHalt 11 = .ok (.ireturn, 1) := by decide +kernel
theorem dX10_isReader_0 : decode cX10_isReader 0 = .ok (.iload_n 1, 1) := by decide +kernel
theorem dX10_isReader_1 : decode cX10_isReader 1 = .ok (.iconst 0, 1) := by decide +kernel
theorem dX10_isReader_2 : decode cX10_isReader 2 = .ok (.aload_n 0, 1) := by decide +kernel
theorem dX10_isReader_3 : decode cX10_isReader 3 = .ok (.getfield 51, 3) := by decide +kernel
theorem dX10_isReader_6 : decode cX10_isReader 6 = .ok (.iconst 1, 1) := by decide +kernel
theorem dX10_isReader_7 : decode cX10_isReader 7 = .ok (.isub, 1) := by decide +kernel
theorem dX10_isReader_8 : decode cX10_isReader 8 = .ok (.invokestatic 47, 3) := by decide +kernel
theorem dX10_isReader_11 : decode cX10_isReader 11 = .ok (.ireturn, 1) := by decide +kernel
theorem dX10_isBook_0 : decode cX10_isBook 0 = .ok (.iload_n 1, 1) := by decide +kernel
theorem dX10_isBook_1 : decode cX10_isBook 1 = .ok (.iconst 0, 1) := by decide +kernel
theorem dX10_isBook_2 : decode cX10_isBook 2 = .ok (.aload_n 0, 1) := by decide +kernel
theorem dX10_isBook_3 : decode cX10_isBook 3 = .ok (.getfield 54, 3) := by decide +kernel
theorem dX10_isBook_6 : decode cX10_isBook 6 = .ok (.iconst 1, 1) := by decide +kernel
theorem dX10_isBook_7 : decode cX10_isBook 7 = .ok (.isub, 1) := by decide +kernel
theorem dX10_isBook_8 : decode cX10_isBook 8 = .ok (.invokestatic 47, 3) := by decide +kernel
theorem dX10_isBook_11 : decode cX10_isBook 11 = .ok (.ireturn, 1) := by decide +kernel
theorem dX10_addHalt_0 : decode cX10_addHalt 0 = .ok (.aload_n 0, 1) := by decide +kernel
theorem dX10_addHalt_1 : decode cX10_addHalt 1 = .ok (.iconst 0, 1) := by decide +kernel
theorem dX10_addHalt_2 : decode cX10_addHalt 2 = .ok (.putfield 41, 3) := by decide +kernel
theorem dX10_addHalt_5 : decode cX10_addHalt 5 = .ok (.aload_n 0, 1) := by decide +kernel
theorem dX10_addHalt_6 : decode cX10_addHalt 6 = .ok (.getfield 44, 3) := by decide +kernel
theorem dX10_addHalt_9 : decode cX10_addHalt 9 = .ok (.bipush 8, 2) := by decide +kernel
theorem dX10_addHalt_11 : decode cX10_addHalt 11 = .ok (.if_icmp .ne 9, 3) := by decide +kernel
theorem dX10_addHalt_14 : decode cX10_addHalt 14 = .ok (.aload_n 0, 1) := by decide +kernel
theorem dX10_addHalt_15 : decode cX10_addHalt 15 = .ok (.iconst 1, 1) := by decide +kernel
theorem dX10_addHalt_16 : decode cX10_addHalt 16 = .ok (.invokevirtual 57, 3) := by decide +kernel
theorem dX10_addHalt_19 : decode cX10_addHalt 19 = .ok (.ireturn, 1) := by decide +kernel
theorem dX10_addHalt_20 : decode cX10_addHalt 20 = .ok (.aload_n 0, 1) := by decide +kernel
theorem dX10_addHalt_21 : decode cX10_addHalt 21 = .ok (.dup, 1) := by decide +kernel
theorem dX10_addHalt_22 : decode cX10_addHalt 22 = .ok (.getfield 44, 3) := by decide +kernel
theorem dX10_addHalt_25 : decode cX10_addHalt 25 = .ok (.iconst 1, 1) := by decide +kernel
theorem dX10_addHalt_26 : decode cX10_addHalt 26 = .ok (.iadd, 1) := by decide +kernel
theorem dX10_addHalt_27 : decode cX10_addHalt 27 = .ok (.putfield 44, 3) := by decide +kernel
theorem dX10_addHalt_30 : decode cX10_addHalt 30 = .ok (.aload_n 0, 1) := by decide +kernel
theorem dX10_addHalt_31 : decode cX10_addHalt 31 = .ok (.getfield 44, 3) := by decide +kernel
theorem dX10_addHalt_34 : decode cX10_addHalt 34 = .ok (.iconst 1, 1) := by decide +kernel
theorem dX10_addHalt_35 : decode cX10_addHalt 35 = .ok (.isub, 1) := by decide +kernel
theorem dX10_addHalt_36 : decode cX10_addHalt 36 = .ok (.ireturn, 1) := by decide +kernel
theorem dX10_addLane_0 : decode cX10_addLane 0 = .ok (.aload_n 0, 1) := by decide +kernel
theorem dX10_addLane_1 : decode cX10_addLane 1 = .ok (.iconst 0, 1) := by decide +kernel
theorem dX10_addLane_2 : decode cX10_addLane 2 = .ok (.putfield 41, 3) := by decide +kernel
theorem dX10_addLane_5 : decode cX10_addLane 5 = .ok (.aload_n 0, 1) := by decide +kernel
theorem dX10_addLane_6 : decode cX10_addLane 6 = .ok (.iload_n 1, 1) := by decide +kernel
theorem dX10_addLane_7 : decode cX10_addLane 7 = .ok (.invokevirtual 61, 3) := by decide +kernel
theorem dX10_addLane_10 : decode cX10_addLane 10 = .ok (.ifCond .eq 11, 3) := by decide +kernel
theorem dX10_addLane_13 : decode cX10_addLane 13 = .ok (.aload_n 0, 1) := by decide +kernel
theorem dX10_addLane_14 : decode cX10_addLane 14 = .ok (.iload_n 2, 1) := by decide +kernel
theorem dX10_addLane_15 : decode cX10_addLane 15 = .ok (.invokevirtual 61, 3) := by decide +kernel
theorem dX10_addLane_18 : decode cX10_addLane 18 = .ok (.ifCond .ne 9, 3) := by decide +kernel
theorem dX10_addLane_21 : decode cX10_addLane 21 = .ok (.aload_n 0, 1) := by decide +kernel
theorem dX10_addLane_22 : decode cX10_addLane 22 = .ok (.iconst 1, 1) := by decide +kernel
theorem dX10_addLane_23 : decode cX10_addLane 23 = .ok (.invokevirtual 57, 3) := by decide +kernel
theorem dX10_addLane_26 : decode cX10_addLane 26 = .ok (.ireturn, 1) := by decide +kernel
theorem dX10_addLane_27 : decode cX10_addLane 27 = .ok (.iload_n 1, 1) := by decide +kernel
theorem dX10_addLane_28 : decode cX10_addLane 28 = .ok (.iload_n 2, 1) := by decide +kernel
theorem dX10_addLane_29 : decode cX10_addLane 29 = .ok (.if_icmp .eq 24, 3) := by decide +kernel
theorem dX10_addLane_32 : decode cX10_addLane 32 = .ok (.iload_n 3, 1) := by decide +kernel
theorem dX10_addLane_33 : decode cX10_addLane 33 = .ok (.iconst 1, 1) := by decide +kernel
theorem dX10_addLane_34 : decode cX10_addLane 34 = .ok (.bipush 30, 2) := by decide +kernel
theorem dX10_addLane_36 : decode cX10_addLane 36 = .ok (.invokestatic 47, 3) := by decide +kernel
theorem dX10_addLane_39 : decode cX10_addLane 39 = .ok (.ifCond .eq 14, 3) := by decide +kernel
theorem dX10_addLane_42 : decode cX10_addLane 42 = .ok (.iload 4, 2) := by decide +kernel
theorem dX10_addLane_44 : decode cX10_addLane 44 = .ok (.iconst 0, 1) := by decide +kernel
theorem dX10_addLane_45 : decode cX10_addLane 45 = .ok (.bipush 9, 2) := by decide +kernel
theorem dX10_addLane_47 : decode cX10_addLane 47 = .ok (.invokestatic 47, 3) := by decide +kernel
theorem dX10_addLane_50 : decode cX10_addLane 50 = .ok (.ifCond .ne 9, 3) := by decide +kernel
theorem dX10_addLane_53 : decode cX10_addLane 53 = .ok (.aload_n 0, 1) := by decide +kernel
theorem dX10_addLane_54 : decode cX10_addLane 54 = .ok (.iconst 2, 1) := by decide +kernel
theorem dX10_addLane_55 : decode cX10_addLane 55 = .ok (.invokevirtual 57, 3) := by decide +kernel
theorem dX10_addLane_58 : decode cX10_addLane 58 = .ok (.ireturn, 1) := by decide +kernel
theorem dX10_addLane_59 : decode cX10_addLane 59 = .ok (.aload_n 0, 1) := by decide +kernel
theorem dX10_addLane_60 : decode cX10_addLane 60 = .ok (.getfield 65, 3) := by decide +kernel
theorem dX10_addLane_63 : decode cX10_addLane 63 = .ok (.bipush 16, 2) := by decide +kernel
theorem dX10_addLane_65 : decode cX10_addLane 65 = .ok (.if_icmp .ne 9, 3) := by decide +kernel
theorem dX10_addLane_68 : decode cX10_addLane 68 = .ok (.aload_n 0, 1) := by decide +kernel
theorem dX10_addLane_69 : decode cX10_addLane 69 = .ok (.iconst 3, 1) := by decide +kernel
theorem dX10_addLane_70 : decode cX10_addLane 70 = .ok (.invokevirtual 57, 3) := by decide +kernel
theorem dX10_addLane_73 : decode cX10_addLane 73 = .ok (.ireturn, 1) := by decide +kernel
theorem dX10_addLane_74 : decode cX10_addLane 74 = .ok (.iconst 4, 1) := by decide +kernel
theorem dX10_addLane_75 : decode cX10_addLane 75 = .ok (.newarray .int, 2) := by decide +kernel
theorem dX10_addLane_77 : decode cX10_addLane 77 = .ok (.dup, 1) := by decide +kernel
theorem dX10_addLane_78 : decode cX10_addLane 78 = .ok (.iconst 0, 1) := by decide +kernel
theorem dX10_addLane_79 : decode cX10_addLane 79 = .ok (.iload_n 1, 1) := by decide +kernel
theorem dX10_addLane_80 : decode cX10_addLane 80 = .ok (.iastore, 1) := by decide +kernel
theorem dX10_addLane_81 : decode cX10_addLane 81 = .ok (.dup, 1) := by decide +kernel
theorem dX10_addLane_82 : decode cX10_addLane 82 = .ok (.iconst 1, 1) := by decide +kernel
theorem dX10_addLane_83 : decode cX10_addLane 83 = .ok (.iload_n 2, 1) := by decide +kernel
theorem dX10_addLane_84 : decode cX10_addLane 84 = .ok (.iastore, 1) := by decide +kernel
theorem dX10_addLane_85 : decode cX10_addLane 85 = .ok (.dup, 1) := by decide +kernel
theorem dX10_addLane_86 : decode cX10_addLane 86 = .ok (.iconst 2, 1) := by decide +kernel
theorem dX10_addLane_87 : decode cX10_addLane 87 = .ok (.iload_n 3, 1) := by decide +kernel
theorem dX10_addLane_88 : decode cX10_addLane 88 = .ok (.iastore, 1) := by decide +kernel
theorem dX10_addLane_89 : decode cX10_addLane 89 = .ok (.dup, 1) := by decide +kernel
theorem dX10_addLane_90 : decode cX10_addLane 90 = .ok (.iconst 3, 1) := by decide +kernel
theorem dX10_addLane_91 : decode cX10_addLane 91 = .ok (.iload 4, 2) := by decide +kernel
theorem dX10_addLane_93 : decode cX10_addLane 93 = .ok (.iastore, 1) := by decide +kernel
theorem dX10_addLane_94 : decode cX10_addLane 94 = .ok (.astore 5, 2) := by decide +kernel
theorem dX10_addLane_96 : decode cX10_addLane 96 = .ok (.aload 5, 2) := by decide +kernel
theorem dX10_addLane_98 : decode cX10_addLane 98 = .ok (.iconst 0, 1) := by decide +kernel
theorem dX10_addLane_99 : decode cX10_addLane 99 = .ok (.aload_n 0, 1) := by decide +kernel
theorem dX10_addLane_100 : decode cX10_addLane 100 = .ok (.getfield 9, 3) := by decide +kernel
theorem dX10_addLane_103 : decode cX10_addLane 103 = .ok (.iconst 4, 1) := by decide +kernel
theorem dX10_addLane_104 : decode cX10_addLane 104 = .ok (.aload_n 0, 1) := by decide +kernel
theorem dX10_addLane_105 : decode cX10_addLane 105 = .ok (.getfield 65, 3) := by decide +kernel
theorem dX10_addLane_108 : decode cX10_addLane 108 = .ok (.imul, 1) := by decide +kernel
theorem dX10_addLane_109 : decode cX10_addLane 109 = .ok (.iconst 4, 1) := by decide +kernel
theorem dX10_addLane_110 : decode cX10_addLane 110 = .ok (.invokestatic 68, 3) := by decide +kernel
theorem dX10_addLane_113 : decode cX10_addLane 113 = .ok (.aload_n 0, 1) := by decide +kernel
theorem dX10_addLane_114 : decode cX10_addLane 114 = .ok (.dup, 1) := by decide +kernel
theorem dX10_addLane_115 : decode cX10_addLane 115 = .ok (.getfield 65, 3) := by decide +kernel
theorem dX10_addLane_118 : decode cX10_addLane 118 = .ok (.iconst 1, 1) := by decide +kernel
theorem dX10_addLane_119 : decode cX10_addLane 119 = .ok (.iadd, 1) := by decide +kernel
theorem dX10_addLane_120 : decode cX10_addLane 120 = .ok (.putfield 65, 3) := by decide +kernel
theorem dX10_addLane_123 : decode cX10_addLane 123 = .ok (.aload_n 0, 1) := by decide +kernel
theorem dX10_addLane_124 : decode cX10_addLane 124 = .ok (.getfield 65, 3) := by decide +kernel
theorem dX10_addLane_127 : decode cX10_addLane 127 = .ok (.iconst 1, 1) := by decide +kernel
theorem dX10_addLane_128 : decode cX10_addLane 128 = .ok (.isub, 1) := by decide +kernel
theorem dX10_addLane_129 : decode cX10_addLane 129 = .ok (.ireturn, 1) := by decide +kernel
theorem dX10_setRain_0 : decode cX10_setRain 0 = .ok (.aload_n 0, 1) := by decide +kernel
theorem dX10_setRain_1 : decode cX10_setRain 1 = .ok (.iconst 0, 1) := by decide +kernel
theorem dX10_setRain_2 : decode cX10_setRain 2 = .ok (.putfield 41, 3) := by decide +kernel
theorem dX10_setRain_5 : decode cX10_setRain 5 = .ok (.iload_n 1, 1) := by decide +kernel
theorem dX10_setRain_6 : decode cX10_setRain 6 = .ok (.iconst 0, 1) := by decide +kernel
theorem dX10_setRain_7 : decode cX10_setRain 7 = .ok (.bipush 6, 2) := by decide +kernel
theorem dX10_setRain_9 : decode cX10_setRain 9 = .ok (.invokestatic 47, 3) := by decide +kernel
theorem dX10_setRain_12 : decode cX10_setRain 12 = .ok (.ifCond .ne 9, 3) := by decide +kernel
theorem dX10_setRain_15 : decode cX10_setRain 15 = .ok (.aload_n 0, 1) := by decide +kernel
theorem dX10_setRain_16 : decode cX10_setRain 16 = .ok (.iconst 1, 1) := by decide +kernel
theorem dX10_setRain_17 : decode cX10_setRain 17 = .ok (.invokevirtual 57, 3) := by decide +kernel
theorem dX10_setRain_20 : decode cX10_setRain 20 = .ok (.ireturn, 1) := by decide +kernel
theorem dX10_setRain_21 : decode cX10_setRain 21 = .ok (.iload_n 2, 1) := by decide +kernel
theorem dX10_setRain_22 : decode cX10_setRain 22 = .ok (.iconst 0, 1) := by decide +kernel
theorem dX10_setRain_23 : decode cX10_setRain 23 = .ok (.bipush 9, 2) := by decide +kernel
theorem dX10_setRain_25 : decode cX10_setRain 25 = .ok (.invokestatic 47, 3) := by decide +kernel
theorem dX10_setRain_28 : decode cX10_setRain 28 = .ok (.ifCond .ne 9, 3) := by decide +kernel
theorem dX10_setRain_31 : decode cX10_setRain 31 = .ok (.aload_n 0, 1) := by decide +kernel
theorem dX10_setRain_32 : decode cX10_setRain 32 = .ok (.iconst 2, 1) := by decide +kernel
theorem dX10_setRain_33 : decode cX10_setRain 33 = .ok (.invokevirtual 57, 3) := by decide +kernel
theorem dX10_setRain_36 : decode cX10_setRain 36 = .ok (.ireturn, 1) := by decide +kernel
theorem dX10_setRain_37 : decode cX10_setRain 37 = .ok (.aload_n 0, 1) := by decide +kernel
theorem dX10_setRain_38 : decode cX10_setRain 38 = .ok (.getfield 13, 3) := by decide +kernel
theorem dX10_setRain_41 : decode cX10_setRain 41 = .ok (.iload_n 1, 1) := by decide +kernel
theorem dX10_setRain_42 : decode cX10_setRain 42 = .ok (.iaload, 1) := by decide +kernel
theorem dX10_setRain_43 : decode cX10_setRain 43 = .ok (.istore_n 3, 1) := by decide +kernel
theorem dX10_setRain_44 : decode cX10_setRain 44 = .ok (.aload_n 0, 1) := by decide +kernel
theorem dX10_setRain_45 : decode cX10_setRain 45 = .ok (.getfield 13, 3) := by decide +kernel
theorem dX10_setRain_48 : decode cX10_setRain 48 = .ok (.iload_n 1, 1) := by decide +kernel
theorem dX10_setRain_49 : decode cX10_setRain 49 = .ok (.iload_n 2, 1) := by decide +kernel
theorem dX10_setRain_50 : decode cX10_setRain 50 = .ok (.iastore, 1) := by decide +kernel
theorem dX10_setRain_51 : decode cX10_setRain 51 = .ok (.iload_n 3, 1) := by decide +kernel
theorem dX10_setRain_52 : decode cX10_setRain 52 = .ok (.ireturn, 1) := by decide +kernel
theorem dX10_setRound_0 : decode cX10_setRound 0 = .ok (.aload_n 0, 1) := by decide +kernel
theorem dX10_setRound_1 : decode cX10_setRound 1 = .ok (.iconst 0, 1) := by decide +kernel
theorem dX10_setRound_2 : decode cX10_setRound 2 = .ok (.putfield 41, 3) := by decide +kernel
theorem dX10_setRound_5 : decode cX10_setRound 5 = .ok (.iload_n 1, 1) := by decide +kernel
theorem dX10_setRound_6 : decode cX10_setRound 6 = .ok (.ifCond .lt 25, 3) := by decide +kernel
theorem dX10_setRound_9 : decode cX10_setRound 9 = .ok (.iload_n 1, 1) := by decide +kernel
theorem dX10_setRound_10 : decode cX10_setRound 10 = .ok (.ldc 74, 2) := by decide +kernel
theorem dX10_setRound_12 : decode cX10_setRound 12 = .ok (.if_icmp .ge 19, 3) := by decide +kernel
theorem dX10_setRound_15 : decode cX10_setRound 15 = .ok (.iload_n 2, 1) := by decide +kernel
theorem dX10_setRound_16 : decode cX10_setRound 16 = .ok (.bipush 10, 2) := by decide +kernel
theorem dX10_setRound_18 : decode cX10_setRound 18 = .ok (.sipush 300, 3) := by decide +kernel
theorem dX10_setRound_21 : decode cX10_setRound 21 = .ok (.invokestatic 47, 3) := by decide +kernel
theorem dX10_setRound_24 : decode cX10_setRound 24 = .ok (.ifCond .eq 7, 3) := by decide +kernel
theorem dX10_setRound_27 : decode cX10_setRound 27 = .ok (.iconst 1, 1) := by decide +kernel
theorem dX10_setRound_28 : decode cX10_setRound 28 = .ok (.goto 4, 3) := by decide +kernel
theorem dX10_setRound_31 : decode cX10_setRound 31 = .ok (.iconst 0, 1) := by decide +kernel
theorem dX10_setRound_32 : decode cX10_setRound 32 = .ok (.istore_n 3, 1) := by decide +kernel
theorem dX10_setRound_33 : decode cX10_setRound 33 = .ok (.iconst 0, 1) := by decide +kernel
theorem dX10_setRound_34 : decode cX10_setRound 34 = .ok (.istore 4, 2) := by decide +kernel
theorem dX10_setRound_36 : decode cX10_setRound 36 = .ok (.iload_n 1, 1) := by decide +kernel
theorem dX10_setRound_37 : decode cX10_setRound 37 = .ok (.istore 5, 2) := by decide +kernel
theorem dX10_setRound_39 : decode cX10_setRound 39 = .ok (.iload 5, 2) := by decide +kernel
theorem dX10_setRound_41 : decode cX10_setRound 41 = .ok (.ifCond .le 32, 3) := by decide +kernel
theorem dX10_setRound_44 : decode cX10_setRound 44 = .ok (.iload_n 3, 1) := by decide +kernel
theorem dX10_setRound_45 : decode cX10_setRound 45 = .ok (.ifCond .eq 28, 3) := by decide +kernel
theorem dX10_setRound_48 : decode cX10_setRound 48 = .ok (.aload_n 0, 1) := by decide +kernel
theorem dX10_setRound_49 : decode cX10_setRound 49 = .ok (.iload 5, 2) := by decide +kernel
theorem dX10_setRound_51 : decode cX10_setRound 51 = .ok (.bipush 10, 2) := by decide +kernel
theorem dX10_setRound_53 : decode cX10_setRound 53 = .ok (.irem, 1) := by decide +kernel
theorem dX10_setRound_54 : decode cX10_setRound 54 = .ok (.iconst 1, 1) := by decide +kernel
theorem dX10_setRound_55 : decode cX10_setRound 55 = .ok (.isub, 1) := by decide +kernel
theorem dX10_setRound_56 : decode cX10_setRound 56 = .ok (.invokevirtual 61, 3) := by decide +kernel
theorem dX10_setRound_59 : decode cX10_setRound 59 = .ok (.istore_n 3, 1) := by decide +kernel
theorem dX10_setRound_60 : decode cX10_setRound 60 = .ok (.iinc 4 1, 3) := by decide +kernel
theorem dX10_setRound_63 : decode cX10_setRound 63 = .ok (.iload 5, 2) := by decide +kernel
theorem dX10_setRound_65 : decode cX10_setRound 65 = .ok (.bipush 10, 2) := by decide +kernel
theorem dX10_setRound_67 : decode cX10_setRound 67 = .ok (.idiv, 1) := by decide +kernel
theorem dX10_setRound_68 : decode cX10_setRound 68 = .ok (.istore 5, 2) := by decide +kernel
theorem dX10_setRound_70 : decode cX10_setRound 70 = .ok (.goto (-31), 3) := by decide +kernel
theorem dX10_setRound_73 : decode cX10_setRound 73 = .ok (.iload_n 3, 1) := by decide +kernel
theorem dX10_setRound_74 : decode cX10_setRound 74 = .ok (.ifCond .ne 9, 3) := by decide +kernel
theorem dX10_setRound_77 : decode cX10_setRound 77 = .ok (.aload_n 0, 1) := by decide +kernel
theorem dX10_setRound_78 : decode cX10_setRound 78 = .ok (.iconst 1, 1) := by decide +kernel
theorem dX10_setRound_79 : decode cX10_setRound 79 = .ok (.invokevirtual 57, 3) := by decide +kernel
theorem dX10_setRound_82 : decode cX10_setRound 82 = .ok (.ireturn, 1) := by decide +kernel
theorem dX10_setRound_83 : decode cX10_setRound 83 = .ok (.aload_n 0, 1) := by decide +kernel
theorem dX10_setRound_84 : decode cX10_setRound 84 = .ok (.getfield 34, 3) := by decide +kernel
theorem dX10_setRound_87 : decode cX10_setRound 87 = .ok (.iload 4, 2) := by decide +kernel
theorem dX10_setRound_89 : decode cX10_setRound 89 = .ok (.putfield 75, 3) := by decide +kernel
theorem dX10_setRound_92 : decode cX10_setRound 92 = .ok (.iload_n 1, 1) := by decide +kernel
theorem dX10_setRound_93 : decode cX10_setRound 93 = .ok (.istore 5, 2) := by decide +kernel
theorem dX10_setRound_95 : decode cX10_setRound 95 = .ok (.iload 5, 2) := by decide +kernel
theorem dX10_setRound_97 : decode cX10_setRound 97 = .ok (.ifCond .le 33, 3) := by decide +kernel
theorem dX10_setRound_100 : decode cX10_setRound 100 = .ok (.iinc 4 (-1), 3) := by decide +kernel
theorem dX10_setRound_103 : decode cX10_setRound 103 = .ok (.aload_n 0, 1) := by decide +kernel
theorem dX10_setRound_104 : decode cX10_setRound 104 = .ok (.getfield 34, 3) := by decide +kernel
theorem dX10_setRound_107 : decode cX10_setRound 107 = .ok (.getfield 78, 3) := by decide +kernel
theorem dX10_setRound_110 : decode cX10_setRound 110 = .ok (.iload 4, 2) := by decide +kernel
theorem dX10_setRound_112 : decode cX10_setRound 112 = .ok (.iload 5, 2) := by decide +kernel
theorem dX10_setRound_114 : decode cX10_setRound 114 = .ok (.bipush 10, 2) := by decide +kernel
theorem dX10_setRound_116 : decode cX10_setRound 116 = .ok (.irem, 1) := by decide +kernel
theorem dX10_setRound_117 : decode cX10_setRound 117 = .ok (.iconst 1, 1) := by decide +kernel
theorem dX10_setRound_118 : decode cX10_setRound 118 = .ok (.isub, 1) := by decide +kernel
theorem dX10_setRound_119 : decode cX10_setRound 119 = .ok (.iastore, 1) := by decide +kernel
theorem dX10_setRound_120 : decode cX10_setRound 120 = .ok (.iload 5, 2) := by decide +kernel
theorem dX10_setRound_122 : decode cX10_setRound 122 = .ok (.bipush 10, 2) := by decide +kernel
theorem dX10_setRound_124 : decode cX10_setRound 124 = .ok (.idiv, 1) := by decide +kernel
theorem dX10_setRound_125 : decode cX10_setRound 125 = .ok (.istore 5, 2) := by decide +kernel
theorem dX10_setRound_127 : decode cX10_setRound 127 = .ok (.goto (-32), 3) := by decide +kernel
theorem dX10_setRound_130 : decode cX10_setRound 130 = .ok (.aload_n 0, 1) := by decide +kernel
theorem dX10_setRound_131 : decode cX10_setRound 131 = .ok (.iload_n 2, 1) := by decide +kernel
theorem dX10_setRound_132 : decode cX10_setRound 132 = .ok (.putfield 16, 3) := by decide +kernel
theorem dX10_setRound_135 : decode cX10_setRound 135 = .ok (.aload_n 0, 1) := by decide +kernel
theorem dX10_setRound_136 : decode cX10_setRound 136 = .ok (.getfield 34, 3) := by decide +kernel
theorem dX10_setRound_139 : decode cX10_setRound 139 = .ok (.getfield 75, 3) := by decide +kernel
theorem dX10_setRound_142 : decode cX10_setRound 142 = .ok (.ireturn, 1) := by decide +kernel
theorem dX10_haltTold_0 : decode cX10_haltTold 0 = .ok (.iconst 0, 1) := by decide +kernel
theorem dX10_haltTold_1 : decode cX10_haltTold 1 = .ok (.istore_n 3, 1) := by decide +kernel
theorem dX10_haltTold_2 : decode cX10_haltTold 2 = .ok (.iconst 0, 1) := by decide +kernel
theorem dX10_haltTold_3 : decode cX10_haltTold 3 = .ok (.istore 4, 2) := by decide +kernel
theorem dX10_haltTold_5 : decode cX10_haltTold 5 = .ok (.iconst 0, 1) := by decide +kernel
theorem dX10_haltTold_6 : decode cX10_haltTold 6 = .ok (.istore 5, 2) := by decide +kernel
theorem dX10_haltTold_8 : decode cX10_haltTold 8 = .ok (.iconst 0, 1) := by decide +kernel
theorem dX10_haltTold_9 : decode cX10_haltTold 9 = .ok (.istore 6, 2) := by decide +kernel
theorem dX10_haltTold_11 : decode cX10_haltTold 11 = .ok (.iload 6, 2) := by decide +kernel
theorem dX10_haltTold_13 : decode cX10_haltTold 13 = .ok (.aload_n 0, 1) := by decide +kernel
theorem dX10_haltTold_14 : decode cX10_haltTold 14 = .ok (.getfield 51, 3) := by decide +kernel
theorem dX10_haltTold_17 : decode cX10_haltTold 17 = .ok (.if_icmp .ge 30, 3) := by decide +kernel
theorem dX10_haltTold_20 : decode cX10_haltTold 20 = .ok (.iload_n 3, 1) := by decide +kernel
theorem dX10_haltTold_21 : decode cX10_haltTold 21 = .ok (.aload_n 0, 1) := by decide +kernel
theorem dX10_haltTold_22 : decode cX10_haltTold 22 = .ok (.getfield 23, 3) := by decide +kernel
theorem dX10_haltTold_25 : decode cX10_haltTold 25 = .ok (.iconst 3, 1) := by decide +kernel
theorem dX10_haltTold_26 : decode cX10_haltTold 26 = .ok (.iload 6, 2) := by decide +kernel
theorem dX10_haltTold_28 : decode cX10_haltTold 28 = .ok (.imul, 1) := by decide +kernel
theorem dX10_haltTold_29 : decode cX10_haltTold 29 = .ok (.iaload, 1) := by decide +kernel
theorem dX10_haltTold_30 : decode cX10_haltTold 30 = .ok (.iload_n 1, 1) := by decide +kernel
theorem dX10_haltTold_31 : decode cX10_haltTold 31 = .ok (.if_icmp .ne 7, 3) := by decide +kernel
theorem dX10_haltTold_34 : decode cX10_haltTold 34 = .ok (.iconst 1, 1) := by decide +kernel
theorem dX10_haltTold_35 : decode cX10_haltTold 35 = .ok (.goto 4, 3) := by decide +kernel
theorem dX10_haltTold_38 : decode cX10_haltTold 38 = .ok (.iconst 0, 1) := by decide +kernel
theorem dX10_haltTold_39 : decode cX10_haltTold 39 = .ok (.iadd, 1) := by decide +kernel
theorem dX10_haltTold_40 : decode cX10_haltTold 40 = .ok (.istore_n 3, 1) := by decide +kernel
theorem dX10_haltTold_41 : decode cX10_haltTold 41 = .ok (.iinc 6 1, 3) := by decide +kernel
theorem dX10_haltTold_44 : decode cX10_haltTold 44 = .ok (.goto (-33), 3) := by decide +kernel
theorem dX10_haltTold_47 : decode cX10_haltTold 47 = .ok (.iconst 0, 1) := by decide +kernel
theorem dX10_haltTold_48 : decode cX10_haltTold 48 = .ok (.istore 6, 2) := by decide +kernel
theorem dX10_haltTold_50 : decode cX10_haltTold 50 = .ok (.iload 6, 2) := by decide +kernel
theorem dX10_haltTold_52 : decode cX10_haltTold 52 = .ok (.aload_n 0, 1) := by decide +kernel
theorem dX10_haltTold_53 : decode cX10_haltTold 53 = .ok (.getfield 65, 3) := by decide +kernel
theorem dX10_haltTold_56 : decode cX10_haltTold 56 = .ok (.if_icmp .ge 47, 3) := by decide +kernel
theorem dX10_haltTold_59 : decode cX10_haltTold 59 = .ok (.iload 4, 2) := by decide +kernel
theorem dX10_haltTold_61 : decode cX10_haltTold 61 = .ok (.aload_n 0, 1) := by decide +kernel
theorem dX10_haltTold_62 : decode cX10_haltTold 62 = .ok (.getfield 9, 3) := by decide +kernel
theorem dX10_haltTold_65 : decode cX10_haltTold 65 = .ok (.iconst 4, 1) := by decide +kernel
theorem dX10_haltTold_66 : decode cX10_haltTold 66 = .ok (.iload 6, 2) := by decide +kernel
theorem dX10_haltTold_68 : decode cX10_haltTold 68 = .ok (.imul, 1) := by decide +kernel
theorem dX10_haltTold_69 : decode cX10_haltTold 69 = .ok (.iaload, 1) := by decide +kernel
theorem dX10_haltTold_70 : decode cX10_haltTold 70 = .ok (.iload_n 1, 1) := by decide +kernel
theorem dX10_haltTold_71 : decode cX10_haltTold 71 = .ok (.if_icmp .eq 18, 3) := by decide +kernel
theorem dX10_haltTold_74 : decode cX10_haltTold 74 = .ok (.aload_n 0, 1) := by decide +kernel
theorem dX10_haltTold_75 : decode cX10_haltTold 75 = .ok (.getfield 9, 3) := by decide +kernel
theorem dX10_haltTold_78 : decode cX10_haltTold 78 = .ok (.iconst 4, 1) := by decide +kernel
theorem dX10_haltTold_79 : decode cX10_haltTold 79 = .ok (.iload 6, 2) := by decide +kernel
theorem dX10_haltTold_81 : decode cX10_haltTold 81 = .ok (.imul, 1) := by decide +kernel
theorem dX10_haltTold_82 : decode cX10_haltTold 82 = .ok (.iconst 1, 1) := by decide +kernel
theorem dX10_haltTold_83 : decode cX10_haltTold 83 = .ok (.iadd, 1) := by decide +kernel
theorem dX10_haltTold_84 : decode cX10_haltTold 84 = .ok (.iaload, 1) := by decide +kernel
theorem dX10_haltTold_85 : decode cX10_haltTold 85 = .ok (.iload_n 1, 1) := by decide +kernel
theorem dX10_haltTold_86 : decode cX10_haltTold 86 = .ok (.if_icmp .ne 7, 3) := by decide +kernel
theorem dX10_haltTold_89 : decode cX10_haltTold 89 = .ok (.iconst 1, 1) := by decide +kernel
theorem dX10_haltTold_90 : decode cX10_haltTold 90 = .ok (.goto 4, 3) := by decide +kernel
theorem dX10_haltTold_93 : decode cX10_haltTold 93 = .ok (.iconst 0, 1) := by decide +kernel
theorem dX10_haltTold_94 : decode cX10_haltTold 94 = .ok (.iadd, 1) := by decide +kernel
theorem dX10_haltTold_95 : decode cX10_haltTold 95 = .ok (.istore 4, 2) := by decide +kernel
theorem dX10_haltTold_97 : decode cX10_haltTold 97 = .ok (.iinc 6 1, 3) := by decide +kernel
theorem dX10_haltTold_100 : decode cX10_haltTold 100 = .ok (.goto (-50), 3) := by decide +kernel
theorem dX10_haltTold_103 : decode cX10_haltTold 103 = .ok (.iconst 0, 1) := by decide +kernel
theorem dX10_haltTold_104 : decode cX10_haltTold 104 = .ok (.istore 6, 2) := by decide +kernel
theorem dX10_haltTold_106 : decode cX10_haltTold 106 = .ok (.iload 6, 2) := by decide +kernel
theorem dX10_haltTold_108 : decode cX10_haltTold 108 = .ok (.aload_n 0, 1) := by decide +kernel
theorem dX10_haltTold_109 : decode cX10_haltTold 109 = .ok (.getfield 34, 3) := by decide +kernel
theorem dX10_haltTold_112 : decode cX10_haltTold 112 = .ok (.getfield 75, 3) := by decide +kernel
theorem dX10_haltTold_115 : decode cX10_haltTold 115 = .ok (.if_icmp .ge 33, 3) := by decide +kernel
theorem dX10_haltTold_118 : decode cX10_haltTold 118 = .ok (.iload 5, 2) := by decide +kernel
theorem dX10_haltTold_120 : decode cX10_haltTold 120 = .ok (.aload_n 0, 1) := by decide +kernel
theorem dX10_haltTold_121 : decode cX10_haltTold 121 = .ok (.getfield 34, 3) := by decide +kernel
theorem dX10_haltTold_124 : decode cX10_haltTold 124 = .ok (.getfield 78, 3) := by decide +kernel
theorem dX10_haltTold_127 : decode cX10_haltTold 127 = .ok (.iload 6, 2) := by decide +kernel
theorem dX10_haltTold_129 : decode cX10_haltTold 129 = .ok (.iaload, 1) := by decide +kernel
theorem dX10_haltTold_130 : decode cX10_haltTold 130 = .ok (.iload_n 1, 1) := by decide +kernel
theorem dX10_haltTold_131 : decode cX10_haltTold 131 = .ok (.if_icmp .ne 7, 3) := by decide +kernel
theorem dX10_haltTold_134 : decode cX10_haltTold 134 = .ok (.iconst 1, 1) := by decide +kernel
theorem dX10_haltTold_135 : decode cX10_haltTold 135 = .ok (.goto 4, 3) := by decide +kernel
theorem dX10_haltTold_138 : decode cX10_haltTold 138 = .ok (.iconst 0, 1) := by decide +kernel
theorem dX10_haltTold_139 : decode cX10_haltTold 139 = .ok (.iadd, 1) := by decide +kernel
theorem dX10_haltTold_140 : decode cX10_haltTold 140 = .ok (.istore 5, 2) := by decide +kernel
theorem dX10_haltTold_142 : decode cX10_haltTold 142 = .ok (.iinc 6 1, 3) := by decide +kernel
theorem dX10_haltTold_145 : decode cX10_haltTold 145 = .ok (.goto (-39), 3) := by decide +kernel
theorem dX10_haltTold_148 : decode cX10_haltTold 148 = .ok (.iload_n 2, 1) := by decide +kernel
theorem dX10_haltTold_149 : decode cX10_haltTold 149 = .ok (.ifCond .ne 7, 3) := by decide +kernel
theorem dX10_haltTold_152 : decode cX10_haltTold 152 = .ok (.iload_n 3, 1) := by decide +kernel
theorem dX10_haltTold_153 : decode cX10_haltTold 153 = .ok (.goto 49, 3) := by decide +kernel
theorem dX10_haltTold_156 : decode cX10_haltTold 156 = .ok (.iload_n 2, 1) := by decide +kernel
theorem dX10_haltTold_157 : decode cX10_haltTold 157 = .ok (.iconst 1, 1) := by decide +kernel
theorem dX10_haltTold_158 : decode cX10_haltTold 158 = .ok (.if_icmp .ne 8, 3) := by decide +kernel
theorem dX10_haltTold_161 : decode cX10_haltTold 161 = .ok (.iload 4, 2) := by decide +kernel
theorem dX10_haltTold_163 : decode cX10_haltTold 163 = .ok (.goto 39, 3) := by decide +kernel
theorem dX10_haltTold_166 : decode cX10_haltTold 166 = .ok (.iload_n 2, 1) := by decide +kernel
theorem dX10_haltTold_167 : decode cX10_haltTold 167 = .ok (.iconst 2, 1) := by decide +kernel
theorem dX10_haltTold_168 : decode cX10_haltTold 168 = .ok (.if_icmp .ne 8, 3) := by decide +kernel
theorem dX10_haltTold_171 : decode cX10_haltTold 171 = .ok (.iload 5, 2) := by decide +kernel
theorem dX10_haltTold_173 : decode cX10_haltTold 173 = .ok (.goto 29, 3) := by decide +kernel
theorem dX10_haltTold_176 : decode cX10_haltTold 176 = .ok (.iload_n 2, 1) := by decide +kernel
theorem dX10_haltTold_177 : decode cX10_haltTold 177 = .ok (.iconst 3, 1) := by decide +kernel
theorem dX10_haltTold_178 : decode cX10_haltTold 178 = .ok (.if_icmp .ne 15, 3) := by decide +kernel
theorem dX10_haltTold_181 : decode cX10_haltTold 181 = .ok (.aload_n 0, 1) := by decide +kernel
theorem dX10_haltTold_182 : decode cX10_haltTold 182 = .ok (.getfield 34, 3) := by decide +kernel
theorem dX10_haltTold_185 : decode cX10_haltTold 185 = .ok (.getfield 81, 3) := by decide +kernel
theorem dX10_haltTold_188 : decode cX10_haltTold 188 = .ok (.iload_n 1, 1) := by decide +kernel
theorem dX10_haltTold_189 : decode cX10_haltTold 189 = .ok (.iaload, 1) := by decide +kernel
theorem dX10_haltTold_190 : decode cX10_haltTold 190 = .ok (.goto 12, 3) := by decide +kernel
theorem dX10_haltTold_193 : decode cX10_haltTold 193 = .ok (.aload_n 0, 1) := by decide +kernel
theorem dX10_haltTold_194 : decode cX10_haltTold 194 = .ok (.getfield 34, 3) := by decide +kernel
theorem dX10_haltTold_197 : decode cX10_haltTold 197 = .ok (.getfield 84, 3) := by decide +kernel
theorem dX10_haltTold_200 : decode cX10_haltTold 200 = .ok (.iload_n 1, 1) := by decide +kernel
theorem dX10_haltTold_201 : decode cX10_haltTold 201 = .ok (.iaload, 1) := by decide +kernel
theorem dX10_haltTold_202 : decode cX10_haltTold 202 = .ok (.ireturn, 1) := by decide +kernel
theorem dX10_halt_0 : decode cX10_halt 0 = .ok (.aload_n 0, 1) := by decide +kernel
theorem dX10_halt_1 : decode cX10_halt 1 = .ok (.iconst 0, 1) := by decide +kernel
theorem dX10_halt_2 : decode cX10_halt 2 = .ok (.putfield 41, 3) := by decide +kernel
theorem dX10_halt_5 : decode cX10_halt 5 = .ok (.aload_n 0, 1) := by decide +kernel
theorem dX10_halt_6 : decode cX10_halt 6 = .ok (.iload_n 1, 1) := by decide +kernel
theorem dX10_halt_7 : decode cX10_halt 7 = .ok (.invokevirtual 61, 3) := by decide +kernel
theorem dX10_halt_10 : decode cX10_halt 10 = .ok (.ifCond .eq 21, 3) := by decide +kernel
theorem dX10_halt_13 : decode cX10_halt 13 = .ok (.iload_n 2, 1) := by decide +kernel
theorem dX10_halt_14 : decode cX10_halt 14 = .ok (.iconst 0, 1) := by decide +kernel
theorem dX10_halt_15 : decode cX10_halt 15 = .ok (.iconst 4, 1) := by decide +kernel
theorem dX10_halt_16 : decode cX10_halt 16 = .ok (.invokestatic 47, 3) := by decide +kernel
theorem dX10_halt_19 : decode cX10_halt 19 = .ok (.ifCond .eq 12, 3) := by decide +kernel
theorem dX10_halt_22 : decode cX10_halt 22 = .ok (.aload_n 0, 1) := by decide +kernel
theorem dX10_halt_23 : decode cX10_halt 23 = .ok (.iload_n 1, 1) := by decide +kernel
theorem dX10_halt_24 : decode cX10_halt 24 = .ok (.iload_n 2, 1) := by decide +kernel
theorem dX10_halt_25 : decode cX10_halt 25 = .ok (.invokevirtual 87, 3) := by decide +kernel
theorem dX10_halt_28 : decode cX10_halt 28 = .ok (.goto 8, 3) := by decide +kernel
theorem dX10_halt_31 : decode cX10_halt 31 = .ok (.aload_n 0, 1) := by decide +kernel
theorem dX10_halt_32 : decode cX10_halt 32 = .ok (.iconst 1, 1) := by decide +kernel
theorem dX10_halt_33 : decode cX10_halt 33 = .ok (.invokevirtual 57, 3) := by decide +kernel
theorem dX10_halt_36 : decode cX10_halt 36 = .ok (.ireturn, 1) := by decide +kernel
theorem dX10_laneTold_0 : decode cX10_laneTold 0 = .ok (.iload_n 2, 1) := by decide +kernel
theorem dX10_laneTold_1 : decode cX10_laneTold 1 = .ok (.iconst 4, 1) := by decide +kernel
theorem dX10_laneTold_2 : decode cX10_laneTold 2 = .ok (.if_icmp .ge 16, 3) := by decide +kernel
theorem dX10_laneTold_5 : decode cX10_laneTold 5 = .ok (.aload_n 0, 1) := by decide +kernel
theorem dX10_laneTold_6 : decode cX10_laneTold 6 = .ok (.getfield 9, 3) := by decide +kernel
theorem dX10_laneTold_9 : decode cX10_laneTold 9 = .ok (.iconst 4, 1) := by decide +kernel
theorem dX10_laneTold_10 : decode cX10_laneTold 10 = .ok (.iload_n 1, 1) := by decide +kernel
theorem dX10_laneTold_11 : decode cX10_laneTold 11 = .ok (.imul, 1) := by decide +kernel
theorem dX10_laneTold_12 : decode cX10_laneTold 12 = .ok (.iload_n 2, 1) := by decide +kernel
theorem dX10_laneTold_13 : decode cX10_laneTold 13 = .ok (.iadd, 1) := by decide +kernel
theorem dX10_laneTold_14 : decode cX10_laneTold 14 = .ok (.iaload, 1) := by decide +kernel
theorem dX10_laneTold_15 : decode cX10_laneTold 15 = .ok (.goto 28, 3) := by decide +kernel
theorem dX10_laneTold_18 : decode cX10_laneTold 18 = .ok (.iload_n 2, 1) := by decide +kernel
theorem dX10_laneTold_19 : decode cX10_laneTold 19 = .ok (.iconst 4, 1) := by decide +kernel
theorem dX10_laneTold_20 : decode cX10_laneTold 20 = .ok (.if_icmp .ne 15, 3) := by decide +kernel
theorem dX10_laneTold_23 : decode cX10_laneTold 23 = .ok (.aload_n 0, 1) := by decide +kernel
theorem dX10_laneTold_24 : decode cX10_laneTold 24 = .ok (.getfield 34, 3) := by decide +kernel
theorem dX10_laneTold_27 : decode cX10_laneTold 27 = .ok (.getfield 91, 3) := by decide +kernel
theorem dX10_laneTold_30 : decode cX10_laneTold 30 = .ok (.iload_n 1, 1) := by decide +kernel
theorem dX10_laneTold_31 : decode cX10_laneTold 31 = .ok (.iaload, 1) := by decide +kernel
theorem dX10_laneTold_32 : decode cX10_laneTold 32 = .ok (.goto 11, 3) := by decide +kernel
theorem dX10_laneTold_35 : decode cX10_laneTold 35 = .ok (.aload_n 0, 1) := by decide +kernel
theorem dX10_laneTold_36 : decode cX10_laneTold 36 = .ok (.getfield 34, 3) := by decide +kernel
theorem dX10_laneTold_39 : decode cX10_laneTold 39 = .ok (.iload_n 1, 1) := by decide +kernel
theorem dX10_laneTold_40 : decode cX10_laneTold 40 = .ok (.invokevirtual 94, 3) := by decide +kernel
theorem dX10_laneTold_43 : decode cX10_laneTold 43 = .ok (.ireturn, 1) := by decide +kernel
theorem dX10_lane_0 : decode cX10_lane 0 = .ok (.aload_n 0, 1) := by decide +kernel
theorem dX10_lane_1 : decode cX10_lane 1 = .ok (.iconst 0, 1) := by decide +kernel
theorem dX10_lane_2 : decode cX10_lane 2 = .ok (.putfield 41, 3) := by decide +kernel
theorem dX10_lane_5 : decode cX10_lane 5 = .ok (.iload_n 1, 1) := by decide +kernel
theorem dX10_lane_6 : decode cX10_lane 6 = .ok (.iconst 0, 1) := by decide +kernel
theorem dX10_lane_7 : decode cX10_lane 7 = .ok (.aload_n 0, 1) := by decide +kernel
theorem dX10_lane_8 : decode cX10_lane 8 = .ok (.getfield 65, 3) := by decide +kernel
theorem dX10_lane_11 : decode cX10_lane 11 = .ok (.iconst 1, 1) := by decide +kernel
theorem dX10_lane_12 : decode cX10_lane 12 = .ok (.isub, 1) := by decide +kernel
theorem dX10_lane_13 : decode cX10_lane 13 = .ok (.invokestatic 47, 3) := by decide +kernel
theorem dX10_lane_16 : decode cX10_lane 16 = .ok (.ifCond .eq 21, 3) := by decide +kernel
theorem dX10_lane_19 : decode cX10_lane 19 = .ok (.iload_n 2, 1) := by decide +kernel
theorem dX10_lane_20 : decode cX10_lane 20 = .ok (.iconst 0, 1) := by decide +kernel
theorem dX10_lane_21 : decode cX10_lane 21 = .ok (.iconst 5, 1) := by decide +kernel
theorem dX10_lane_22 : decode cX10_lane 22 = .ok (.invokestatic 47, 3) := by decide +kernel
theorem dX10_lane_25 : decode cX10_lane 25 = .ok (.ifCond .eq 12, 3) := by decide +kernel
theorem dX10_lane_28 : decode cX10_lane 28 = .ok (.aload_n 0, 1) := by decide +kernel
theorem dX10_lane_29 : decode cX10_lane 29 = .ok (.iload_n 1, 1) := by decide +kernel
theorem dX10_lane_30 : decode cX10_lane 30 = .ok (.iload_n 2, 1) := by decide +kernel
theorem dX10_lane_31 : decode cX10_lane 31 = .ok (.invokevirtual 97, 3) := by decide +kernel
theorem dX10_lane_34 : decode cX10_lane 34 = .ok (.goto 8, 3) := by decide +kernel
theorem dX10_lane_37 : decode cX10_lane 37 = .ok (.aload_n 0, 1) := by decide +kernel
theorem dX10_lane_38 : decode cX10_lane 38 = .ok (.iconst 1, 1) := by decide +kernel
theorem dX10_lane_39 : decode cX10_lane 39 = .ok (.invokevirtual 57, 3) := by decide +kernel
theorem dX10_lane_42 : decode cX10_lane 42 = .ok (.ireturn, 1) := by decide +kernel
theorem dX10_way_0 : decode cX10_way 0 = .ok (.aload_n 0, 1) := by decide +kernel
theorem dX10_way_1 : decode cX10_way 1 = .ok (.iconst 0, 1) := by decide +kernel
theorem dX10_way_2 : decode cX10_way 2 = .ok (.putfield 41, 3) := by decide +kernel
theorem dX10_way_5 : decode cX10_way 5 = .ok (.aload_n 0, 1) := by decide +kernel
theorem dX10_way_6 : decode cX10_way 6 = .ok (.iload_n 1, 1) := by decide +kernel
theorem dX10_way_7 : decode cX10_way 7 = .ok (.invokevirtual 61, 3) := by decide +kernel
theorem dX10_way_10 : decode cX10_way 10 = .ok (.ifCond .eq 11, 3) := by decide +kernel
theorem dX10_way_13 : decode cX10_way 13 = .ok (.aload_n 0, 1) := by decide +kernel
theorem dX10_way_14 : decode cX10_way 14 = .ok (.iload_n 2, 1) := by decide +kernel
theorem dX10_way_15 : decode cX10_way 15 = .ok (.invokevirtual 61, 3) := by decide +kernel
theorem dX10_way_18 : decode cX10_way 18 = .ok (.ifCond .ne 9, 3) := by decide +kernel
theorem dX10_way_21 : decode cX10_way 21 = .ok (.aload_n 0, 1) := by decide +kernel
theorem dX10_way_22 : decode cX10_way 22 = .ok (.iconst 1, 1) := by decide +kernel
theorem dX10_way_23 : decode cX10_way 23 = .ok (.invokevirtual 57, 3) := by decide +kernel
theorem dX10_way_26 : decode cX10_way 26 = .ok (.ireturn, 1) := by decide +kernel
theorem dX10_way_27 : decode cX10_way 27 = .ok (.aload_n 0, 1) := by decide +kernel
theorem dX10_way_28 : decode cX10_way 28 = .ok (.getfield 34, 3) := by decide +kernel
theorem dX10_way_31 : decode cX10_way 31 = .ok (.invokevirtual 100, 3) := by decide +kernel
theorem dX10_way_34 : decode cX10_way 34 = .ok (.aload_n 0, 1) := by decide +kernel
theorem dX10_way_35 : decode cX10_way 35 = .ok (.getfield 26, 3) := by decide +kernel
theorem dX10_way_38 : decode cX10_way 38 = .ok (.bipush 8, 2) := by decide +kernel
theorem dX10_way_40 : decode cX10_way 40 = .ok (.iload_n 1, 1) := by decide +kernel
theorem dX10_way_41 : decode cX10_way 41 = .ok (.imul, 1) := by decide +kernel
theorem dX10_way_42 : decode cX10_way 42 = .ok (.iload_n 2, 1) := by decide +kernel
theorem dX10_way_43 : decode cX10_way 43 = .ok (.iadd, 1) := by decide +kernel
theorem dX10_way_44 : decode cX10_way 44 = .ok (.iaload, 1) := by decide +kernel
theorem dX10_way_45 : decode cX10_way 45 = .ok (.ldc 103, 2) := by decide +kernel
theorem dX10_way_47 : decode cX10_way 47 = .ok (.if_icmp .ge 17, 3) := by decide +kernel
theorem dX10_way_50 : decode cX10_way 50 = .ok (.aload_n 0, 1) := by decide +kernel
theorem dX10_way_51 : decode cX10_way 51 = .ok (.getfield 26, 3) := by decide +kernel
theorem dX10_way_54 : decode cX10_way 54 = .ok (.bipush 8, 2) := by decide +kernel
theorem dX10_way_56 : decode cX10_way 56 = .ok (.iload_n 1, 1) := by decide +kernel
theorem dX10_way_57 : decode cX10_way 57 = .ok (.imul, 1) := by decide +kernel
theorem dX10_way_58 : decode cX10_way 58 = .ok (.iload_n 2, 1) := by decide +kernel
theorem dX10_way_59 : decode cX10_way 59 = .ok (.iadd, 1) := by decide +kernel
theorem dX10_way_60 : decode cX10_way 60 = .ok (.iaload, 1) := by decide +kernel
theorem dX10_way_61 : decode cX10_way 61 = .ok (.goto 4, 3) := by decide +kernel
theorem dX10_way_64 : decode cX10_way 64 = .ok (.iconst (-1), 1) := by decide +kernel
theorem dX10_way_65 : decode cX10_way 65 = .ok (.ireturn, 1) := by decide +kernel
theorem dX10_addBook_0 : decode cX10_addBook 0 = .ok (.aload_n 0, 1) := by decide +kernel
theorem dX10_addBook_1 : decode cX10_addBook 1 = .ok (.iconst 0, 1) := by decide +kernel
theorem dX10_addBook_2 : decode cX10_addBook 2 = .ok (.putfield 41, 3) := by decide +kernel
theorem dX10_addBook_5 : decode cX10_addBook 5 = .ok (.iload_n 1, 1) := by decide +kernel
theorem dX10_addBook_6 : decode cX10_addBook 6 = .ok (.iconst 0, 1) := by decide +kernel
theorem dX10_addBook_7 : decode cX10_addBook 7 = .ok (.iconst 5, 1) := by decide +kernel
theorem dX10_addBook_8 : decode cX10_addBook 8 = .ok (.invokestatic 47, 3) := by decide +kernel
theorem dX10_addBook_11 : decode cX10_addBook 11 = .ok (.ifCond .ne 9, 3) := by decide +kernel
theorem dX10_addBook_14 : decode cX10_addBook 14 = .ok (.aload_n 0, 1) := by decide +kernel
theorem dX10_addBook_15 : decode cX10_addBook 15 = .ok (.iconst 1, 1) := by decide +kernel
theorem dX10_addBook_16 : decode cX10_addBook 16 = .ok (.invokevirtual 57, 3) := by decide +kernel
theorem dX10_addBook_19 : decode cX10_addBook 19 = .ok (.ireturn, 1) := by decide +kernel
theorem dX10_addBook_20 : decode cX10_addBook 20 = .ok (.aload_n 0, 1) := by decide +kernel
theorem dX10_addBook_21 : decode cX10_addBook 21 = .ok (.getfield 54, 3) := by decide +kernel
theorem dX10_addBook_24 : decode cX10_addBook 24 = .ok (.bipush 24, 2) := by decide +kernel
theorem dX10_addBook_26 : decode cX10_addBook 26 = .ok (.if_icmp .ne 9, 3) := by decide +kernel
theorem dX10_addBook_29 : decode cX10_addBook 29 = .ok (.aload_n 0, 1) := by decide +kernel
theorem dX10_addBook_30 : decode cX10_addBook 30 = .ok (.iconst 2, 1) := by decide +kernel
theorem dX10_addBook_31 : decode cX10_addBook 31 = .ok (.invokevirtual 57, 3) := by decide +kernel
theorem dX10_addBook_34 : decode cX10_addBook 34 = .ok (.ireturn, 1) := by decide +kernel
theorem dX10_addBook_35 : decode cX10_addBook 35 = .ok (.aload_n 0, 1) := by decide +kernel
theorem dX10_addBook_36 : decode cX10_addBook 36 = .ok (.getfield 20, 3) := by decide +kernel
theorem dX10_addBook_39 : decode cX10_addBook 39 = .ok (.aload_n 0, 1) := by decide +kernel
theorem dX10_addBook_40 : decode cX10_addBook 40 = .ok (.getfield 54, 3) := by decide +kernel
theorem dX10_addBook_43 : decode cX10_addBook 43 = .ok (.iload_n 1, 1) := by decide +kernel
theorem dX10_addBook_44 : decode cX10_addBook 44 = .ok (.iastore, 1) := by decide +kernel
theorem dX10_addBook_45 : decode cX10_addBook 45 = .ok (.aload_n 0, 1) := by decide +kernel
theorem dX10_addBook_46 : decode cX10_addBook 46 = .ok (.getfield 34, 3) := by decide +kernel
theorem dX10_addBook_49 : decode cX10_addBook 49 = .ok (.getfield 104, 3) := by decide +kernel
theorem dX10_addBook_52 : decode cX10_addBook 52 = .ok (.aload_n 0, 1) := by decide +kernel
theorem dX10_addBook_53 : decode cX10_addBook 53 = .ok (.getfield 54, 3) := by decide +kernel
theorem dX10_addBook_56 : decode cX10_addBook 56 = .ok (.iconst (-1), 1) := by decide +kernel
theorem dX10_addBook_57 : decode cX10_addBook 57 = .ok (.iastore, 1) := by decide +kernel
theorem dX10_addBook_58 : decode cX10_addBook 58 = .ok (.aload_n 0, 1) := by decide +kernel
theorem dX10_addBook_59 : decode cX10_addBook 59 = .ok (.dup, 1) := by decide +kernel
theorem dX10_addBook_60 : decode cX10_addBook 60 = .ok (.getfield 54, 3) := by decide +kernel
theorem dX10_addBook_63 : decode cX10_addBook 63 = .ok (.iconst 1, 1) := by decide +kernel
theorem dX10_addBook_64 : decode cX10_addBook 64 = .ok (.iadd, 1) := by decide +kernel
theorem dX10_addBook_65 : decode cX10_addBook 65 = .ok (.putfield 54, 3) := by decide +kernel
theorem dX10_addBook_68 : decode cX10_addBook 68 = .ok (.aload_n 0, 1) := by decide +kernel
theorem dX10_addBook_69 : decode cX10_addBook 69 = .ok (.getfield 54, 3) := by decide +kernel
theorem dX10_addBook_72 : decode cX10_addBook 72 = .ok (.iconst 1, 1) := by decide +kernel
theorem dX10_addBook_73 : decode cX10_addBook 73 = .ok (.isub, 1) := by decide +kernel
theorem dX10_addBook_74 : decode cX10_addBook 74 = .ok (.ireturn, 1) := by decide +kernel
theorem dX10_addReader_0 : decode cX10_addReader 0 = .ok (.aload_n 0, 1) := by decide +kernel
theorem dX10_addReader_1 : decode cX10_addReader 1 = .ok (.iconst 0, 1) := by decide +kernel
theorem dX10_addReader_2 : decode cX10_addReader 2 = .ok (.putfield 41, 3) := by decide +kernel
theorem dX10_addReader_5 : decode cX10_addReader 5 = .ok (.aload_n 0, 1) := by decide +kernel
theorem dX10_addReader_6 : decode cX10_addReader 6 = .ok (.iload_n 1, 1) := by decide +kernel
theorem dX10_addReader_7 : decode cX10_addReader 7 = .ok (.invokevirtual 61, 3) := by decide +kernel
theorem dX10_addReader_10 : decode cX10_addReader 10 = .ok (.ifCond .ne 9, 3) := by decide +kernel
theorem dX10_addReader_13 : decode cX10_addReader 13 = .ok (.aload_n 0, 1) := by decide +kernel
theorem dX10_addReader_14 : decode cX10_addReader 14 = .ok (.iconst 1, 1) := by decide +kernel
theorem dX10_addReader_15 : decode cX10_addReader 15 = .ok (.invokevirtual 57, 3) := by decide +kernel
theorem dX10_addReader_18 : decode cX10_addReader 18 = .ok (.ireturn, 1) := by decide +kernel
theorem dX10_addReader_19 : decode cX10_addReader 19 = .ok (.iload_n 2, 1) := by decide +kernel
theorem dX10_addReader_20 : decode cX10_addReader 20 = .ok (.iconst 0, 1) := by decide +kernel
theorem dX10_addReader_21 : decode cX10_addReader 21 = .ok (.iconst 5, 1) := by decide +kernel
theorem dX10_addReader_22 : decode cX10_addReader 22 = .ok (.invokestatic 47, 3) := by decide +kernel
theorem dX10_addReader_25 : decode cX10_addReader 25 = .ok (.ifCond .eq 13, 3) := by decide +kernel
theorem dX10_addReader_28 : decode cX10_addReader 28 = .ok (.iload_n 3, 1) := by decide +kernel
theorem dX10_addReader_29 : decode cX10_addReader 29 = .ok (.iconst 1, 1) := by decide +kernel
theorem dX10_addReader_30 : decode cX10_addReader 30 = .ok (.bipush 30, 2) := by decide +kernel
theorem dX10_addReader_32 : decode cX10_addReader 32 = .ok (.invokestatic 47, 3) := by decide +kernel
theorem dX10_addReader_35 : decode cX10_addReader 35 = .ok (.ifCond .ne 9, 3) := by decide +kernel
theorem dX10_addReader_38 : decode cX10_addReader 38 = .ok (.aload_n 0, 1) := by decide +kernel
theorem dX10_addReader_39 : decode cX10_addReader 39 = .ok (.iconst 2, 1) := by decide +kernel
theorem dX10_addReader_40 : decode cX10_addReader 40 = .ok (.invokevirtual 57, 3) := by decide +kernel
theorem dX10_addReader_43 : decode cX10_addReader 43 = .ok (.ireturn, 1) := by decide +kernel
theorem dX10_addReader_44 : decode cX10_addReader 44 = .ok (.aload_n 0, 1) := by decide +kernel
theorem dX10_addReader_45 : decode cX10_addReader 45 = .ok (.getfield 51, 3) := by decide +kernel
theorem dX10_addReader_48 : decode cX10_addReader 48 = .ok (.bipush 10, 2) := by decide +kernel
theorem dX10_addReader_50 : decode cX10_addReader 50 = .ok (.if_icmp .ne 9, 3) := by decide +kernel
theorem dX10_addReader_53 : decode cX10_addReader 53 = .ok (.aload_n 0, 1) := by decide +kernel
theorem dX10_addReader_54 : decode cX10_addReader 54 = .ok (.iconst 3, 1) := by decide +kernel
theorem dX10_addReader_55 : decode cX10_addReader 55 = .ok (.invokevirtual 57, 3) := by decide +kernel
theorem dX10_addReader_58 : decode cX10_addReader 58 = .ok (.ireturn, 1) := by decide +kernel
theorem dX10_addReader_59 : decode cX10_addReader 59 = .ok (.iconst 3, 1) := by decide +kernel
theorem dX10_addReader_60 : decode cX10_addReader 60 = .ok (.newarray .int, 2) := by decide +kernel
theorem dX10_addReader_62 : decode cX10_addReader 62 = .ok (.dup, 1) := by decide +kernel
theorem dX10_addReader_63 : decode cX10_addReader 63 = .ok (.iconst 0, 1) := by decide +kernel
theorem dX10_addReader_64 : decode cX10_addReader 64 = .ok (.iload_n 1, 1) := by decide +kernel
theorem dX10_addReader_65 : decode cX10_addReader 65 = .ok (.iastore, 1) := by decide +kernel
theorem dX10_addReader_66 : decode cX10_addReader 66 = .ok (.dup, 1) := by decide +kernel
theorem dX10_addReader_67 : decode cX10_addReader 67 = .ok (.iconst 1, 1) := by decide +kernel
theorem dX10_addReader_68 : decode cX10_addReader 68 = .ok (.iload_n 2, 1) := by decide +kernel
theorem dX10_addReader_69 : decode cX10_addReader 69 = .ok (.iastore, 1) := by decide +kernel
theorem dX10_addReader_70 : decode cX10_addReader 70 = .ok (.dup, 1) := by decide +kernel
theorem dX10_addReader_71 : decode cX10_addReader 71 = .ok (.iconst 2, 1) := by decide +kernel
theorem dX10_addReader_72 : decode cX10_addReader 72 = .ok (.iload_n 3, 1) := by decide +kernel
theorem dX10_addReader_73 : decode cX10_addReader 73 = .ok (.iastore, 1) := by decide +kernel
theorem dX10_addReader_74 : decode cX10_addReader 74 = .ok (.astore 4, 2) := by decide +kernel
theorem dX10_addReader_76 : decode cX10_addReader 76 = .ok (.aload 4, 2) := by decide +kernel
theorem dX10_addReader_78 : decode cX10_addReader 78 = .ok (.iconst 0, 1) := by decide +kernel
theorem dX10_addReader_79 : decode cX10_addReader 79 = .ok (.aload_n 0, 1) := by decide +kernel
theorem dX10_addReader_80 : decode cX10_addReader 80 = .ok (.getfield 23, 3) := by decide +kernel
theorem dX10_addReader_83 : decode cX10_addReader 83 = .ok (.iconst 3, 1) := by decide +kernel
theorem dX10_addReader_84 : decode cX10_addReader 84 = .ok (.aload_n 0, 1) := by decide +kernel
theorem dX10_addReader_85 : decode cX10_addReader 85 = .ok (.getfield 51, 3) := by decide +kernel
theorem dX10_addReader_88 : decode cX10_addReader 88 = .ok (.imul, 1) := by decide +kernel
theorem dX10_addReader_89 : decode cX10_addReader 89 = .ok (.iconst 3, 1) := by decide +kernel
theorem dX10_addReader_90 : decode cX10_addReader 90 = .ok (.invokestatic 68, 3) := by decide +kernel
theorem dX10_addReader_93 : decode cX10_addReader 93 = .ok (.aload_n 0, 1) := by decide +kernel
theorem dX10_addReader_94 : decode cX10_addReader 94 = .ok (.dup, 1) := by decide +kernel
theorem dX10_addReader_95 : decode cX10_addReader 95 = .ok (.getfield 51, 3) := by decide +kernel
theorem dX10_addReader_98 : decode cX10_addReader 98 = .ok (.iconst 1, 1) := by decide +kernel
theorem dX10_addReader_99 : decode cX10_addReader 99 = .ok (.iadd, 1) := by decide +kernel
theorem dX10_addReader_100 : decode cX10_addReader 100 = .ok (.putfield 51, 3) := by decide +kernel
theorem dX10_addReader_103 : decode cX10_addReader 103 = .ok (.aload_n 0, 1) := by decide +kernel
theorem dX10_addReader_104 : decode cX10_addReader 104 = .ok (.getfield 51, 3) := by decide +kernel
theorem dX10_addReader_107 : decode cX10_addReader 107 = .ok (.iconst 1, 1) := by decide +kernel
theorem dX10_addReader_108 : decode cX10_addReader 108 = .ok (.isub, 1) := by decide +kernel
theorem dX10_addReader_109 : decode cX10_addReader 109 = .ok (.ireturn, 1) := by decide +kernel
theorem dX10_reserve_0 : decode cX10_reserve 0 = .ok (.aload_n 0, 1) := by decide +kernel
theorem dX10_reserve_1 : decode cX10_reserve 1 = .ok (.iconst 0, 1) := by decide +kernel
theorem dX10_reserve_2 : decode cX10_reserve 2 = .ok (.putfield 41, 3) := by decide +kernel
theorem dX10_reserve_5 : decode cX10_reserve 5 = .ok (.aload_n 0, 1) := by decide +kernel
theorem dX10_reserve_6 : decode cX10_reserve 6 = .ok (.iload_n 1, 1) := by decide +kernel
theorem dX10_reserve_7 : decode cX10_reserve 7 = .ok (.invokevirtual 107, 3) := by decide +kernel
theorem dX10_reserve_10 : decode cX10_reserve 10 = .ok (.ifCond .eq 11, 3) := by decide +kernel
theorem dX10_reserve_13 : decode cX10_reserve 13 = .ok (.aload_n 0, 1) := by decide +kernel
theorem dX10_reserve_14 : decode cX10_reserve 14 = .ok (.iload_n 2, 1) := by decide +kernel
theorem dX10_reserve_15 : decode cX10_reserve 15 = .ok (.invokevirtual 110, 3) := by decide +kernel
theorem dX10_reserve_18 : decode cX10_reserve 18 = .ok (.ifCond .ne 9, 3) := by decide +kernel
theorem dX10_reserve_21 : decode cX10_reserve 21 = .ok (.aload_n 0, 1) := by decide +kernel
theorem dX10_reserve_22 : decode cX10_reserve 22 = .ok (.iconst 1, 1) := by decide +kernel
theorem dX10_reserve_23 : decode cX10_reserve 23 = .ok (.invokevirtual 57, 3) := by decide +kernel
theorem dX10_reserve_26 : decode cX10_reserve 26 = .ok (.ireturn, 1) := by decide +kernel
theorem dX10_reserve_27 : decode cX10_reserve 27 = .ok (.aload_n 0, 1) := by decide +kernel
theorem dX10_reserve_28 : decode cX10_reserve 28 = .ok (.getfield 34, 3) := by decide +kernel
theorem dX10_reserve_31 : decode cX10_reserve 31 = .ok (.iload_n 1, 1) := by decide +kernel
theorem dX10_reserve_32 : decode cX10_reserve 32 = .ok (.iload_n 2, 1) := by decide +kernel
theorem dX10_reserve_33 : decode cX10_reserve 33 = .ok (.invokevirtual 113, 3) := by decide +kernel
theorem dX10_reserve_36 : decode cX10_reserve 36 = .ok (.iconst (-1), 1) := by decide +kernel
theorem dX10_reserve_37 : decode cX10_reserve 37 = .ok (.if_icmp .ne 16, 3) := by decide +kernel
theorem dX10_reserve_40 : decode cX10_reserve 40 = .ok (.aload_n 0, 1) := by decide +kernel
theorem dX10_reserve_41 : decode cX10_reserve 41 = .ok (.getfield 34, 3) := by decide +kernel
theorem dX10_reserve_44 : decode cX10_reserve 44 = .ok (.getfield 104, 3) := by decide +kernel
theorem dX10_reserve_47 : decode cX10_reserve 47 = .ok (.iload_n 2, 1) := by decide +kernel
theorem dX10_reserve_48 : decode cX10_reserve 48 = .ok (.iaload, 1) := by decide +kernel
theorem dX10_reserve_49 : decode cX10_reserve 49 = .ok (.iload_n 1, 1) := by decide +kernel
theorem dX10_reserve_50 : decode cX10_reserve 50 = .ok (.if_icmp .ne 9, 3) := by decide +kernel
theorem dX10_reserve_53 : decode cX10_reserve 53 = .ok (.aload_n 0, 1) := by decide +kernel
theorem dX10_reserve_54 : decode cX10_reserve 54 = .ok (.iconst 2, 1) := by decide +kernel
theorem dX10_reserve_55 : decode cX10_reserve 55 = .ok (.invokevirtual 57, 3) := by decide +kernel
theorem dX10_reserve_58 : decode cX10_reserve 58 = .ok (.ireturn, 1) := by decide +kernel
theorem dX10_reserve_59 : decode cX10_reserve 59 = .ok (.aload_n 0, 1) := by decide +kernel
theorem dX10_reserve_60 : decode cX10_reserve 60 = .ok (.getfield 34, 3) := by decide +kernel
theorem dX10_reserve_63 : decode cX10_reserve 63 = .ok (.getfield 116, 3) := by decide +kernel
theorem dX10_reserve_66 : decode cX10_reserve 66 = .ok (.bipush 10, 2) := by decide +kernel
theorem dX10_reserve_68 : decode cX10_reserve 68 = .ok (.iload_n 2, 1) := by decide +kernel
theorem dX10_reserve_69 : decode cX10_reserve 69 = .ok (.imul, 1) := by decide +kernel
theorem dX10_reserve_70 : decode cX10_reserve 70 = .ok (.aload_n 0, 1) := by decide +kernel
theorem dX10_reserve_71 : decode cX10_reserve 71 = .ok (.getfield 34, 3) := by decide +kernel
theorem dX10_reserve_74 : decode cX10_reserve 74 = .ok (.getfield 119, 3) := by decide +kernel
theorem dX10_reserve_77 : decode cX10_reserve 77 = .ok (.iload_n 2, 1) := by decide +kernel
theorem dX10_reserve_78 : decode cX10_reserve 78 = .ok (.iaload, 1) := by decide +kernel
theorem dX10_reserve_79 : decode cX10_reserve 79 = .ok (.iadd, 1) := by decide +kernel
theorem dX10_reserve_80 : decode cX10_reserve 80 = .ok (.iload_n 1, 1) := by decide +kernel
theorem dX10_reserve_81 : decode cX10_reserve 81 = .ok (.iastore, 1) := by decide +kernel
theorem dX10_reserve_82 : decode cX10_reserve 82 = .ok (.aload_n 0, 1) := by decide +kernel
theorem dX10_reserve_83 : decode cX10_reserve 83 = .ok (.getfield 34, 3) := by decide +kernel
theorem dX10_reserve_86 : decode cX10_reserve 86 = .ok (.getfield 119, 3) := by decide +kernel
theorem dX10_reserve_89 : decode cX10_reserve 89 = .ok (.iload_n 2, 1) := by decide +kernel
theorem dX10_reserve_90 : decode cX10_reserve 90 = .ok (.dup2, 1) := by decide +kernel
theorem dX10_reserve_91 : decode cX10_reserve 91 = .ok (.iaload, 1) := by decide +kernel
theorem dX10_reserve_92 : decode cX10_reserve 92 = .ok (.iconst 1, 1) := by decide +kernel
theorem dX10_reserve_93 : decode cX10_reserve 93 = .ok (.iadd, 1) := by decide +kernel
theorem dX10_reserve_94 : decode cX10_reserve 94 = .ok (.iastore, 1) := by decide +kernel
theorem dX10_reserve_95 : decode cX10_reserve 95 = .ok (.aload_n 0, 1) := by decide +kernel
theorem dX10_reserve_96 : decode cX10_reserve 96 = .ok (.getfield 34, 3) := by decide +kernel
theorem dX10_reserve_99 : decode cX10_reserve 99 = .ok (.getfield 119, 3) := by decide +kernel
theorem dX10_reserve_102 : decode cX10_reserve 102 = .ok (.iload_n 2, 1) := by decide +kernel
theorem dX10_reserve_103 : decode cX10_reserve 103 = .ok (.iaload, 1) := by decide +kernel
theorem dX10_reserve_104 : decode cX10_reserve 104 = .ok (.ireturn, 1) := by decide +kernel
theorem dX10_cancel_0 : decode cX10_cancel 0 = .ok (.aload_n 0, 1) := by decide +kernel
theorem dX10_cancel_1 : decode cX10_cancel 1 = .ok (.iconst 0, 1) := by decide +kernel
theorem dX10_cancel_2 : decode cX10_cancel 2 = .ok (.putfield 41, 3) := by decide +kernel
theorem dX10_cancel_5 : decode cX10_cancel 5 = .ok (.aload_n 0, 1) := by decide +kernel
theorem dX10_cancel_6 : decode cX10_cancel 6 = .ok (.iload_n 1, 1) := by decide +kernel
theorem dX10_cancel_7 : decode cX10_cancel 7 = .ok (.invokevirtual 107, 3) := by decide +kernel
theorem dX10_cancel_10 : decode cX10_cancel 10 = .ok (.ifCond .eq 11, 3) := by decide +kernel
theorem dX10_cancel_13 : decode cX10_cancel 13 = .ok (.aload_n 0, 1) := by decide +kernel
theorem dX10_cancel_14 : decode cX10_cancel 14 = .ok (.iload_n 2, 1) := by decide +kernel
theorem dX10_cancel_15 : decode cX10_cancel 15 = .ok (.invokevirtual 110, 3) := by decide +kernel
theorem dX10_cancel_18 : decode cX10_cancel 18 = .ok (.ifCond .ne 9, 3) := by decide +kernel
theorem dX10_cancel_21 : decode cX10_cancel 21 = .ok (.aload_n 0, 1) := by decide +kernel
theorem dX10_cancel_22 : decode cX10_cancel 22 = .ok (.iconst 1, 1) := by decide +kernel
theorem dX10_cancel_23 : decode cX10_cancel 23 = .ok (.invokevirtual 57, 3) := by decide +kernel
theorem dX10_cancel_26 : decode cX10_cancel 26 = .ok (.ireturn, 1) := by decide +kernel
theorem dX10_cancel_27 : decode cX10_cancel 27 = .ok (.aload_n 0, 1) := by decide +kernel
theorem dX10_cancel_28 : decode cX10_cancel 28 = .ok (.getfield 34, 3) := by decide +kernel
theorem dX10_cancel_31 : decode cX10_cancel 31 = .ok (.iload_n 1, 1) := by decide +kernel
theorem dX10_cancel_32 : decode cX10_cancel 32 = .ok (.iload_n 2, 1) := by decide +kernel
theorem dX10_cancel_33 : decode cX10_cancel 33 = .ok (.invokevirtual 113, 3) := by decide +kernel
theorem dX10_cancel_36 : decode cX10_cancel 36 = .ok (.istore_n 3, 1) := by decide +kernel
theorem dX10_cancel_37 : decode cX10_cancel 37 = .ok (.iload_n 3, 1) := by decide +kernel
theorem dX10_cancel_38 : decode cX10_cancel 38 = .ok (.iconst (-1), 1) := by decide +kernel
theorem dX10_cancel_39 : decode cX10_cancel 39 = .ok (.if_icmp .eq 12, 3) := by decide +kernel
theorem dX10_cancel_42 : decode cX10_cancel 42 = .ok (.aload_n 0, 1) := by decide +kernel
theorem dX10_cancel_43 : decode cX10_cancel 43 = .ok (.getfield 34, 3) := by decide +kernel
theorem dX10_cancel_46 : decode cX10_cancel 46 = .ok (.iload_n 2, 1) := by decide +kernel
theorem dX10_cancel_47 : decode cX10_cancel 47 = .ok (.iload_n 3, 1) := by decide +kernel
theorem dX10_cancel_48 : decode cX10_cancel 48 = .ok (.invokevirtual 122, 3) := by decide +kernel
theorem dX10_cancel_51 : decode cX10_cancel 51 = .ok (.iload_n 3, 1) := by decide +kernel
theorem dX10_cancel_52 : decode cX10_cancel 52 = .ok (.ireturn, 1) := by decide +kernel
theorem dX10_bookTold_0 : decode cX10_bookTold 0 = .ok (.aload_n 0, 1) := by decide +kernel
theorem dX10_bookTold_1 : decode cX10_bookTold 1 = .ok (.getfield 34, 3) := by decide +kernel
theorem dX10_bookTold_4 : decode cX10_bookTold 4 = .ok (.getfield 104, 3) := by decide +kernel
theorem dX10_bookTold_7 : decode cX10_bookTold 7 = .ok (.iload_n 1, 1) := by decide +kernel
theorem dX10_bookTold_8 : decode cX10_bookTold 8 = .ok (.iaload, 1) := by decide +kernel
theorem dX10_bookTold_9 : decode cX10_bookTold 9 = .ok (.iconst (-1), 1) := by decide +kernel
theorem dX10_bookTold_10 : decode cX10_bookTold 10 = .ok (.if_icmp .ne 7, 3) := by decide +kernel
theorem dX10_bookTold_13 : decode cX10_bookTold 13 = .ok (.iconst 1, 1) := by decide +kernel
theorem dX10_bookTold_14 : decode cX10_bookTold 14 = .ok (.goto 4, 3) := by decide +kernel
theorem dX10_bookTold_17 : decode cX10_bookTold 17 = .ok (.iconst 0, 1) := by decide +kernel
theorem dX10_bookTold_18 : decode cX10_bookTold 18 = .ok (.istore_n 3, 1) := by decide +kernel
theorem dX10_bookTold_19 : decode cX10_bookTold 19 = .ok (.iconst 0, 1) := by decide +kernel
theorem dX10_bookTold_20 : decode cX10_bookTold 20 = .ok (.istore 4, 2) := by decide +kernel
theorem dX10_bookTold_22 : decode cX10_bookTold 22 = .ok (.iconst 0, 1) := by decide +kernel
theorem dX10_bookTold_23 : decode cX10_bookTold 23 = .ok (.istore 5, 2) := by decide +kernel
theorem dX10_bookTold_25 : decode cX10_bookTold 25 = .ok (.iload 5, 2) := by decide +kernel
theorem dX10_bookTold_27 : decode cX10_bookTold 27 = .ok (.aload_n 0, 1) := by decide +kernel
theorem dX10_bookTold_28 : decode cX10_bookTold 28 = .ok (.getfield 51, 3) := by decide +kernel
theorem dX10_bookTold_31 : decode cX10_bookTold 31 = .ok (.if_icmp .ge 28, 3) := by decide +kernel
theorem dX10_bookTold_34 : decode cX10_bookTold 34 = .ok (.iload 4, 2) := by decide +kernel
theorem dX10_bookTold_36 : decode cX10_bookTold 36 = .ok (.aload_n 0, 1) := by decide +kernel
theorem dX10_bookTold_37 : decode cX10_bookTold 37 = .ok (.getfield 34, 3) := by decide +kernel
theorem dX10_bookTold_40 : decode cX10_bookTold 40 = .ok (.getfield 126, 3) := by decide +kernel
theorem dX10_bookTold_43 : decode cX10_bookTold 43 = .ok (.iload 5, 2) := by decide +kernel
theorem dX10_bookTold_45 : decode cX10_bookTold 45 = .ok (.iaload, 1) := by decide +kernel
theorem dX10_bookTold_46 : decode cX10_bookTold 46 = .ok (.iload_n 1, 1) := by decide +kernel
theorem dX10_bookTold_47 : decode cX10_bookTold 47 = .ok (.ishr, 1) := by decide +kernel
theorem dX10_bookTold_48 : decode cX10_bookTold 48 = .ok (.iconst 1, 1) := by decide +kernel
theorem dX10_bookTold_49 : decode cX10_bookTold 49 = .ok (.iand, 1) := by decide +kernel
theorem dX10_bookTold_50 : decode cX10_bookTold 50 = .ok (.iadd, 1) := by decide +kernel
theorem dX10_bookTold_51 : decode cX10_bookTold 51 = .ok (.istore 4, 2) := by decide +kernel
theorem dX10_bookTold_53 : decode cX10_bookTold 53 = .ok (.iinc 5 1, 3) := by decide +kernel
theorem dX10_bookTold_56 : decode cX10_bookTold 56 = .ok (.goto (-31), 3) := by decide +kernel
theorem dX10_bookTold_59 : decode cX10_bookTold 59 = .ok (.bipush 7, 2) := by decide +kernel
theorem dX10_bookTold_61 : decode cX10_bookTold 61 = .ok (.newarray .int, 2) := by decide +kernel
theorem dX10_bookTold_63 : decode cX10_bookTold 63 = .ok (.dup, 1) := by decide +kernel
theorem dX10_bookTold_64 : decode cX10_bookTold 64 = .ok (.iconst 0, 1) := by decide +kernel
theorem dX10_bookTold_65 : decode cX10_bookTold 65 = .ok (.aload_n 0, 1) := by decide +kernel
theorem dX10_bookTold_66 : decode cX10_bookTold 66 = .ok (.getfield 20, 3) := by decide +kernel
theorem dX10_bookTold_69 : decode cX10_bookTold 69 = .ok (.iload_n 1, 1) := by decide +kernel
theorem dX10_bookTold_70 : decode cX10_bookTold 70 = .ok (.iaload, 1) := by decide +kernel
theorem dX10_bookTold_71 : decode cX10_bookTold 71 = .ok (.iastore, 1) := by decide +kernel
theorem dX10_bookTold_72 : decode cX10_bookTold 72 = .ok (.dup, 1) := by decide +kernel
theorem dX10_bookTold_73 : decode cX10_bookTold 73 = .ok (.iconst 1, 1) := by decide +kernel
theorem dX10_bookTold_74 : decode cX10_bookTold 74 = .ok (.aload_n 0, 1) := by decide +kernel
theorem dX10_bookTold_75 : decode cX10_bookTold 75 = .ok (.getfield 34, 3) := by decide +kernel
theorem dX10_bookTold_78 : decode cX10_bookTold 78 = .ok (.getfield 104, 3) := by decide +kernel
theorem dX10_bookTold_81 : decode cX10_bookTold 81 = .ok (.iload_n 1, 1) := by decide +kernel
theorem dX10_bookTold_82 : decode cX10_bookTold 82 = .ok (.iaload, 1) := by decide +kernel
theorem dX10_bookTold_83 : decode cX10_bookTold 83 = .ok (.iastore, 1) := by decide +kernel
theorem dX10_bookTold_84 : decode cX10_bookTold 84 = .ok (.dup, 1) := by decide +kernel
theorem dX10_bookTold_85 : decode cX10_bookTold 85 = .ok (.iconst 2, 1) := by decide +kernel
theorem dX10_bookTold_86 : decode cX10_bookTold 86 = .ok (.iload_n 3, 1) := by decide +kernel
theorem dX10_bookTold_87 : decode cX10_bookTold 87 = .ok (.ifCond .eq 7, 3) := by decide +kernel
theorem dX10_bookTold_90 : decode cX10_bookTold 90 = .ok (.iconst (-1), 1) := by decide +kernel
theorem dX10_bookTold_91 : decode cX10_bookTold 91 = .ok (.goto 12, 3) := by decide +kernel
theorem dX10_bookTold_94 : decode cX10_bookTold 94 = .ok (.aload_n 0, 1) := by decide +kernel
theorem dX10_bookTold_95 : decode cX10_bookTold 95 = .ok (.getfield 34, 3) := by decide +kernel
theorem dX10_bookTold_98 : decode cX10_bookTold 98 = .ok (.getfield 129, 3) := by decide +kernel
theorem dX10_bookTold_101 : decode cX10_bookTold 101 = .ok (.iload_n 1, 1) := by decide +kernel
theorem dX10_bookTold_102 : decode cX10_bookTold 102 = .ok (.iaload, 1) := by decide +kernel
theorem dX10_bookTold_103 : decode cX10_bookTold 103 = .ok (.iastore, 1) := by decide +kernel
theorem dX10_bookTold_104 : decode cX10_bookTold 104 = .ok (.dup, 1) := by decide +kernel
theorem dX10_bookTold_105 : decode cX10_bookTold 105 = .ok (.iconst 3, 1) := by decide +kernel
theorem dX10_bookTold_106 : decode cX10_bookTold 106 = .ok (.aload_n 0, 1) := by decide +kernel
theorem dX10_bookTold_107 : decode cX10_bookTold 107 = .ok (.getfield 34, 3) := by decide +kernel
theorem dX10_bookTold_110 : decode cX10_bookTold 110 = .ok (.getfield 119, 3) := by decide +kernel
theorem dX10_bookTold_113 : decode cX10_bookTold 113 = .ok (.iload_n 1, 1) := by decide +kernel
theorem dX10_bookTold_114 : decode cX10_bookTold 114 = .ok (.iaload, 1) := by decide +kernel
theorem dX10_bookTold_115 : decode cX10_bookTold 115 = .ok (.iastore, 1) := by decide +kernel
theorem dX10_bookTold_116 : decode cX10_bookTold 116 = .ok (.dup, 1) := by decide +kernel
theorem dX10_bookTold_117 : decode cX10_bookTold 117 = .ok (.iconst 4, 1) := by decide +kernel
theorem dX10_bookTold_118 : decode cX10_bookTold 118 = .ok (.aload_n 0, 1) := by decide +kernel
theorem dX10_bookTold_119 : decode cX10_bookTold 119 = .ok (.getfield 34, 3) := by decide +kernel
theorem dX10_bookTold_122 : decode cX10_bookTold 122 = .ok (.getfield 119, 3) := by decide +kernel
theorem dX10_bookTold_125 : decode cX10_bookTold 125 = .ok (.iload_n 1, 1) := by decide +kernel
theorem dX10_bookTold_126 : decode cX10_bookTold 126 = .ok (.iaload, 1) := by decide +kernel
theorem dX10_bookTold_127 : decode cX10_bookTold 127 = .ok (.ifCond .ne 7, 3) := by decide +kernel
theorem dX10_bookTold_130 : decode cX10_bookTold 130 = .ok (.iconst (-1), 1) := by decide +kernel
theorem dX10_bookTold_131 : decode cX10_bookTold 131 = .ok (.goto 15, 3) := by decide +kernel
theorem dX10_bookTold_134 : decode cX10_bookTold 134 = .ok (.aload_n 0, 1) := by decide +kernel
theorem dX10_bookTold_135 : decode cX10_bookTold 135 = .ok (.getfield 34, 3) := by decide +kernel
theorem dX10_bookTold_138 : decode cX10_bookTold 138 = .ok (.getfield 116, 3) := by decide +kernel
theorem dX10_bookTold_141 : decode cX10_bookTold 141 = .ok (.bipush 10, 2) := by decide +kernel
theorem dX10_bookTold_143 : decode cX10_bookTold 143 = .ok (.iload_n 1, 1) := by decide +kernel
theorem dX10_bookTold_144 : decode cX10_bookTold 144 = .ok (.imul, 1) := by decide +kernel
theorem dX10_bookTold_145 : decode cX10_bookTold 145 = .ok (.iaload, 1) := by decide +kernel
theorem dX10_bookTold_146 : decode cX10_bookTold 146 = .ok (.iastore, 1) := by decide +kernel
theorem dX10_bookTold_147 : decode cX10_bookTold 147 = .ok (.dup, 1) := by decide +kernel
theorem dX10_bookTold_148 : decode cX10_bookTold 148 = .ok (.iconst 5, 1) := by decide +kernel
theorem dX10_bookTold_149 : decode cX10_bookTold 149 = .ok (.aload_n 0, 1) := by decide +kernel
theorem dX10_bookTold_150 : decode cX10_bookTold 150 = .ok (.getfield 34, 3) := by decide +kernel
theorem dX10_bookTold_153 : decode cX10_bookTold 153 = .ok (.getfield 132, 3) := by decide +kernel
theorem dX10_bookTold_156 : decode cX10_bookTold 156 = .ok (.iload_n 1, 1) := by decide +kernel
theorem dX10_bookTold_157 : decode cX10_bookTold 157 = .ok (.iaload, 1) := by decide +kernel
theorem dX10_bookTold_158 : decode cX10_bookTold 158 = .ok (.iastore, 1) := by decide +kernel
theorem dX10_bookTold_159 : decode cX10_bookTold 159 = .ok (.dup, 1) := by decide +kernel
theorem dX10_bookTold_160 : decode cX10_bookTold 160 = .ok (.bipush 6, 2) := by decide +kernel
theorem dX10_bookTold_162 : decode cX10_bookTold 162 = .ok (.iload 4, 2) := by decide +kernel
theorem dX10_bookTold_164 : decode cX10_bookTold 164 = .ok (.iastore, 1) := by decide +kernel
theorem dX10_bookTold_165 : decode cX10_bookTold 165 = .ok (.astore 5, 2) := by decide +kernel
theorem dX10_bookTold_167 : decode cX10_bookTold 167 = .ok (.aload 5, 2) := by decide +kernel
theorem dX10_bookTold_169 : decode cX10_bookTold 169 = .ok (.iload_n 2, 1) := by decide +kernel
theorem dX10_bookTold_170 : decode cX10_bookTold 170 = .ok (.iaload, 1) := by decide +kernel
theorem dX10_bookTold_171 : decode cX10_bookTold 171 = .ok (.ireturn, 1) := by decide +kernel
theorem dX10_book_0 : decode cX10_book 0 = .ok (.aload_n 0, 1) := by decide +kernel
theorem dX10_book_1 : decode cX10_book 1 = .ok (.iconst 0, 1) := by decide +kernel
theorem dX10_book_2 : decode cX10_book 2 = .ok (.putfield 41, 3) := by decide +kernel
theorem dX10_book_5 : decode cX10_book 5 = .ok (.aload_n 0, 1) := by decide +kernel
theorem dX10_book_6 : decode cX10_book 6 = .ok (.iload_n 1, 1) := by decide +kernel
theorem dX10_book_7 : decode cX10_book 7 = .ok (.invokevirtual 110, 3) := by decide +kernel
theorem dX10_book_10 : decode cX10_book 10 = .ok (.ifCond .eq 22, 3) := by decide +kernel
theorem dX10_book_13 : decode cX10_book 13 = .ok (.iload_n 2, 1) := by decide +kernel
theorem dX10_book_14 : decode cX10_book 14 = .ok (.iconst 0, 1) := by decide +kernel
theorem dX10_book_15 : decode cX10_book 15 = .ok (.bipush 6, 2) := by decide +kernel
theorem dX10_book_17 : decode cX10_book 17 = .ok (.invokestatic 47, 3) := by decide +kernel
theorem dX10_book_20 : decode cX10_book 20 = .ok (.ifCond .eq 12, 3) := by decide +kernel
theorem dX10_book_23 : decode cX10_book 23 = .ok (.aload_n 0, 1) := by decide +kernel
theorem dX10_book_24 : decode cX10_book 24 = .ok (.iload_n 1, 1) := by decide +kernel
theorem dX10_book_25 : decode cX10_book 25 = .ok (.iload_n 2, 1) := by decide +kernel
theorem dX10_book_26 : decode cX10_book 26 = .ok (.invokevirtual 135, 3) := by decide +kernel
theorem dX10_book_29 : decode cX10_book 29 = .ok (.goto 8, 3) := by decide +kernel
theorem dX10_book_32 : decode cX10_book 32 = .ok (.aload_n 0, 1) := by decide +kernel
theorem dX10_book_33 : decode cX10_book 33 = .ok (.iconst 1, 1) := by decide +kernel
theorem dX10_book_34 : decode cX10_book 34 = .ok (.invokevirtual 57, 3) := by decide +kernel
theorem dX10_book_37 : decode cX10_book 37 = .ok (.ireturn, 1) := by decide +kernel
theorem dX10_readerTold_0 : decode cX10_readerTold 0 = .ok (.iload_n 2, 1) := by decide +kernel
theorem dX10_readerTold_1 : decode cX10_readerTold 1 = .ok (.iconst 3, 1) := by decide +kernel
theorem dX10_readerTold_2 : decode cX10_readerTold 2 = .ok (.if_icmp .ge 14, 3) := by decide +kernel
theorem dX10_readerTold_5 : decode cX10_readerTold 5 = .ok (.aload_n 0, 1) := by decide +kernel
theorem dX10_readerTold_6 : decode cX10_readerTold 6 = .ok (.getfield 23, 3) := by decide +kernel
theorem dX10_readerTold_9 : decode cX10_readerTold 9 = .ok (.iconst 3, 1) := by decide +kernel
theorem dX10_readerTold_10 : decode cX10_readerTold 10 = .ok (.iload_n 1, 1) := by decide +kernel
theorem dX10_readerTold_11 : decode cX10_readerTold 11 = .ok (.imul, 1) := by decide +kernel
theorem dX10_readerTold_12 : decode cX10_readerTold 12 = .ok (.iload_n 2, 1) := by decide +kernel
theorem dX10_readerTold_13 : decode cX10_readerTold 13 = .ok (.iadd, 1) := by decide +kernel
theorem dX10_readerTold_14 : decode cX10_readerTold 14 = .ok (.iaload, 1) := by decide +kernel
theorem dX10_readerTold_15 : decode cX10_readerTold 15 = .ok (.ireturn, 1) := by decide +kernel
theorem dX10_readerTold_16 : decode cX10_readerTold 16 = .ok (.iconst 0, 1) := by decide +kernel
theorem dX10_readerTold_17 : decode cX10_readerTold 17 = .ok (.istore_n 3, 1) := by decide +kernel
theorem dX10_readerTold_18 : decode cX10_readerTold 18 = .ok (.iconst 0, 1) := by decide +kernel
theorem dX10_readerTold_19 : decode cX10_readerTold 19 = .ok (.istore 4, 2) := by decide +kernel
theorem dX10_readerTold_21 : decode cX10_readerTold 21 = .ok (.iload 4, 2) := by decide +kernel
theorem dX10_readerTold_23 : decode cX10_readerTold 23 = .ok (.aload_n 0, 1) := by decide +kernel
theorem dX10_readerTold_24 : decode cX10_readerTold 24 = .ok (.getfield 54, 3) := by decide +kernel
theorem dX10_readerTold_27 : decode cX10_readerTold 27 = .ok (.if_icmp .ge 31, 3) := by decide +kernel
theorem dX10_readerTold_30 : decode cX10_readerTold 30 = .ok (.iload_n 3, 1) := by decide +kernel
theorem dX10_readerTold_31 : decode cX10_readerTold 31 = .ok (.aload_n 0, 1) := by decide +kernel
theorem dX10_readerTold_32 : decode cX10_readerTold 32 = .ok (.getfield 34, 3) := by decide +kernel
theorem dX10_readerTold_35 : decode cX10_readerTold 35 = .ok (.iload_n 1, 1) := by decide +kernel
theorem dX10_readerTold_36 : decode cX10_readerTold 36 = .ok (.iload 4, 2) := by decide +kernel
theorem dX10_readerTold_38 : decode cX10_readerTold 38 = .ok (.invokevirtual 113, 3) := by decide +kernel
theorem dX10_readerTold_41 : decode cX10_readerTold 41 = .ok (.iconst (-1), 1) := by decide +kernel
theorem dX10_readerTold_42 : decode cX10_readerTold 42 = .ok (.if_icmp .ne 7, 3) := by decide +kernel
theorem dX10_readerTold_45 : decode cX10_readerTold 45 = .ok (.iconst 0, 1) := by decide +kernel
theorem dX10_readerTold_46 : decode cX10_readerTold 46 = .ok (.goto 4, 3) := by decide +kernel
theorem dX10_readerTold_49 : decode cX10_readerTold 49 = .ok (.iconst 1, 1) := by decide +kernel
theorem dX10_readerTold_50 : decode cX10_readerTold 50 = .ok (.iadd, 1) := by decide +kernel
theorem dX10_readerTold_51 : decode cX10_readerTold 51 = .ok (.istore_n 3, 1) := by decide +kernel
theorem dX10_readerTold_52 : decode cX10_readerTold 52 = .ok (.iinc 4 1, 3) := by decide +kernel
theorem dX10_readerTold_55 : decode cX10_readerTold 55 = .ok (.goto (-34), 3) := by decide +kernel
theorem dX10_readerTold_58 : decode cX10_readerTold 58 = .ok (.iload_n 2, 1) := by decide +kernel
theorem dX10_readerTold_59 : decode cX10_readerTold 59 = .ok (.iconst 3, 1) := by decide +kernel
theorem dX10_readerTold_60 : decode cX10_readerTold 60 = .ok (.if_icmp .ne 14, 3) := by decide +kernel
theorem dX10_readerTold_63 : decode cX10_readerTold 63 = .ok (.aload_n 0, 1) := by decide +kernel
theorem dX10_readerTold_64 : decode cX10_readerTold 64 = .ok (.getfield 34, 3) := by decide +kernel
theorem dX10_readerTold_67 : decode cX10_readerTold 67 = .ok (.iload_n 1, 1) := by decide +kernel
theorem dX10_readerTold_68 : decode cX10_readerTold 68 = .ok (.invokevirtual 138, 3) := by decide +kernel
theorem dX10_readerTold_71 : decode cX10_readerTold 71 = .ok (.goto 59, 3) := by decide +kernel
theorem dX10_readerTold_74 : decode cX10_readerTold 74 = .ok (.iload_n 2, 1) := by decide +kernel
theorem dX10_readerTold_75 : decode cX10_readerTold 75 = .ok (.iconst 4, 1) := by decide +kernel
theorem dX10_readerTold_76 : decode cX10_readerTold 76 = .ok (.if_icmp .ne 18, 3) := by decide +kernel
theorem dX10_readerTold_79 : decode cX10_readerTold 79 = .ok (.aload_n 0, 1) := by decide +kernel
theorem dX10_readerTold_80 : decode cX10_readerTold 80 = .ok (.getfield 34, 3) := by decide +kernel
theorem dX10_readerTold_83 : decode cX10_readerTold 83 = .ok (.getfield 126, 3) := by decide +kernel
theorem dX10_readerTold_86 : decode cX10_readerTold 86 = .ok (.iload_n 1, 1) := by decide +kernel
theorem dX10_readerTold_87 : decode cX10_readerTold 87 = .ok (.iaload, 1) := by decide +kernel
theorem dX10_readerTold_88 : decode cX10_readerTold 88 = .ok (.invokestatic 141, 3) := by decide +kernel
theorem dX10_readerTold_91 : decode cX10_readerTold 91 = .ok (.goto 39, 3) := by decide +kernel
theorem dX10_readerTold_94 : decode cX10_readerTold 94 = .ok (.iload_n 2, 1) := by decide +kernel
theorem dX10_readerTold_95 : decode cX10_readerTold 95 = .ok (.iconst 5, 1) := by decide +kernel
theorem dX10_readerTold_96 : decode cX10_readerTold 96 = .ok (.if_icmp .ne 15, 3) := by decide +kernel
theorem dX10_readerTold_99 : decode cX10_readerTold 99 = .ok (.aload_n 0, 1) := by decide +kernel
theorem dX10_readerTold_100 : decode cX10_readerTold 100 = .ok (.getfield 34, 3) := by decide +kernel
theorem dX10_readerTold_103 : decode cX10_readerTold 103 = .ok (.getfield 146, 3) := by decide +kernel
theorem dX10_readerTold_106 : decode cX10_readerTold 106 = .ok (.iload_n 1, 1) := by decide +kernel
theorem dX10_readerTold_107 : decode cX10_readerTold 107 = .ok (.iaload, 1) := by decide +kernel
theorem dX10_readerTold_108 : decode cX10_readerTold 108 = .ok (.goto 22, 3) := by decide +kernel
theorem dX10_readerTold_111 : decode cX10_readerTold 111 = .ok (.iload_n 2, 1) := by decide +kernel
theorem dX10_readerTold_112 : decode cX10_readerTold 112 = .ok (.bipush 6, 2) := by decide +kernel
theorem dX10_readerTold_114 : decode cX10_readerTold 114 = .ok (.if_icmp .ne 7, 3) := by decide +kernel
theorem dX10_readerTold_117 : decode cX10_readerTold 117 = .ok (.iload_n 3, 1) := by decide +kernel
theorem dX10_readerTold_118 : decode cX10_readerTold 118 = .ok (.goto 12, 3) := by decide +kernel
theorem dX10_readerTold_121 : decode cX10_readerTold 121 = .ok (.aload_n 0, 1) := by decide +kernel
theorem dX10_readerTold_122 : decode cX10_readerTold 122 = .ok (.getfield 34, 3) := by decide +kernel
theorem dX10_readerTold_125 : decode cX10_readerTold 125 = .ok (.getfield 149, 3) := by decide +kernel
theorem dX10_readerTold_128 : decode cX10_readerTold 128 = .ok (.iload_n 1, 1) := by decide +kernel
theorem dX10_readerTold_129 : decode cX10_readerTold 129 = .ok (.iaload, 1) := by decide +kernel
theorem dX10_readerTold_130 : decode cX10_readerTold 130 = .ok (.ireturn, 1) := by decide +kernel
theorem dX10_reader_0 : decode cX10_reader 0 = .ok (.aload_n 0, 1) := by decide +kernel
theorem dX10_reader_1 : decode cX10_reader 1 = .ok (.iconst 0, 1) := by decide +kernel
theorem dX10_reader_2 : decode cX10_reader 2 = .ok (.putfield 41, 3) := by decide +kernel
theorem dX10_reader_5 : decode cX10_reader 5 = .ok (.aload_n 0, 1) := by decide +kernel
theorem dX10_reader_6 : decode cX10_reader 6 = .ok (.iload_n 1, 1) := by decide +kernel
theorem dX10_reader_7 : decode cX10_reader 7 = .ok (.invokevirtual 107, 3) := by decide +kernel
theorem dX10_reader_10 : decode cX10_reader 10 = .ok (.ifCond .eq 22, 3) := by decide +kernel
theorem dX10_reader_13 : decode cX10_reader 13 = .ok (.iload_n 2, 1) := by decide +kernel
theorem dX10_reader_14 : decode cX10_reader 14 = .ok (.iconst 0, 1) := by decide +kernel
theorem dX10_reader_15 : decode cX10_reader 15 = .ok (.bipush 7, 2) := by decide +kernel
theorem dX10_reader_17 : decode cX10_reader 17 = .ok (.invokestatic 47, 3) := by decide +kernel
theorem dX10_reader_20 : decode cX10_reader 20 = .ok (.ifCond .eq 12, 3) := by decide +kernel
theorem dX10_reader_23 : decode cX10_reader 23 = .ok (.aload_n 0, 1) := by decide +kernel
theorem dX10_reader_24 : decode cX10_reader 24 = .ok (.iload_n 1, 1) := by decide +kernel
theorem dX10_reader_25 : decode cX10_reader 25 = .ok (.iload_n 2, 1) := by decide +kernel
theorem dX10_reader_26 : decode cX10_reader 26 = .ok (.invokevirtual 152, 3) := by decide +kernel
theorem dX10_reader_29 : decode cX10_reader 29 = .ok (.goto 8, 3) := by decide +kernel
theorem dX10_reader_32 : decode cX10_reader 32 = .ok (.aload_n 0, 1) := by decide +kernel
theorem dX10_reader_33 : decode cX10_reader 33 = .ok (.iconst 1, 1) := by decide +kernel
theorem dX10_reader_34 : decode cX10_reader 34 = .ok (.invokevirtual 57, 3) := by decide +kernel
theorem dX10_reader_37 : decode cX10_reader 37 = .ok (.ireturn, 1) := by decide +kernel
theorem dX10_pay_0 : decode cX10_pay 0 = .ok (.aload_n 0, 1) := by decide +kernel
theorem dX10_pay_1 : decode cX10_pay 1 = .ok (.iconst 0, 1) := by decide +kernel
theorem dX10_pay_2 : decode cX10_pay 2 = .ok (.putfield 41, 3) := by decide +kernel
theorem dX10_pay_5 : decode cX10_pay 5 = .ok (.aload_n 0, 1) := by decide +kernel
theorem dX10_pay_6 : decode cX10_pay 6 = .ok (.iload_n 1, 1) := by decide +kernel
theorem dX10_pay_7 : decode cX10_pay 7 = .ok (.invokevirtual 107, 3) := by decide +kernel
theorem dX10_pay_10 : decode cX10_pay 10 = .ok (.ifCond .ne 9, 3) := by decide +kernel
theorem dX10_pay_13 : decode cX10_pay 13 = .ok (.aload_n 0, 1) := by decide +kernel
theorem dX10_pay_14 : decode cX10_pay 14 = .ok (.iconst 1, 1) := by decide +kernel
theorem dX10_pay_15 : decode cX10_pay 15 = .ok (.invokevirtual 57, 3) := by decide +kernel
theorem dX10_pay_18 : decode cX10_pay 18 = .ok (.ireturn, 1) := by decide +kernel
theorem dX10_pay_19 : decode cX10_pay 19 = .ok (.iload_n 2, 1) := by decide +kernel
theorem dX10_pay_20 : decode cX10_pay 20 = .ok (.iconst 1, 1) := by decide +kernel
theorem dX10_pay_21 : decode cX10_pay 21 = .ok (.aload_n 0, 1) := by decide +kernel
theorem dX10_pay_22 : decode cX10_pay 22 = .ok (.getfield 34, 3) := by decide +kernel
theorem dX10_pay_25 : decode cX10_pay 25 = .ok (.getfield 146, 3) := by decide +kernel
theorem dX10_pay_28 : decode cX10_pay 28 = .ok (.iload_n 1, 1) := by decide +kernel
theorem dX10_pay_29 : decode cX10_pay 29 = .ok (.iaload, 1) := by decide +kernel
theorem dX10_pay_30 : decode cX10_pay 30 = .ok (.invokestatic 47, 3) := by decide +kernel
theorem dX10_pay_33 : decode cX10_pay 33 = .ok (.ifCond .ne 9, 3) := by decide +kernel
theorem dX10_pay_36 : decode cX10_pay 36 = .ok (.aload_n 0, 1) := by decide +kernel
theorem dX10_pay_37 : decode cX10_pay 37 = .ok (.iconst 2, 1) := by decide +kernel
theorem dX10_pay_38 : decode cX10_pay 38 = .ok (.invokevirtual 57, 3) := by decide +kernel
theorem dX10_pay_41 : decode cX10_pay 41 = .ok (.ireturn, 1) := by decide +kernel
theorem dX10_pay_42 : decode cX10_pay 42 = .ok (.aload_n 0, 1) := by decide +kernel
theorem dX10_pay_43 : decode cX10_pay 43 = .ok (.getfield 34, 3) := by decide +kernel
theorem dX10_pay_46 : decode cX10_pay 46 = .ok (.getfield 146, 3) := by decide +kernel
theorem dX10_pay_49 : decode cX10_pay 49 = .ok (.iload_n 1, 1) := by decide +kernel
theorem dX10_pay_50 : decode cX10_pay 50 = .ok (.dup2, 1) := by decide +kernel
theorem dX10_pay_51 : decode cX10_pay 51 = .ok (.iaload, 1) := by decide +kernel
theorem dX10_pay_52 : decode cX10_pay 52 = .ok (.iload_n 2, 1) := by decide +kernel
theorem dX10_pay_53 : decode cX10_pay 53 = .ok (.isub, 1) := by decide +kernel
theorem dX10_pay_54 : decode cX10_pay 54 = .ok (.iastore, 1) := by decide +kernel
theorem dX10_pay_55 : decode cX10_pay 55 = .ok (.aload_n 0, 1) := by decide +kernel
theorem dX10_pay_56 : decode cX10_pay 56 = .ok (.getfield 34, 3) := by decide +kernel
theorem dX10_pay_59 : decode cX10_pay 59 = .ok (.getfield 146, 3) := by decide +kernel
theorem dX10_pay_62 : decode cX10_pay 62 = .ok (.iload_n 1, 1) := by decide +kernel
theorem dX10_pay_63 : decode cX10_pay 63 = .ok (.iaload, 1) := by decide +kernel
theorem dX10_pay_64 : decode cX10_pay 64 = .ok (.ireturn, 1) := by decide +kernel
theorem dX10_pass_0 : decode cX10_pass 0 = .ok (.iconst 0, 1) := by decide +kernel
theorem dX10_pass_1 : decode cX10_pass 1 = .ok (.istore_n 2, 1) := by decide +kernel
theorem dX10_pass_2 : decode cX10_pass 2 = .ok (.iconst 0, 1) := by decide +kernel
theorem dX10_pass_3 : decode cX10_pass 3 = .ok (.istore_n 3, 1) := by decide +kernel
theorem dX10_pass_4 : decode cX10_pass 4 = .ok (.iload_n 3, 1) := by decide +kernel
theorem dX10_pass_5 : decode cX10_pass 5 = .ok (.iload_n 1, 1) := by decide +kernel
theorem dX10_pass_6 : decode cX10_pass 6 = .ok (.if_icmp .ge 16, 3) := by decide +kernel
theorem dX10_pass_9 : decode cX10_pass 9 = .ok (.iload_n 2, 1) := by decide +kernel
theorem dX10_pass_10 : decode cX10_pass 10 = .ok (.aload_n 0, 1) := by decide +kernel
theorem dX10_pass_11 : decode cX10_pass 11 = .ok (.invokevirtual 155, 3) := by decide +kernel
theorem dX10_pass_14 : decode cX10_pass 14 = .ok (.iadd, 1) := by decide +kernel
theorem dX10_pass_15 : decode cX10_pass 15 = .ok (.istore_n 2, 1) := by decide +kernel
theorem dX10_pass_16 : decode cX10_pass 16 = .ok (.iinc 3 1, 3) := by decide +kernel
theorem dX10_pass_19 : decode cX10_pass 19 = .ok (.goto (-15), 3) := by decide +kernel
theorem dX10_pass_22 : decode cX10_pass 22 = .ok (.iload_n 2, 1) := by decide +kernel
theorem dX10_pass_23 : decode cX10_pass 23 = .ok (.ireturn, 1) := by decide +kernel
theorem dX10_pass__0 : decode cX10_pass_ 0 = .ok (.aload_n 0, 1) := by decide +kernel
theorem dX10_pass__1 : decode cX10_pass_ 1 = .ok (.iconst 0, 1) := by decide +kernel
theorem dX10_pass__2 : decode cX10_pass_ 2 = .ok (.putfield 41, 3) := by decide +kernel
theorem dX10_pass__5 : decode cX10_pass_ 5 = .ok (.iload_n 1, 1) := by decide +kernel
theorem dX10_pass__6 : decode cX10_pass_ 6 = .ok (.iconst 1, 1) := by decide +kernel
theorem dX10_pass__7 : decode cX10_pass_ 7 = .ok (.bipush 60, 2) := by decide +kernel
theorem dX10_pass__9 : decode cX10_pass_ 9 = .ok (.invokestatic 47, 3) := by decide +kernel
theorem dX10_pass__12 : decode cX10_pass_ 12 = .ok (.ifCond .eq 14, 3) := by decide +kernel
theorem dX10_pass__15 : decode cX10_pass_ 15 = .ok (.aload_n 0, 1) := by decide +kernel
theorem dX10_pass__16 : decode cX10_pass_ 16 = .ok (.getfield 34, 3) := by decide +kernel
theorem dX10_pass__19 : decode cX10_pass_ 19 = .ok (.iload_n 1, 1) := by decide +kernel
theorem dX10_pass__20 : decode cX10_pass_ 20 = .ok (.invokestatic 159, 3) := by decide +kernel
theorem dX10_pass__23 : decode cX10_pass_ 23 = .ok (.goto 8, 3) := by decide +kernel
theorem dX10_pass__26 : decode cX10_pass_ 26 = .ok (.aload_n 0, 1) := by decide +kernel
theorem dX10_pass__27 : decode cX10_pass_ 27 = .ok (.iconst 1, 1) := by decide +kernel
theorem dX10_pass__28 : decode cX10_pass_ 28 = .ok (.invokevirtual 57, 3) := by decide +kernel
theorem dX10_pass__31 : decode cX10_pass_ 31 = .ok (.ireturn, 1) := by decide +kernel
theorem dX10_counted_0 : decode cX10_counted 0 = .ok (.iconst 0, 1) := by decide +kernel
theorem dX10_counted_1 : decode cX10_counted 1 = .ok (.istore_n 2, 1) := by decide +kernel
theorem dX10_counted_2 : decode cX10_counted 2 = .ok (.iconst 0, 1) := by decide +kernel
theorem dX10_counted_3 : decode cX10_counted 3 = .ok (.istore_n 3, 1) := by decide +kernel
theorem dX10_counted_4 : decode cX10_counted 4 = .ok (.iload_n 3, 1) := by decide +kernel
theorem dX10_counted_5 : decode cX10_counted 5 = .ok (.aload_n 0, 1) := by decide +kernel
theorem dX10_counted_6 : decode cX10_counted 6 = .ok (.getfield 65, 3) := by decide +kernel
theorem dX10_counted_9 : decode cX10_counted 9 = .ok (.if_icmp .ge 29, 3) := by decide +kernel
theorem dX10_counted_12 : decode cX10_counted 12 = .ok (.iload_n 2, 1) := by decide +kernel
theorem dX10_counted_13 : decode cX10_counted 13 = .ok (.aload_n 0, 1) := by decide +kernel
theorem dX10_counted_14 : decode cX10_counted 14 = .ok (.getfield 34, 3) := by decide +kernel
theorem dX10_counted_17 : decode cX10_counted 17 = .ok (.iload_n 3, 1) := by decide +kernel
theorem dX10_counted_18 : decode cX10_counted 18 = .ok (.invokevirtual 94, 3) := by decide +kernel
theorem dX10_counted_21 : decode cX10_counted 21 = .ok (.iconst (-1), 1) := by decide +kernel
theorem dX10_counted_22 : decode cX10_counted 22 = .ok (.if_icmp .ne 7, 3) := by decide +kernel
theorem dX10_counted_25 : decode cX10_counted 25 = .ok (.iconst 1, 1) := by decide +kernel
theorem dX10_counted_26 : decode cX10_counted 26 = .ok (.goto 4, 3) := by decide +kernel
theorem dX10_counted_29 : decode cX10_counted 29 = .ok (.iconst 0, 1) := by decide +kernel
theorem dX10_counted_30 : decode cX10_counted 30 = .ok (.iadd, 1) := by decide +kernel
theorem dX10_counted_31 : decode cX10_counted 31 = .ok (.istore_n 2, 1) := by decide +kernel
theorem dX10_counted_32 : decode cX10_counted 32 = .ok (.iinc 3 1, 3) := by decide +kernel
theorem dX10_counted_35 : decode cX10_counted 35 = .ok (.goto (-31), 3) := by decide +kernel
theorem dX10_counted_38 : decode cX10_counted 38 = .ok (.bipush 10, 2) := by decide +kernel
theorem dX10_counted_40 : decode cX10_counted 40 = .ok (.newarray .int, 2) := by decide +kernel
theorem dX10_counted_42 : decode cX10_counted 42 = .ok (.dup, 1) := by decide +kernel
theorem dX10_counted_43 : decode cX10_counted 43 = .ok (.iconst 0, 1) := by decide +kernel
theorem dX10_counted_44 : decode cX10_counted 44 = .ok (.aload_n 0, 1) := by decide +kernel
theorem dX10_counted_45 : decode cX10_counted 45 = .ok (.getfield 34, 3) := by decide +kernel
theorem dX10_counted_48 : decode cX10_counted 48 = .ok (.getfield 162, 3) := by decide +kernel
theorem dX10_counted_51 : decode cX10_counted 51 = .ok (.iastore, 1) := by decide +kernel
theorem dX10_counted_52 : decode cX10_counted 52 = .ok (.dup, 1) := by decide +kernel
theorem dX10_counted_53 : decode cX10_counted 53 = .ok (.iconst 1, 1) := by decide +kernel
theorem dX10_counted_54 : decode cX10_counted 54 = .ok (.aload_n 0, 1) := by decide +kernel
theorem dX10_counted_55 : decode cX10_counted 55 = .ok (.getfield 44, 3) := by decide +kernel
theorem dX10_counted_58 : decode cX10_counted 58 = .ok (.iastore, 1) := by decide +kernel
theorem dX10_counted_59 : decode cX10_counted 59 = .ok (.dup, 1) := by decide +kernel
theorem dX10_counted_60 : decode cX10_counted 60 = .ok (.iconst 2, 1) := by decide +kernel
theorem dX10_counted_61 : decode cX10_counted 61 = .ok (.aload_n 0, 1) := by decide +kernel
theorem dX10_counted_62 : decode cX10_counted 62 = .ok (.getfield 65, 3) := by decide +kernel
theorem dX10_counted_65 : decode cX10_counted 65 = .ok (.iastore, 1) := by decide +kernel
theorem dX10_counted_66 : decode cX10_counted 66 = .ok (.dup, 1) := by decide +kernel
theorem dX10_counted_67 : decode cX10_counted 67 = .ok (.iconst 3, 1) := by decide +kernel
theorem dX10_counted_68 : decode cX10_counted 68 = .ok (.aload_n 0, 1) := by decide +kernel
theorem dX10_counted_69 : decode cX10_counted 69 = .ok (.getfield 54, 3) := by decide +kernel
theorem dX10_counted_72 : decode cX10_counted 72 = .ok (.iastore, 1) := by decide +kernel
theorem dX10_counted_73 : decode cX10_counted 73 = .ok (.dup, 1) := by decide +kernel
theorem dX10_counted_74 : decode cX10_counted 74 = .ok (.iconst 4, 1) := by decide +kernel
theorem dX10_counted_75 : decode cX10_counted 75 = .ok (.aload_n 0, 1) := by decide +kernel
theorem dX10_counted_76 : decode cX10_counted 76 = .ok (.getfield 51, 3) := by decide +kernel
theorem dX10_counted_79 : decode cX10_counted 79 = .ok (.iastore, 1) := by decide +kernel
theorem dX10_counted_80 : decode cX10_counted 80 = .ok (.dup, 1) := by decide +kernel
theorem dX10_counted_81 : decode cX10_counted 81 = .ok (.iconst 5, 1) := by decide +kernel
theorem dX10_counted_82 : decode cX10_counted 82 = .ok (.aload_n 0, 1) := by decide +kernel
theorem dX10_counted_83 : decode cX10_counted 83 = .ok (.getfield 34, 3) := by decide +kernel
theorem dX10_counted_86 : decode cX10_counted 86 = .ok (.iconst (-1), 1) := by decide +kernel
theorem dX10_counted_87 : decode cX10_counted 87 = .ok (.invokevirtual 138, 3) := by decide +kernel
theorem dX10_counted_90 : decode cX10_counted 90 = .ok (.iastore, 1) := by decide +kernel
theorem dX10_counted_91 : decode cX10_counted 91 = .ok (.dup, 1) := by decide +kernel
theorem dX10_counted_92 : decode cX10_counted 92 = .ok (.bipush 6, 2) := by decide +kernel
theorem dX10_counted_94 : decode cX10_counted 94 = .ok (.aload_n 0, 1) := by decide +kernel
theorem dX10_counted_95 : decode cX10_counted 95 = .ok (.getfield 34, 3) := by decide +kernel
theorem dX10_counted_98 : decode cX10_counted 98 = .ok (.getfield 165, 3) := by decide +kernel
theorem dX10_counted_101 : decode cX10_counted 101 = .ok (.iastore, 1) := by decide +kernel
theorem dX10_counted_102 : decode cX10_counted 102 = .ok (.dup, 1) := by decide +kernel
theorem dX10_counted_103 : decode cX10_counted 103 = .ok (.bipush 7, 2) := by decide +kernel
theorem dX10_counted_105 : decode cX10_counted 105 = .ok (.aload_n 0, 1) := by decide +kernel
theorem dX10_counted_106 : decode cX10_counted 106 = .ok (.getfield 34, 3) := by decide +kernel
theorem dX10_counted_109 : decode cX10_counted 109 = .ok (.invokevirtual 168, 3) := by decide +kernel
theorem dX10_counted_112 : decode cX10_counted 112 = .ok (.iastore, 1) := by decide +kernel
theorem dX10_counted_113 : decode cX10_counted 113 = .ok (.dup, 1) := by decide +kernel
theorem dX10_counted_114 : decode cX10_counted 114 = .ok (.bipush 8, 2) := by decide +kernel
theorem dX10_counted_116 : decode cX10_counted 116 = .ok (.iload_n 2, 1) := by decide +kernel
theorem dX10_counted_117 : decode cX10_counted 117 = .ok (.iastore, 1) := by decide +kernel
theorem dX10_counted_118 : decode cX10_counted 118 = .ok (.dup, 1) := by decide +kernel
theorem dX10_counted_119 : decode cX10_counted 119 = .ok (.bipush 9, 2) := by decide +kernel
theorem dX10_counted_121 : decode cX10_counted 121 = .ok (.aload_n 0, 1) := by decide +kernel
theorem dX10_counted_122 : decode cX10_counted 122 = .ok (.getfield 34, 3) := by decide +kernel
theorem dX10_counted_125 : decode cX10_counted 125 = .ok (.getfield 171, 3) := by decide +kernel
theorem dX10_counted_128 : decode cX10_counted 128 = .ok (.iastore, 1) := by decide +kernel
theorem dX10_counted_129 : decode cX10_counted 129 = .ok (.astore_n 3, 1) := by decide +kernel
theorem dX10_counted_130 : decode cX10_counted 130 = .ok (.aload_n 3, 1) := by decide +kernel
theorem dX10_counted_131 : decode cX10_counted 131 = .ok (.iload_n 1, 1) := by decide +kernel
theorem dX10_counted_132 : decode cX10_counted 132 = .ok (.iaload, 1) := by decide +kernel
theorem dX10_counted_133 : decode cX10_counted 133 = .ok (.ireturn, 1) := by decide +kernel
theorem dX10_count_0 : decode cX10_count 0 = .ok (.aload_n 0, 1) := by decide +kernel
theorem dX10_count_1 : decode cX10_count 1 = .ok (.iconst 0, 1) := by decide +kernel
theorem dX10_count_2 : decode cX10_count 2 = .ok (.putfield 41, 3) := by decide +kernel
theorem dX10_count_5 : decode cX10_count 5 = .ok (.iload_n 1, 1) := by decide +kernel
theorem dX10_count_6 : decode cX10_count 6 = .ok (.iconst 0, 1) := by decide +kernel
theorem dX10_count_7 : decode cX10_count 7 = .ok (.bipush 9, 2) := by decide +kernel
theorem dX10_count_9 : decode cX10_count 9 = .ok (.invokestatic 47, 3) := by decide +kernel
theorem dX10_count_12 : decode cX10_count 12 = .ok (.ifCond .eq 11, 3) := by decide +kernel
theorem dX10_count_15 : decode cX10_count 15 = .ok (.aload_n 0, 1) := by decide +kernel
theorem dX10_count_16 : decode cX10_count 16 = .ok (.iload_n 1, 1) := by decide +kernel
theorem dX10_count_17 : decode cX10_count 17 = .ok (.invokevirtual 174, 3) := by decide +kernel
theorem dX10_count_20 : decode cX10_count 20 = .ok (.goto 8, 3) := by decide +kernel
theorem dX10_count_23 : decode cX10_count 23 = .ok (.aload_n 0, 1) := by decide +kernel
theorem dX10_count_24 : decode cX10_count 24 = .ok (.iconst 1, 1) := by decide +kernel
theorem dX10_count_25 : decode cX10_count 25 = .ok (.invokevirtual 57, 3) := by decide +kernel
theorem dX10_count_28 : decode cX10_count 28 = .ok (.ireturn, 1) := by decide +kernel
theorem dX10_foresee_0 : decode cX10_foresee 0 = .ok (.aload_n 0, 1) := by decide +kernel
theorem dX10_foresee_1 : decode cX10_foresee 1 = .ok (.iconst 0, 1) := by decide +kernel
theorem dX10_foresee_2 : decode cX10_foresee 2 = .ok (.putfield 41, 3) := by decide +kernel
theorem dX10_foresee_5 : decode cX10_foresee 5 = .ok (.iload_n 1, 1) := by decide +kernel
theorem dX10_foresee_6 : decode cX10_foresee 6 = .ok (.iconst 1, 1) := by decide +kernel
theorem dX10_foresee_7 : decode cX10_foresee 7 = .ok (.bipush 60, 2) := by decide +kernel
theorem dX10_foresee_9 : decode cX10_foresee 9 = .ok (.invokestatic 47, 3) := by decide +kernel
theorem dX10_foresee_12 : decode cX10_foresee 12 = .ok (.ifCond .ne 9, 3) := by decide +kernel
theorem dX10_foresee_15 : decode cX10_foresee 15 = .ok (.aload_n 0, 1) := by decide +kernel
theorem dX10_foresee_16 : decode cX10_foresee 16 = .ok (.iconst 1, 1) := by decide +kernel
theorem dX10_foresee_17 : decode cX10_foresee 17 = .ok (.invokevirtual 57, 3) := by decide +kernel
theorem dX10_foresee_20 : decode cX10_foresee 20 = .ok (.ireturn, 1) := by decide +kernel
theorem dX10_foresee_21 : decode cX10_foresee 21 = .ok (.iload_n 2, 1) := by decide +kernel
theorem dX10_foresee_22 : decode cX10_foresee 22 = .ok (.iconst 0, 1) := by decide +kernel
theorem dX10_foresee_23 : decode cX10_foresee 23 = .ok (.iconst 3, 1) := by decide +kernel
theorem dX10_foresee_24 : decode cX10_foresee 24 = .ok (.invokestatic 47, 3) := by decide +kernel
theorem dX10_foresee_27 : decode cX10_foresee 27 = .ok (.ifCond .ne 9, 3) := by decide +kernel
theorem dX10_foresee_30 : decode cX10_foresee 30 = .ok (.aload_n 0, 1) := by decide +kernel
theorem dX10_foresee_31 : decode cX10_foresee 31 = .ok (.iconst 2, 1) := by decide +kernel
theorem dX10_foresee_32 : decode cX10_foresee 32 = .ok (.invokevirtual 57, 3) := by decide +kernel
theorem dX10_foresee_35 : decode cX10_foresee 35 = .ok (.ireturn, 1) := by decide +kernel
theorem dX10_foresee_36 : decode cX10_foresee 36 = .ok (.aload_n 0, 1) := by decide +kernel
theorem dX10_foresee_37 : decode cX10_foresee 37 = .ok (.getfield 38, 3) := by decide +kernel
theorem dX10_foresee_40 : decode cX10_foresee 40 = .ok (.aload_n 0, 1) := by decide +kernel
theorem dX10_foresee_41 : decode cX10_foresee 41 = .ok (.getfield 34, 3) := by decide +kernel
theorem dX10_foresee_44 : decode cX10_foresee 44 = .ok (.invokevirtual 177, 3) := by decide +kernel
theorem dX10_foresee_47 : decode cX10_foresee 47 = .ok (.aload_n 0, 1) := by decide +kernel
theorem dX10_foresee_48 : decode cX10_foresee 48 = .ok (.getfield 38, 3) := by decide +kernel
theorem dX10_foresee_51 : decode cX10_foresee 51 = .ok (.iload_n 1, 1) := by decide +kernel
theorem dX10_foresee_52 : decode cX10_foresee 52 = .ok (.invokestatic 159, 3) := by decide +kernel
theorem dX10_foresee_55 : decode cX10_foresee 55 = .ok (.istore_n 3, 1) := by decide +kernel
theorem dX10_foresee_56 : decode cX10_foresee 56 = .ok (.iload_n 2, 1) := by decide +kernel
theorem dX10_foresee_57 : decode cX10_foresee 57 = .ok (.ifCond .ne 7, 3) := by decide +kernel
theorem dX10_foresee_60 : decode cX10_foresee 60 = .ok (.iload_n 3, 1) := by decide +kernel
theorem dX10_foresee_61 : decode cX10_foresee 61 = .ok (.goto 49, 3) := by decide +kernel
theorem dX10_foresee_64 : decode cX10_foresee 64 = .ok (.iload_n 2, 1) := by decide +kernel
theorem dX10_foresee_65 : decode cX10_foresee 65 = .ok (.iconst 1, 1) := by decide +kernel
theorem dX10_foresee_66 : decode cX10_foresee 66 = .ok (.if_icmp .ne 21, 3) := by decide +kernel
theorem dX10_foresee_69 : decode cX10_foresee 69 = .ok (.aload_n 0, 1) := by decide +kernel
theorem dX10_foresee_70 : decode cX10_foresee 70 = .ok (.getfield 38, 3) := by decide +kernel
theorem dX10_foresee_73 : decode cX10_foresee 73 = .ok (.invokevirtual 181, 3) := by decide +kernel
theorem dX10_foresee_76 : decode cX10_foresee 76 = .ok (.aload_n 0, 1) := by decide +kernel
theorem dX10_foresee_77 : decode cX10_foresee 77 = .ok (.getfield 34, 3) := by decide +kernel
theorem dX10_foresee_80 : decode cX10_foresee 80 = .ok (.invokevirtual 181, 3) := by decide +kernel
theorem dX10_foresee_83 : decode cX10_foresee 83 = .ok (.isub, 1) := by decide +kernel
theorem dX10_foresee_84 : decode cX10_foresee 84 = .ok (.goto 26, 3) := by decide +kernel
theorem dX10_foresee_87 : decode cX10_foresee 87 = .ok (.iload_n 2, 1) := by decide +kernel
theorem dX10_foresee_88 : decode cX10_foresee 88 = .ok (.iconst 2, 1) := by decide +kernel
theorem dX10_foresee_89 : decode cX10_foresee 89 = .ok (.if_icmp .ne 14, 3) := by decide +kernel
theorem dX10_foresee_92 : decode cX10_foresee 92 = .ok (.aload_n 0, 1) := by decide +kernel
theorem dX10_foresee_93 : decode cX10_foresee 93 = .ok (.getfield 38, 3) := by decide +kernel
theorem dX10_foresee_96 : decode cX10_foresee 96 = .ok (.iconst (-1), 1) := by decide +kernel
theorem dX10_foresee_97 : decode cX10_foresee 97 = .ok (.invokevirtual 138, 3) := by decide +kernel
theorem dX10_foresee_100 : decode cX10_foresee 100 = .ok (.goto 10, 3) := by decide +kernel
theorem dX10_foresee_103 : decode cX10_foresee 103 = .ok (.aload_n 0, 1) := by decide +kernel
theorem dX10_foresee_104 : decode cX10_foresee 104 = .ok (.getfield 38, 3) := by decide +kernel
theorem dX10_foresee_107 : decode cX10_foresee 107 = .ok (.invokevirtual 168, 3) := by decide +kernel
theorem dX10_foresee_110 : decode cX10_foresee 110 = .ok (.ireturn, 1) := by decide +kernel
theorem dX10_gets_0 : decode cX10_gets 0 = .ok (.aload_n 0, 1) := by decide +kernel
theorem dX10_gets_1 : decode cX10_gets 1 = .ok (.iconst 0, 1) := by decide +kernel
theorem dX10_gets_2 : decode cX10_gets 2 = .ok (.putfield 41, 3) := by decide +kernel
theorem dX10_gets_5 : decode cX10_gets 5 = .ok (.aload_n 0, 1) := by decide +kernel
theorem dX10_gets_6 : decode cX10_gets 6 = .ok (.iload_n 1, 1) := by decide +kernel
theorem dX10_gets_7 : decode cX10_gets 7 = .ok (.invokevirtual 107, 3) := by decide +kernel
theorem dX10_gets_10 : decode cX10_gets 10 = .ok (.ifCond .eq 11, 3) := by decide +kernel
theorem dX10_gets_13 : decode cX10_gets 13 = .ok (.aload_n 0, 1) := by decide +kernel
theorem dX10_gets_14 : decode cX10_gets 14 = .ok (.iload_n 2, 1) := by decide +kernel
theorem dX10_gets_15 : decode cX10_gets 15 = .ok (.invokevirtual 110, 3) := by decide +kernel
theorem dX10_gets_18 : decode cX10_gets 18 = .ok (.ifCond .ne 9, 3) := by decide +kernel
theorem dX10_gets_21 : decode cX10_gets 21 = .ok (.aload_n 0, 1) := by decide +kernel
theorem dX10_gets_22 : decode cX10_gets 22 = .ok (.iconst 1, 1) := by decide +kernel
theorem dX10_gets_23 : decode cX10_gets 23 = .ok (.invokevirtual 57, 3) := by decide +kernel
theorem dX10_gets_26 : decode cX10_gets 26 = .ok (.ireturn, 1) := by decide +kernel
theorem dX10_gets_27 : decode cX10_gets 27 = .ok (.aload_n 0, 1) := by decide +kernel
theorem dX10_gets_28 : decode cX10_gets 28 = .ok (.getfield 38, 3) := by decide +kernel
theorem dX10_gets_31 : decode cX10_gets 31 = .ok (.aload_n 0, 1) := by decide +kernel
theorem dX10_gets_32 : decode cX10_gets 32 = .ok (.getfield 34, 3) := by decide +kernel
theorem dX10_gets_35 : decode cX10_gets 35 = .ok (.invokevirtual 177, 3) := by decide +kernel
theorem dX10_gets_38 : decode cX10_gets 38 = .ok (.iconst 0, 1) := by decide +kernel
theorem dX10_gets_39 : decode cX10_gets 39 = .ok (.istore_n 3, 1) := by decide +kernel
theorem dX10_gets_40 : decode cX10_gets 40 = .ok (.aload_n 0, 1) := by decide +kernel
theorem dX10_gets_41 : decode cX10_gets 41 = .ok (.getfield 38, 3) := by decide +kernel
theorem dX10_gets_44 : decode cX10_gets 44 = .ok (.getfield 104, 3) := by decide +kernel
theorem dX10_gets_47 : decode cX10_gets 47 = .ok (.iload_n 2, 1) := by decide +kernel
theorem dX10_gets_48 : decode cX10_gets 48 = .ok (.iaload, 1) := by decide +kernel
theorem dX10_gets_49 : decode cX10_gets 49 = .ok (.iload_n 1, 1) := by decide +kernel
theorem dX10_gets_50 : decode cX10_gets 50 = .ok (.if_icmp .eq 23, 3) := by decide +kernel
theorem dX10_gets_53 : decode cX10_gets 53 = .ok (.iload_n 3, 1) := by decide +kernel
theorem dX10_gets_54 : decode cX10_gets 54 = .ok (.bipush 100, 2) := by decide +kernel
theorem dX10_gets_56 : decode cX10_gets 56 = .ok (.if_icmp .ge 17, 3) := by decide +kernel
theorem dX10_gets_59 : decode cX10_gets 59 = .ok (.aload_n 0, 1) := by decide +kernel
theorem dX10_gets_60 : decode cX10_gets 60 = .ok (.getfield 38, 3) := by decide +kernel
theorem dX10_gets_63 : decode cX10_gets 63 = .ok (.invokevirtual 155, 3) := by decide +kernel
theorem dX10_gets_66 : decode cX10_gets 66 = .ok (.pop, 1) := by decide +kernel
theorem dX10_gets_67 : decode cX10_gets 67 = .ok (.iinc 3 1, 3) := by decide +kernel
theorem dX10_gets_70 : decode cX10_gets 70 = .ok (.goto (-30), 3) := by decide +kernel
theorem dX10_gets_73 : decode cX10_gets 73 = .ok (.aload_n 0, 1) := by decide +kernel
theorem dX10_gets_74 : decode cX10_gets 74 = .ok (.getfield 38, 3) := by decide +kernel
theorem dX10_gets_77 : decode cX10_gets 77 = .ok (.getfield 104, 3) := by decide +kernel
theorem dX10_gets_80 : decode cX10_gets 80 = .ok (.iload_n 2, 1) := by decide +kernel
theorem dX10_gets_81 : decode cX10_gets 81 = .ok (.iaload, 1) := by decide +kernel
theorem dX10_gets_82 : decode cX10_gets 82 = .ok (.iload_n 1, 1) := by decide +kernel
theorem dX10_gets_83 : decode cX10_gets 83 = .ok (.if_icmp .ne 7, 3) := by decide +kernel
theorem dX10_gets_86 : decode cX10_gets 86 = .ok (.iload_n 3, 1) := by decide +kernel
theorem dX10_gets_87 : decode cX10_gets 87 = .ok (.goto 4, 3) := by decide +kernel
theorem dX10_gets_90 : decode cX10_gets 90 = .ok (.iconst (-1), 1) := by decide +kernel
theorem dX10_gets_91 : decode cX10_gets 91 = .ok (.ireturn, 1) := by decide +kernel
theorem dX10_advise_0 : decode cX10_advise 0 = .ok (.aload_n 0, 1) := by decide +kernel
theorem dX10_advise_1 : decode cX10_advise 1 = .ok (.iconst 0, 1) := by decide +kernel
theorem dX10_advise_2 : decode cX10_advise 2 = .ok (.putfield 41, 3) := by decide +kernel
theorem dX10_advise_5 : decode cX10_advise 5 = .ok (.iload_n 1, 1) := by decide +kernel
theorem dX10_advise_6 : decode cX10_advise 6 = .ok (.iconst 1, 1) := by decide +kernel
theorem dX10_advise_7 : decode cX10_advise 7 = .ok (.bipush 30, 2) := by decide +kernel
theorem dX10_advise_9 : decode cX10_advise 9 = .ok (.invokestatic 47, 3) := by decide +kernel
theorem dX10_advise_12 : decode cX10_advise 12 = .ok (.ifCond .ne 9, 3) := by decide +kernel
theorem dX10_advise_15 : decode cX10_advise 15 = .ok (.aload_n 0, 1) := by decide +kernel
theorem dX10_advise_16 : decode cX10_advise 16 = .ok (.iconst 1, 1) := by decide +kernel
theorem dX10_advise_17 : decode cX10_advise 17 = .ok (.invokevirtual 57, 3) := by decide +kernel
theorem dX10_advise_20 : decode cX10_advise 20 = .ok (.ireturn, 1) := by decide +kernel
theorem dX10_advise_21 : decode cX10_advise 21 = .ok (.aload_n 0, 1) := by decide +kernel
theorem dX10_advise_22 : decode cX10_advise 22 = .ok (.getfield 34, 3) := by decide +kernel
theorem dX10_advise_25 : decode cX10_advise 25 = .ok (.getfield 75, 3) := by decide +kernel
theorem dX10_advise_28 : decode cX10_advise 28 = .ok (.bipush 8, 2) := by decide +kernel
theorem dX10_advise_30 : decode cX10_advise 30 = .ok (.if_icmp .ne 9, 3) := by decide +kernel
theorem dX10_advise_33 : decode cX10_advise 33 = .ok (.aload_n 0, 1) := by decide +kernel
theorem dX10_advise_34 : decode cX10_advise 34 = .ok (.iconst 2, 1) := by decide +kernel
theorem dX10_advise_35 : decode cX10_advise 35 = .ok (.invokevirtual 57, 3) := by decide +kernel
theorem dX10_advise_38 : decode cX10_advise 38 = .ok (.ireturn, 1) := by decide +kernel
theorem dX10_advise_39 : decode cX10_advise 39 = .ok (.aload_n 0, 1) := by decide +kernel
theorem dX10_advise_40 : decode cX10_advise 40 = .ok (.getfield 38, 3) := by decide +kernel
theorem dX10_advise_43 : decode cX10_advise 43 = .ok (.aload_n 0, 1) := by decide +kernel
theorem dX10_advise_44 : decode cX10_advise 44 = .ok (.getfield 34, 3) := by decide +kernel
theorem dX10_advise_47 : decode cX10_advise 47 = .ok (.invokevirtual 177, 3) := by decide +kernel
theorem dX10_advise_50 : decode cX10_advise 50 = .ok (.iconst (-1), 1) := by decide +kernel
theorem dX10_advise_51 : decode cX10_advise 51 = .ok (.istore_n 2, 1) := by decide +kernel
theorem dX10_advise_52 : decode cX10_advise 52 = .ok (.aload_n 0, 1) := by decide +kernel
theorem dX10_advise_53 : decode cX10_advise 53 = .ok (.getfield 38, 3) := by decide +kernel
theorem dX10_advise_56 : decode cX10_advise 56 = .ok (.iload_n 1, 1) := by decide +kernel
theorem dX10_advise_57 : decode cX10_advise 57 = .ok (.invokestatic 159, 3) := by decide +kernel
theorem dX10_advise_60 : decode cX10_advise 60 = .ok (.istore_n 3, 1) := by decide +kernel
theorem dX10_advise_61 : decode cX10_advise 61 = .ok (.iconst 0, 1) := by decide +kernel
theorem dX10_advise_62 : decode cX10_advise 62 = .ok (.istore 4, 2) := by decide +kernel
theorem dX10_advise_64 : decode cX10_advise 64 = .ok (.iload 4, 2) := by decide +kernel
theorem dX10_advise_66 : decode cX10_advise 66 = .ok (.aload_n 0, 1) := by decide +kernel
theorem dX10_advise_67 : decode cX10_advise 67 = .ok (.getfield 44, 3) := by decide +kernel
theorem dX10_advise_70 : decode cX10_advise 70 = .ok (.if_icmp .ge 75, 3) := by decide +kernel
theorem dX10_advise_73 : decode cX10_advise 73 = .ok (.aload_n 0, 1) := by decide +kernel
theorem dX10_advise_74 : decode cX10_advise 74 = .ok (.getfield 38, 3) := by decide +kernel
theorem dX10_advise_77 : decode cX10_advise 77 = .ok (.aload_n 0, 1) := by decide +kernel
theorem dX10_advise_78 : decode cX10_advise 78 = .ok (.getfield 34, 3) := by decide +kernel
theorem dX10_advise_81 : decode cX10_advise 81 = .ok (.invokevirtual 177, 3) := by decide +kernel
theorem dX10_advise_84 : decode cX10_advise 84 = .ok (.aload_n 0, 1) := by decide +kernel
theorem dX10_advise_85 : decode cX10_advise 85 = .ok (.getfield 38, 3) := by decide +kernel
theorem dX10_advise_88 : decode cX10_advise 88 = .ok (.getfield 78, 3) := by decide +kernel
theorem dX10_advise_91 : decode cX10_advise 91 = .ok (.aload_n 0, 1) := by decide +kernel
theorem dX10_advise_92 : decode cX10_advise 92 = .ok (.getfield 38, 3) := by decide +kernel
theorem dX10_advise_95 : decode cX10_advise 95 = .ok (.getfield 75, 3) := by decide +kernel
theorem dX10_advise_98 : decode cX10_advise 98 = .ok (.iload 4, 2) := by decide +kernel
theorem dX10_advise_100 : decode cX10_advise 100 = .ok (.iastore, 1) := by decide +kernel
theorem dX10_advise_101 : decode cX10_advise 101 = .ok (.aload_n 0, 1) := by decide +kernel
theorem dX10_advise_102 : decode cX10_advise 102 = .ok (.getfield 38, 3) := by decide +kernel
theorem dX10_advise_105 : decode cX10_advise 105 = .ok (.dup, 1) := by decide +kernel
theorem dX10_advise_106 : decode cX10_advise 106 = .ok (.getfield 75, 3) := by decide +kernel
theorem dX10_advise_109 : decode cX10_advise 109 = .ok (.iconst 1, 1) := by decide +kernel
theorem dX10_advise_110 : decode cX10_advise 110 = .ok (.iadd, 1) := by decide +kernel
theorem dX10_advise_111 : decode cX10_advise 111 = .ok (.putfield 75, 3) := by decide +kernel
theorem dX10_advise_114 : decode cX10_advise 114 = .ok (.aload_n 0, 1) := by decide +kernel
theorem dX10_advise_115 : decode cX10_advise 115 = .ok (.getfield 38, 3) := by decide +kernel
theorem dX10_advise_118 : decode cX10_advise 118 = .ok (.iload_n 1, 1) := by decide +kernel
theorem dX10_advise_119 : decode cX10_advise 119 = .ok (.invokestatic 159, 3) := by decide +kernel
theorem dX10_advise_122 : decode cX10_advise 122 = .ok (.istore 5, 2) := by decide +kernel
theorem dX10_advise_124 : decode cX10_advise 124 = .ok (.iload 5, 2) := by decide +kernel
theorem dX10_advise_126 : decode cX10_advise 126 = .ok (.iload_n 3, 1) := by decide +kernel
theorem dX10_advise_127 : decode cX10_advise 127 = .ok (.if_icmp .gt 6, 3) := by decide +kernel
theorem dX10_advise_130 : decode cX10_advise 130 = .ok (.goto 9, 3) := by decide +kernel
theorem dX10_advise_133 : decode cX10_advise 133 = .ok (.iload 4, 2) := by decide +kernel
theorem dX10_advise_135 : decode cX10_advise 135 = .ok (.istore_n 2, 1) := by decide +kernel
theorem dX10_advise_136 : decode cX10_advise 136 = .ok (.iload 5, 2) := by decide +kernel
theorem dX10_advise_138 : decode cX10_advise 138 = .ok (.istore_n 3, 1) := by decide +kernel
theorem dX10_advise_139 : decode cX10_advise 139 = .ok (.iinc 4 1, 3) := by decide +kernel
theorem dX10_advise_142 : decode cX10_advise 142 = .ok (.goto (-78), 3) := by decide +kernel
theorem dX10_advise_145 : decode cX10_advise 145 = .ok (.iload_n 2, 1) := by decide +kernel
theorem dX10_advise_146 : decode cX10_advise 146 = .ok (.ireturn, 1) := by decide +kernel
theorem dX10_daily_0 : decode cX10_daily 0 = .ok (.aload_n 0, 1) := by decide +kernel
theorem dX10_daily_1 : decode cX10_daily 1 = .ok (.iconst 0, 1) := by decide +kernel
theorem dX10_daily_2 : decode cX10_daily 2 = .ok (.putfield 41, 3) := by decide +kernel
theorem dX10_daily_5 : decode cX10_daily 5 = .ok (.aload_n 0, 1) := by decide +kernel
theorem dX10_daily_6 : decode cX10_daily 6 = .ok (.getfield 34, 3) := by decide +kernel
theorem dX10_daily_9 : decode cX10_daily 9 = .ok (.getfield 162, 3) := by decide +kernel
theorem dX10_daily_12 : decode cX10_daily 12 = .ok (.ifCond .ne 7, 3) := by decide +kernel
theorem dX10_daily_15 : decode cX10_daily 15 = .ok (.dconst 0, 1) := by decide +kernel
theorem dX10_daily_16 : decode cX10_daily 16 = .ok (.goto 20, 3) := by decide +kernel
theorem dX10_daily_19 : decode cX10_daily 19 = .ok (.aload_n 0, 1) := by decide +kernel
theorem dX10_daily_20 : decode cX10_daily 20 = .ok (.getfield 34, 3) := by decide +kernel
theorem dX10_daily_23 : decode cX10_daily 23 = .ok (.getfield 165, 3) := by decide +kernel
theorem dX10_daily_26 : decode cX10_daily 26 = .ok (.i2d, 1) := by decide +kernel
theorem dX10_daily_27 : decode cX10_daily 27 = .ok (.aload_n 0, 1) := by decide +kernel
theorem dX10_daily_28 : decode cX10_daily 28 = .ok (.getfield 34, 3) := by decide +kernel
theorem dX10_daily_31 : decode cX10_daily 31 = .ok (.getfield 162, 3) := by decide +kernel
theorem dX10_daily_34 : decode cX10_daily 34 = .ok (.i2d, 1) := by decide +kernel
theorem dX10_daily_35 : decode cX10_daily 35 = .ok (.ddiv, 1) := by decide +kernel
theorem dX10_daily_36 : decode cX10_daily 36 = .ok (.dreturn, 1) := by decide +kernel
theorem dX10_digest_0 : decode cX10_digest 0 = .ok (.aload_n 0, 1) := by decide +kernel
theorem dX10_digest_1 : decode cX10_digest 1 = .ok (.iconst 0, 1) := by decide +kernel
theorem dX10_digest_2 : decode cX10_digest 2 = .ok (.putfield 41, 3) := by decide +kernel
theorem dX10_digest_5 : decode cX10_digest 5 = .ok (.ldc2_w 184, 3) := by decide +kernel
theorem dX10_digest_8 : decode cX10_digest 8 = .ok (.lstore_n 1, 1) := by decide +kernel
theorem dX10_digest_9 : decode cX10_digest 9 = .ok (.iconst 0, 1) := by decide +kernel
theorem dX10_digest_10 : decode cX10_digest 10 = .ok (.istore_n 3, 1) := by decide +kernel
theorem dX10_digest_11 : decode cX10_digest 11 = .ok (.iload_n 3, 1) := by decide +kernel
theorem dX10_digest_12 : decode cX10_digest 12 = .ok (.bipush 10, 2) := by decide +kernel
theorem dX10_digest_14 : decode cX10_digest 14 = .ok (.if_icmp .ge 22, 3) := by decide +kernel
theorem dX10_digest_17 : decode cX10_digest 17 = .ok (.lload_n 1, 1) := by decide +kernel
theorem dX10_digest_18 : decode cX10_digest 18 = .ok (.ldc2_w 186, 3) := by decide +kernel
theorem dX10_digest_21 : decode cX10_digest 21 = .ok (.lmul, 1) := by decide +kernel
theorem dX10_digest_22 : decode cX10_digest 22 = .ok (.aload_n 0, 1) := by decide +kernel
theorem dX10_digest_23 : decode cX10_digest 23 = .ok (.iload_n 3, 1) := by decide +kernel
theorem dX10_digest_24 : decode cX10_digest 24 = .ok (.invokevirtual 174, 3) := by decide +kernel
theorem dX10_digest_27 : decode cX10_digest 27 = .ok (.i2l, 1) := by decide +kernel
theorem dX10_digest_28 : decode cX10_digest 28 = .ok (.ladd, 1) := by decide +kernel
theorem dX10_digest_29 : decode cX10_digest 29 = .ok (.lstore_n 1, 1) := by decide +kernel
theorem dX10_digest_30 : decode cX10_digest 30 = .ok (.iinc 3 1, 3) := by decide +kernel
theorem dX10_digest_33 : decode cX10_digest 33 = .ok (.goto (-22), 3) := by decide +kernel
theorem dX10_digest_36 : decode cX10_digest 36 = .ok (.aload_n 0, 1) := by decide +kernel
theorem dX10_digest_37 : decode cX10_digest 37 = .ok (.getfield 13, 3) := by decide +kernel
theorem dX10_digest_40 : decode cX10_digest 40 = .ok (.astore_n 3, 1) := by decide +kernel
theorem dX10_digest_41 : decode cX10_digest 41 = .ok (.aload_n 3, 1) := by decide +kernel
theorem dX10_digest_42 : decode cX10_digest 42 = .ok (.arraylength, 1) := by decide +kernel
theorem dX10_digest_43 : decode cX10_digest 43 = .ok (.istore 4, 2) := by decide +kernel
theorem dX10_digest_45 : decode cX10_digest 45 = .ok (.iconst 0, 1) := by decide +kernel
theorem dX10_digest_46 : decode cX10_digest 46 = .ok (.istore 5, 2) := by decide +kernel
theorem dX10_digest_48 : decode cX10_digest 48 = .ok (.iload 5, 2) := by decide +kernel
theorem dX10_digest_50 : decode cX10_digest 50 = .ok (.iload 4, 2) := by decide +kernel
theorem dX10_digest_52 : decode cX10_digest 52 = .ok (.if_icmp .ge 25, 3) := by decide +kernel
theorem dX10_digest_55 : decode cX10_digest 55 = .ok (.aload_n 3, 1) := by decide +kernel
theorem dX10_digest_56 : decode cX10_digest 56 = .ok (.iload 5, 2) := by decide +kernel
theorem dX10_digest_58 : decode cX10_digest 58 = .ok (.iaload, 1) := by decide +kernel
theorem dX10_digest_59 : decode cX10_digest 59 = .ok (.istore 6, 2) := by decide +kernel
theorem dX10_digest_61 : decode cX10_digest 61 = .ok (.lload_n 1, 1) := by decide +kernel
theorem dX10_digest_62 : decode cX10_digest 62 = .ok (.ldc2_w 186, 3) := by decide +kernel
theorem dX10_digest_65 : decode cX10_digest 65 = .ok (.lmul, 1) := by decide +kernel
theorem dX10_digest_66 : decode cX10_digest 66 = .ok (.iload 6, 2) := by decide +kernel
theorem dX10_digest_68 : decode cX10_digest 68 = .ok (.i2l, 1) := by decide +kernel
theorem dX10_digest_69 : decode cX10_digest 69 = .ok (.ladd, 1) := by decide +kernel
theorem dX10_digest_70 : decode cX10_digest 70 = .ok (.lstore_n 1, 1) := by decide +kernel
theorem dX10_digest_71 : decode cX10_digest 71 = .ok (.iinc 5 1, 3) := by decide +kernel
theorem dX10_digest_74 : decode cX10_digest 74 = .ok (.goto (-26), 3) := by decide +kernel
theorem dX10_digest_77 : decode cX10_digest 77 = .ok (.iconst 0, 1) := by decide +kernel
theorem dX10_digest_78 : decode cX10_digest 78 = .ok (.istore_n 3, 1) := by decide +kernel
theorem dX10_digest_79 : decode cX10_digest 79 = .ok (.iload_n 3, 1) := by decide +kernel
theorem dX10_digest_80 : decode cX10_digest 80 = .ok (.aload_n 0, 1) := by decide +kernel
theorem dX10_digest_81 : decode cX10_digest 81 = .ok (.getfield 34, 3) := by decide +kernel
theorem dX10_digest_84 : decode cX10_digest 84 = .ok (.getfield 75, 3) := by decide +kernel
theorem dX10_digest_87 : decode cX10_digest 87 = .ok (.if_icmp .ge 26, 3) := by decide +kernel
theorem dX10_digest_90 : decode cX10_digest 90 = .ok (.lload_n 1, 1) := by decide +kernel
theorem dX10_digest_91 : decode cX10_digest 91 = .ok (.ldc2_w 186, 3) := by decide +kernel
theorem dX10_digest_94 : decode cX10_digest 94 = .ok (.lmul, 1) := by decide +kernel
theorem dX10_digest_95 : decode cX10_digest 95 = .ok (.aload_n 0, 1) := by decide +kernel
theorem dX10_digest_96 : decode cX10_digest 96 = .ok (.getfield 34, 3) := by decide +kernel
theorem dX10_digest_99 : decode cX10_digest 99 = .ok (.getfield 78, 3) := by decide +kernel
theorem dX10_digest_102 : decode cX10_digest 102 = .ok (.iload_n 3, 1) := by decide +kernel
theorem dX10_digest_103 : decode cX10_digest 103 = .ok (.iaload, 1) := by decide +kernel
theorem dX10_digest_104 : decode cX10_digest 104 = .ok (.i2l, 1) := by decide +kernel
theorem dX10_digest_105 : decode cX10_digest 105 = .ok (.ladd, 1) := by decide +kernel
theorem dX10_digest_106 : decode cX10_digest 106 = .ok (.lstore_n 1, 1) := by decide +kernel
theorem dX10_digest_107 : decode cX10_digest 107 = .ok (.iinc 3 1, 3) := by decide +kernel
theorem dX10_digest_110 : decode cX10_digest 110 = .ok (.goto (-31), 3) := by decide +kernel
theorem dX10_digest_113 : decode cX10_digest 113 = .ok (.iconst 0, 1) := by decide +kernel
theorem dX10_digest_114 : decode cX10_digest 114 = .ok (.istore_n 3, 1) := by decide +kernel
theorem dX10_digest_115 : decode cX10_digest 115 = .ok (.iload_n 3, 1) := by decide +kernel
theorem dX10_digest_116 : decode cX10_digest 116 = .ok (.aload_n 0, 1) := by decide +kernel
theorem dX10_digest_117 : decode cX10_digest 117 = .ok (.getfield 44, 3) := by decide +kernel
theorem dX10_digest_120 : decode cX10_digest 120 = .ok (.if_icmp .ge 39, 3) := by decide +kernel
theorem dX10_digest_123 : decode cX10_digest 123 = .ok (.iconst 0, 1) := by decide +kernel
theorem dX10_digest_124 : decode cX10_digest 124 = .ok (.istore 4, 2) := by decide +kernel
theorem dX10_digest_126 : decode cX10_digest 126 = .ok (.iload 4, 2) := by decide +kernel
theorem dX10_digest_128 : decode cX10_digest 128 = .ok (.iconst 5, 1) := by decide +kernel
theorem dX10_digest_129 : decode cX10_digest 129 = .ok (.if_icmp .ge 24, 3) := by decide +kernel
theorem dX10_digest_132 : decode cX10_digest 132 = .ok (.lload_n 1, 1) := by decide +kernel
theorem dX10_digest_133 : decode cX10_digest 133 = .ok (.ldc2_w 186, 3) := by decide +kernel
theorem dX10_digest_136 : decode cX10_digest 136 = .ok (.lmul, 1) := by decide +kernel
theorem dX10_digest_137 : decode cX10_digest 137 = .ok (.aload_n 0, 1) := by decide +kernel
theorem dX10_digest_138 : decode cX10_digest 138 = .ok (.iload_n 3, 1) := by decide +kernel
theorem dX10_digest_139 : decode cX10_digest 139 = .ok (.iload 4, 2) := by decide +kernel
theorem dX10_digest_141 : decode cX10_digest 141 = .ok (.invokevirtual 87, 3) := by decide +kernel
theorem dX10_digest_144 : decode cX10_digest 144 = .ok (.i2l, 1) := by decide +kernel
theorem dX10_digest_145 : decode cX10_digest 145 = .ok (.ladd, 1) := by decide +kernel
theorem dX10_digest_146 : decode cX10_digest 146 = .ok (.lstore_n 1, 1) := by decide +kernel
theorem dX10_digest_147 : decode cX10_digest 147 = .ok (.iinc 4 1, 3) := by decide +kernel
theorem dX10_digest_150 : decode cX10_digest 150 = .ok (.goto (-24), 3) := by decide +kernel
theorem dX10_digest_153 : decode cX10_digest 153 = .ok (.iinc 3 1, 3) := by decide +kernel
theorem dX10_digest_156 : decode cX10_digest 156 = .ok (.goto (-41), 3) := by decide +kernel
theorem dX10_digest_159 : decode cX10_digest 159 = .ok (.iconst 0, 1) := by decide +kernel
theorem dX10_digest_160 : decode cX10_digest 160 = .ok (.istore_n 3, 1) := by decide +kernel
theorem dX10_digest_161 : decode cX10_digest 161 = .ok (.iload_n 3, 1) := by decide +kernel
theorem dX10_digest_162 : decode cX10_digest 162 = .ok (.aload_n 0, 1) := by decide +kernel
theorem dX10_digest_163 : decode cX10_digest 163 = .ok (.getfield 65, 3) := by decide +kernel
theorem dX10_digest_166 : decode cX10_digest 166 = .ok (.if_icmp .ge 40, 3) := by decide +kernel
theorem dX10_digest_169 : decode cX10_digest 169 = .ok (.iconst 0, 1) := by decide +kernel
theorem dX10_digest_170 : decode cX10_digest 170 = .ok (.istore 4, 2) := by decide +kernel
theorem dX10_digest_172 : decode cX10_digest 172 = .ok (.iload 4, 2) := by decide +kernel
theorem dX10_digest_174 : decode cX10_digest 174 = .ok (.bipush 6, 2) := by decide +kernel
theorem dX10_digest_176 : decode cX10_digest 176 = .ok (.if_icmp .ge 24, 3) := by decide +kernel
theorem dX10_digest_179 : decode cX10_digest 179 = .ok (.lload_n 1, 1) := by decide +kernel
theorem dX10_digest_180 : decode cX10_digest 180 = .ok (.ldc2_w 186, 3) := by decide +kernel
theorem dX10_digest_183 : decode cX10_digest 183 = .ok (.lmul, 1) := by decide +kernel
theorem dX10_digest_184 : decode cX10_digest 184 = .ok (.aload_n 0, 1) := by decide +kernel
theorem dX10_digest_185 : decode cX10_digest 185 = .ok (.iload_n 3, 1) := by decide +kernel
theorem dX10_digest_186 : decode cX10_digest 186 = .ok (.iload 4, 2) := by decide +kernel
theorem dX10_digest_188 : decode cX10_digest 188 = .ok (.invokevirtual 97, 3) := by decide +kernel
theorem dX10_digest_191 : decode cX10_digest 191 = .ok (.i2l, 1) := by decide +kernel
theorem dX10_digest_192 : decode cX10_digest 192 = .ok (.ladd, 1) := by decide +kernel
theorem dX10_digest_193 : decode cX10_digest 193 = .ok (.lstore_n 1, 1) := by decide +kernel
theorem dX10_digest_194 : decode cX10_digest 194 = .ok (.iinc 4 1, 3) := by decide +kernel
theorem dX10_digest_197 : decode cX10_digest 197 = .ok (.goto (-25), 3) := by decide +kernel
theorem dX10_digest_200 : decode cX10_digest 200 = .ok (.iinc 3 1, 3) := by decide +kernel
theorem dX10_digest_203 : decode cX10_digest 203 = .ok (.goto (-42), 3) := by decide +kernel
theorem dX10_digest_206 : decode cX10_digest 206 = .ok (.iconst 0, 1) := by decide +kernel
theorem dX10_digest_207 : decode cX10_digest 207 = .ok (.istore_n 3, 1) := by decide +kernel
theorem dX10_digest_208 : decode cX10_digest 208 = .ok (.iload_n 3, 1) := by decide +kernel
theorem dX10_digest_209 : decode cX10_digest 209 = .ok (.aload_n 0, 1) := by decide +kernel
theorem dX10_digest_210 : decode cX10_digest 210 = .ok (.getfield 54, 3) := by decide +kernel
theorem dX10_digest_213 : decode cX10_digest 213 = .ok (.if_icmp .ge 86, 3) := by decide +kernel
theorem dX10_digest_216 : decode cX10_digest 216 = .ok (.iconst 0, 1) := by decide +kernel
theorem dX10_digest_217 : decode cX10_digest 217 = .ok (.istore 4, 2) := by decide +kernel
theorem dX10_digest_219 : decode cX10_digest 219 = .ok (.iload 4, 2) := by decide +kernel
theorem dX10_digest_221 : decode cX10_digest 221 = .ok (.bipush 7, 2) := by decide +kernel
theorem dX10_digest_223 : decode cX10_digest 223 = .ok (.if_icmp .ge 24, 3) := by decide +kernel
theorem dX10_digest_226 : decode cX10_digest 226 = .ok (.lload_n 1, 1) := by decide +kernel
theorem dX10_digest_227 : decode cX10_digest 227 = .ok (.ldc2_w 186, 3) := by decide +kernel
theorem dX10_digest_230 : decode cX10_digest 230 = .ok (.lmul, 1) := by decide +kernel
theorem dX10_digest_231 : decode cX10_digest 231 = .ok (.aload_n 0, 1) := by decide +kernel
theorem dX10_digest_232 : decode cX10_digest 232 = .ok (.iload_n 3, 1) := by decide +kernel
theorem dX10_digest_233 : decode cX10_digest 233 = .ok (.iload 4, 2) := by decide +kernel
theorem dX10_digest_235 : decode cX10_digest 235 = .ok (.invokevirtual 135, 3) := by decide +kernel
theorem dX10_digest_238 : decode cX10_digest 238 = .ok (.i2l, 1) := by decide +kernel
theorem dX10_digest_239 : decode cX10_digest 239 = .ok (.ladd, 1) := by decide +kernel
theorem dX10_digest_240 : decode cX10_digest 240 = .ok (.lstore_n 1, 1) := by decide +kernel
theorem dX10_digest_241 : decode cX10_digest 241 = .ok (.iinc 4 1, 3) := by decide +kernel
theorem dX10_digest_244 : decode cX10_digest 244 = .ok (.goto (-25), 3) := by decide +kernel
theorem dX10_digest_247 : decode cX10_digest 247 = .ok (.iconst 0, 1) := by decide +kernel
theorem dX10_digest_248 : decode cX10_digest 248 = .ok (.istore 4, 2) := by decide +kernel
theorem dX10_digest_250 : decode cX10_digest 250 = .ok (.iload 4, 2) := by decide +kernel
theorem dX10_digest_252 : decode cX10_digest 252 = .ok (.aload_n 0, 1) := by decide +kernel
theorem dX10_digest_253 : decode cX10_digest 253 = .ok (.getfield 34, 3) := by decide +kernel
theorem dX10_digest_256 : decode cX10_digest 256 = .ok (.getfield 119, 3) := by decide +kernel
theorem dX10_digest_259 : decode cX10_digest 259 = .ok (.iload_n 3, 1) := by decide +kernel
theorem dX10_digest_260 : decode cX10_digest 260 = .ok (.iaload, 1) := by decide +kernel
theorem dX10_digest_261 : decode cX10_digest 261 = .ok (.if_icmp .ge 32, 3) := by decide +kernel
theorem dX10_digest_264 : decode cX10_digest 264 = .ok (.lload_n 1, 1) := by decide +kernel
theorem dX10_digest_265 : decode cX10_digest 265 = .ok (.ldc2_w 186, 3) := by decide +kernel
theorem dX10_digest_268 : decode cX10_digest 268 = .ok (.lmul, 1) := by decide +kernel
theorem dX10_digest_269 : decode cX10_digest 269 = .ok (.aload_n 0, 1) := by decide +kernel
theorem dX10_digest_270 : decode cX10_digest 270 = .ok (.getfield 34, 3) := by decide +kernel
theorem dX10_digest_273 : decode cX10_digest 273 = .ok (.getfield 116, 3) := by decide +kernel
theorem dX10_digest_276 : decode cX10_digest 276 = .ok (.bipush 10, 2) := by decide +kernel
theorem dX10_digest_278 : decode cX10_digest 278 = .ok (.iload_n 3, 1) := by decide +kernel
theorem dX10_digest_279 : decode cX10_digest 279 = .ok (.imul, 1) := by decide +kernel
theorem dX10_digest_280 : decode cX10_digest 280 = .ok (.iload 4, 2) := by decide +kernel
theorem dX10_digest_282 : decode cX10_digest 282 = .ok (.iadd, 1) := by decide +kernel
theorem dX10_digest_283 : decode cX10_digest 283 = .ok (.iaload, 1) := by decide +kernel
theorem dX10_digest_284 : decode cX10_digest 284 = .ok (.i2l, 1) := by decide +kernel
theorem dX10_digest_285 : decode cX10_digest 285 = .ok (.ladd, 1) := by decide +kernel
theorem dX10_digest_286 : decode cX10_digest 286 = .ok (.lstore_n 1, 1) := by decide +kernel
theorem dX10_digest_287 : decode cX10_digest 287 = .ok (.iinc 4 1, 3) := by decide +kernel
theorem dX10_digest_290 : decode cX10_digest 290 = .ok (.goto (-40), 3) := by decide +kernel
theorem dX10_digest_293 : decode cX10_digest 293 = .ok (.iinc 3 1, 3) := by decide +kernel
theorem dX10_digest_296 : decode cX10_digest 296 = .ok (.goto (-88), 3) := by decide +kernel
theorem dX10_digest_299 : decode cX10_digest 299 = .ok (.iconst 0, 1) := by decide +kernel
theorem dX10_digest_300 : decode cX10_digest 300 = .ok (.istore_n 3, 1) := by decide +kernel
theorem dX10_digest_301 : decode cX10_digest 301 = .ok (.iload_n 3, 1) := by decide +kernel
theorem dX10_digest_302 : decode cX10_digest 302 = .ok (.aload_n 0, 1) := by decide +kernel
theorem dX10_digest_303 : decode cX10_digest 303 = .ok (.getfield 51, 3) := by decide +kernel
theorem dX10_digest_306 : decode cX10_digest 306 = .ok (.if_icmp .ge 40, 3) := by decide +kernel
theorem dX10_digest_309 : decode cX10_digest 309 = .ok (.iconst 0, 1) := by decide +kernel
theorem dX10_digest_310 : decode cX10_digest 310 = .ok (.istore 4, 2) := by decide +kernel
theorem dX10_digest_312 : decode cX10_digest 312 = .ok (.iload 4, 2) := by decide +kernel
theorem dX10_digest_314 : decode cX10_digest 314 = .ok (.bipush 8, 2) := by decide +kernel
theorem dX10_digest_316 : decode cX10_digest 316 = .ok (.if_icmp .ge 24, 3) := by decide +kernel
theorem dX10_digest_319 : decode cX10_digest 319 = .ok (.lload_n 1, 1) := by decide +kernel
theorem dX10_digest_320 : decode cX10_digest 320 = .ok (.ldc2_w 186, 3) := by decide +kernel
theorem dX10_digest_323 : decode cX10_digest 323 = .ok (.lmul, 1) := by decide +kernel
theorem dX10_digest_324 : decode cX10_digest 324 = .ok (.aload_n 0, 1) := by decide +kernel
theorem dX10_digest_325 : decode cX10_digest 325 = .ok (.iload_n 3, 1) := by decide +kernel
theorem dX10_digest_326 : decode cX10_digest 326 = .ok (.iload 4, 2) := by decide +kernel
theorem dX10_digest_328 : decode cX10_digest 328 = .ok (.invokevirtual 152, 3) := by decide +kernel
theorem dX10_digest_331 : decode cX10_digest 331 = .ok (.i2l, 1) := by decide +kernel
theorem dX10_digest_332 : decode cX10_digest 332 = .ok (.ladd, 1) := by decide +kernel
theorem dX10_digest_333 : decode cX10_digest 333 = .ok (.lstore_n 1, 1) := by decide +kernel
theorem dX10_digest_334 : decode cX10_digest 334 = .ok (.iinc 4 1, 3) := by decide +kernel
theorem dX10_digest_337 : decode cX10_digest 337 = .ok (.goto (-25), 3) := by decide +kernel
theorem dX10_digest_340 : decode cX10_digest 340 = .ok (.iinc 3 1, 3) := by decide +kernel
theorem dX10_digest_343 : decode cX10_digest 343 = .ok (.goto (-42), 3) := by decide +kernel
theorem dX10_digest_346 : decode cX10_digest 346 = .ok (.lload_n 1, 1) := by decide +kernel
theorem dX10_digest_347 : decode cX10_digest 347 = .ok (.lreturn, 1) := by decide +kernel
