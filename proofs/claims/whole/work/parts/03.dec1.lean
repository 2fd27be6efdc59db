theorem dX7_init_0 : decode cX7_init 0 = .ok (.aload_n 0, 1) := by decide +kernel
theorem dX7_init_1 : decode cX7_init 1 = .ok (.invokespecial 3, 3) := by decide +kernel
theorem dX7_init_4 : decode cX7_init 4 = .ok (.aload_n 0, 1) := by decide +kernel
theorem dX7_init_5 : decode cX7_init 5 = .ok (.new 9, 3) := by decide +kernel
theorem dX7_init_8 : decode cX7_init 8 = .ok (.dup, 1) := by decide +kernel
theorem dX7_init_9 : decode cX7_init 9 = .ok (.invokespecial 11, 3) := by decide +kernel
theorem dX7_init_12 : decode cX7_init 12 = .ok (.putfield 12, 3) := by decide +kernel
theorem dX7_init_15 : decode cX7_init 15 = .ok (.aload_n 0, 1) := by decide +kernel
theorem dX7_init_16 : decode cX7_init 16 = .ok (.new 9, 3) := by decide +kernel
theorem dX7_init_19 : decode cX7_init 19 = .ok (.dup, 1) := by decide +kernel
theorem dX7_init_20 : decode cX7_init 20 = .ok (.invokespecial 11, 3) := by decide +kernel
theorem dX7_init_23 : decode cX7_init 23 = .ok (.putfield 18, 3) := by decide +kernel
theorem dX7_init_26 : decode cX7_init 26 = .ok (.aload_n 0, 1) := by decide +kernel
theorem dX7_init_27 : decode cX7_init 27 = .ok (.new 9, 3) := by decide +kernel
theorem dX7_init_30 : decode cX7_init 30 = .ok (.dup, 1) := by decide +kernel
theorem dX7_init_31 : decode cX7_init 31 = .ok (.invokespecial 11, 3) := by decide +kernel
theorem dX7_init_34 : decode cX7_init 34 = .ok (.putfield 21, 3) := by decide +kernel
theorem dX7_init_37 : decode cX7_init 37 = .ok (.aload_n 0, 1) := by decide +kernel
theorem dX7_init_38 : decode cX7_init 38 = .ok (.new 9, 3) := by decide +kernel
theorem dX7_init_41 : decode cX7_init 41 = .ok (.dup, 1) := by decide +kernel
theorem dX7_init_42 : decode cX7_init 42 = .ok (.invokespecial 11, 3) := by decide +kernel
theorem dX7_init_45 : decode cX7_init 45 = .ok (.putfield 24, 3) := by decide +kernel
theorem dX7_init_48 : decode cX7_init 48 = .ok (.aload_n 0, 1) := by decide +kernel
theorem dX7_init_49 : decode cX7_init 49 = .ok (.new 27, 3) := by decide +kernel
theorem dX7_init_52 : decode cX7_init 52 = .ok (.dup, 1) := by decide +kernel
theorem dX7_init_53 : decode cX7_init 53 = .ok (.invokespecial 29, 3) := by decide +kernel
theorem dX7_init_56 : decode cX7_init 56 = .ok (.putfield 30, 3) := by decide +kernel
theorem dX7_init_59 : decode cX7_init 59 = .ok (.aload_n 0, 1) := by decide +kernel
theorem dX7_init_60 : decode cX7_init 60 = .ok (.new 34, 3) := by decide +kernel
theorem dX7_init_63 : decode cX7_init 63 = .ok (.dup, 1) := by decide +kernel
theorem dX7_init_64 : decode cX7_init 64 = .ok (.invokespecial 36, 3) := by decide +kernel
theorem dX7_init_67 : decode cX7_init 67 = .ok (.putfield 37, 3) := by decide +kernel
theorem dX7_init_70 : decode cX7_init 70 = .ok (.aload_n 0, 1) := by decide +kernel
theorem dX7_init_71 : decode cX7_init 71 = .ok (.bipush 7, 2) := by decide +kernel
theorem dX7_init_73 : decode cX7_init 73 = .ok (.newarray .int, 2) := by decide +kernel
theorem dX7_init_75 : decode cX7_init 75 = .ok (.putfield 41, 3) := by decide +kernel
theorem dX7_init_78 : decode cX7_init 78 = .ok (.return_, 1) := by decide +kernel
theorem dX7_changeRain_0 : decode cX7_changeRain 0 = .ok (.iload_n 1, 1) := by decide +kernel
theorem dX7_changeRain_1 : decode cX7_changeRain 1 = .ok (.ifCond .lt 12, 3) := by decide +kernel
theorem dX7_changeRain_4 : decode cX7_changeRain 4 = .ok (.iload_n 1, 1) := by decide +kernel
theorem dX7_changeRain_5 : decode cX7_changeRain 5 = .ok (.aload_n 0, 1) := by decide +kernel
theorem dX7_changeRain_6 : decode cX7_changeRain 6 = .ok (.getfield 41, 3) := by decide +kernel
theorem dX7_changeRain_9 : decode cX7_changeRain 9 = .ok (.arraylength, 1) := by decide +kernel
theorem dX7_changeRain_10 : decode cX7_changeRain 10 = .ok (.if_icmp .lt 5, 3) := by decide +kernel
theorem dX7_changeRain_13 : decode cX7_changeRain 13 = .ok (.iconst 0, 1) := by decide +kernel
theorem dX7_changeRain_14 : decode cX7_changeRain 14 = .ok (.ireturn, 1) := by decide +kernel
theorem dX7_changeRain_15 : decode cX7_changeRain 15 = .ok (.aload_n 0, 1) := by decide +kernel
theorem dX7_changeRain_16 : decode cX7_changeRain 16 = .ok (.getfield 41, 3) := by decide +kernel
theorem dX7_changeRain_19 : decode cX7_changeRain 19 = .ok (.iload_n 1, 1) := by decide +kernel
theorem dX7_changeRain_20 : decode cX7_changeRain 20 = .ok (.iaload, 1) := by decide +kernel
theorem dX7_changeRain_21 : decode cX7_changeRain 21 = .ok (.istore_n 3, 1) := by decide +kernel
theorem dX7_changeRain_22 : decode cX7_changeRain 22 = .ok (.aload_n 0, 1) := by decide +kernel
theorem dX7_changeRain_23 : decode cX7_changeRain 23 = .ok (.getfield 41, 3) := by decide +kernel
theorem dX7_changeRain_26 : decode cX7_changeRain 26 = .ok (.iload_n 1, 1) := by decide +kernel
theorem dX7_changeRain_27 : decode cX7_changeRain 27 = .ok (.iload_n 2, 1) := by decide +kernel
theorem dX7_changeRain_28 : decode cX7_changeRain 28 = .ok (.iastore, 1) := by decide +kernel
theorem dX7_changeRain_29 : decode cX7_changeRain 29 = .ok (.iload_n 3, 1) := by decide +kernel
theorem dX7_changeRain_30 : decode cX7_changeRain 30 = .ok (.ireturn, 1) := by decide +kernel
theorem dX7_rainOf_0 : decode cX7_rainOf 0 = .ok (.iload_n 1, 1) := by decide +kernel
theorem dX7_rainOf_1 : decode cX7_rainOf 1 = .ok (.ifCond .lt 21, 3) := by decide +kernel
theorem dX7_rainOf_4 : decode cX7_rainOf 4 = .ok (.iload_n 1, 1) := by decide +kernel
theorem dX7_rainOf_5 : decode cX7_rainOf 5 = .ok (.aload_n 0, 1) := by decide +kernel
theorem dX7_rainOf_6 : decode cX7_rainOf 6 = .ok (.getfield 41, 3) := by decide +kernel
theorem dX7_rainOf_9 : decode cX7_rainOf 9 = .ok (.arraylength, 1) := by decide +kernel
theorem dX7_rainOf_10 : decode cX7_rainOf 10 = .ok (.if_icmp .ge 12, 3) := by decide +kernel
theorem dX7_rainOf_13 : decode cX7_rainOf 13 = .ok (.aload_n 0, 1) := by decide +kernel
theorem dX7_rainOf_14 : decode cX7_rainOf 14 = .ok (.getfield 41, 3) := by decide +kernel
theorem dX7_rainOf_17 : decode cX7_rainOf 17 = .ok (.iload_n 1, 1) := by decide +kernel
theorem dX7_rainOf_18 : decode cX7_rainOf 18 = .ok (.iaload, 1) := by decide +kernel
theorem dX7_rainOf_19 : decode cX7_rainOf 19 = .ok (.goto 4, 3) := by decide +kernel
theorem dX7_rainOf_22 : decode cX7_rainOf 22 = .ok (.iconst 0, 1) := by decide +kernel
theorem dX7_rainOf_23 : decode cX7_rainOf 23 = .ok (.ireturn, 1) := by decide +kernel
theorem dX7_minutesOfWay_0 : decode cX7_minutesOfWay 0 = .ok (.aload_n 0, 1) := by decide +kernel
theorem dX7_minutesOfWay_1 : decode cX7_minutesOfWay 1 = .ok (.getfield 30, 3) := by decide +kernel
theorem dX7_minutesOfWay_4 : decode cX7_minutesOfWay 4 = .ok (.aload_n 0, 1) := by decide +kernel
theorem dX7_minutesOfWay_5 : decode cX7_minutesOfWay 5 = .ok (.getfield 12, 3) := by decide +kernel
theorem dX7_minutesOfWay_8 : decode cX7_minutesOfWay 8 = .ok (.invokevirtual 45, 3) := by decide +kernel
theorem dX7_minutesOfWay_11 : decode cX7_minutesOfWay 11 = .ok (.aload_n 0, 1) := by decide +kernel
theorem dX7_minutesOfWay_12 : decode cX7_minutesOfWay 12 = .ok (.getfield 18, 3) := by decide +kernel
theorem dX7_minutesOfWay_15 : decode cX7_minutesOfWay 15 = .ok (.invokevirtual 49, 3) := by decide +kernel
theorem dX7_minutesOfWay_18 : decode cX7_minutesOfWay 18 = .ok (.aload_n 0, 1) := by decide +kernel
theorem dX7_minutesOfWay_19 : decode cX7_minutesOfWay 19 = .ok (.getfield 30, 3) := by decide +kernel
theorem dX7_minutesOfWay_22 : decode cX7_minutesOfWay 22 = .ok (.iload_n 1, 1) := by decide +kernel
theorem dX7_minutesOfWay_23 : decode cX7_minutesOfWay 23 = .ok (.iload_n 2, 1) := by decide +kernel
theorem dX7_minutesOfWay_24 : decode cX7_minutesOfWay 24 = .ok (.invokevirtual 53, 3) := by decide +kernel
theorem dX7_minutesOfWay_27 : decode cX7_minutesOfWay 27 = .ok (.istore_n 3, 1) := by decide +kernel
theorem dX7_minutesOfWay_28 : decode cX7_minutesOfWay 28 = .ok (.iload_n 3, 1) := by decide +kernel
theorem dX7_minutesOfWay_29 : decode cX7_minutesOfWay 29 = .ok (.ldc 57, 2) := by decide +kernel
theorem dX7_minutesOfWay_31 : decode cX7_minutesOfWay 31 = .ok (.if_icmp .ge 7, 3) := by decide +kernel
theorem dX7_minutesOfWay_34 : decode cX7_minutesOfWay 34 = .ok (.iload_n 3, 1) := by decide +kernel
theorem dX7_minutesOfWay_35 : decode cX7_minutesOfWay 35 = .ok (.goto 4, 3) := by decide +kernel
theorem dX7_minutesOfWay_38 : decode cX7_minutesOfWay 38 = .ok (.iconst (-1), 1) := by decide +kernel
theorem dX7_minutesOfWay_39 : decode cX7_minutesOfWay 39 = .ok (.ireturn, 1) := by decide +kernel
theorem dX7_holderOf_0 : decode cX7_holderOf 0 = .ok (.iload_n 1, 1) := by decide +kernel
theorem dX7_holderOf_1 : decode cX7_holderOf 1 = .ok (.ifCond .lt 31, 3) := by decide +kernel
theorem dX7_holderOf_4 : decode cX7_holderOf 4 = .ok (.iload_n 1, 1) := by decide +kernel
theorem dX7_holderOf_5 : decode cX7_holderOf 5 = .ok (.aload_n 0, 1) := by decide +kernel
theorem dX7_holderOf_6 : decode cX7_holderOf 6 = .ok (.getfield 21, 3) := by decide +kernel
theorem dX7_holderOf_9 : decode cX7_holderOf 9 = .ok (.invokevirtual 45, 3) := by decide +kernel
theorem dX7_holderOf_12 : decode cX7_holderOf 12 = .ok (.if_icmp .ge 20, 3) := by decide +kernel
theorem dX7_holderOf_15 : decode cX7_holderOf 15 = .ok (.aload_n 0, 1) := by decide +kernel
theorem dX7_holderOf_16 : decode cX7_holderOf 16 = .ok (.getfield 21, 3) := by decide +kernel
theorem dX7_holderOf_19 : decode cX7_holderOf 19 = .ok (.iload_n 1, 1) := by decide +kernel
theorem dX7_holderOf_20 : decode cX7_holderOf 20 = .ok (.invokevirtual 58, 3) := by decide +kernel
theorem dX7_holderOf_23 : decode cX7_holderOf 23 = .ok (.checkcast 62, 3) := by decide +kernel
theorem dX7_holderOf_26 : decode cX7_holderOf 26 = .ok (.getfield 64, 3) := by decide +kernel
theorem dX7_holderOf_29 : decode cX7_holderOf 29 = .ok (.goto 4, 3) := by decide +kernel
theorem dX7_holderOf_32 : decode cX7_holderOf 32 = .ok (.iconst (-1), 1) := by decide +kernel
theorem dX7_holderOf_33 : decode cX7_holderOf 33 = .ok (.ireturn, 1) := by decide +kernel
theorem dX7_copyFrom_0 : decode cX7_copyFrom 0 = .ok (.iconst 0, 1) := by decide +kernel
theorem dX7_copyFrom_1 : decode cX7_copyFrom 1 = .ok (.istore_n 2, 1) := by decide +kernel
theorem dX7_copyFrom_2 : decode cX7_copyFrom 2 = .ok (.iload_n 2, 1) := by decide +kernel
theorem dX7_copyFrom_3 : decode cX7_copyFrom 3 = .ok (.aload_n 0, 1) := by decide +kernel
theorem dX7_copyFrom_4 : decode cX7_copyFrom 4 = .ok (.getfield 12, 3) := by decide +kernel
theorem dX7_copyFrom_7 : decode cX7_copyFrom 7 = .ok (.invokevirtual 45, 3) := by decide +kernel
theorem dX7_copyFrom_10 : decode cX7_copyFrom 10 = .ok (.if_icmp .ge 45, 3) := by decide +kernel
theorem dX7_copyFrom_13 : decode cX7_copyFrom 13 = .ok (.iload_n 2, 1) := by decide +kernel
theorem dX7_copyFrom_14 : decode cX7_copyFrom 14 = .ok (.aload_n 1, 1) := by decide +kernel
theorem dX7_copyFrom_15 : decode cX7_copyFrom 15 = .ok (.getfield 12, 3) := by decide +kernel
theorem dX7_copyFrom_18 : decode cX7_copyFrom 18 = .ok (.invokevirtual 45, 3) := by decide +kernel
theorem dX7_copyFrom_21 : decode cX7_copyFrom 21 = .ok (.if_icmp .ge 34, 3) := by decide +kernel
theorem dX7_copyFrom_24 : decode cX7_copyFrom 24 = .ok (.aload_n 0, 1) := by decide +kernel
theorem dX7_copyFrom_25 : decode cX7_copyFrom 25 = .ok (.getfield 12, 3) := by decide +kernel
theorem dX7_copyFrom_28 : decode cX7_copyFrom 28 = .ok (.iload_n 2, 1) := by decide +kernel
theorem dX7_copyFrom_29 : decode cX7_copyFrom 29 = .ok (.invokevirtual 58, 3) := by decide +kernel
theorem dX7_copyFrom_32 : decode cX7_copyFrom 32 = .ok (.checkcast 68, 3) := by decide +kernel
theorem dX7_copyFrom_35 : decode cX7_copyFrom 35 = .ok (.aload_n 1, 1) := by decide +kernel
theorem dX7_copyFrom_36 : decode cX7_copyFrom 36 = .ok (.getfield 12, 3) := by decide +kernel
theorem dX7_copyFrom_39 : decode cX7_copyFrom 39 = .ok (.iload_n 2, 1) := by decide +kernel
theorem dX7_copyFrom_40 : decode cX7_copyFrom 40 = .ok (.invokevirtual 58, 3) := by decide +kernel
theorem dX7_copyFrom_43 : decode cX7_copyFrom 43 = .ok (.checkcast 68, 3) := by decide +kernel
theorem dX7_copyFrom_46 : decode cX7_copyFrom 46 = .ok (.invokevirtual 70, 3) := by decide +kernel
theorem dX7_copyFrom_49 : decode cX7_copyFrom 49 = .ok (.iinc 2 1, 3) := by decide +kernel
theorem dX7_copyFrom_52 : decode cX7_copyFrom 52 = .ok (.goto (-50), 3) := by decide +kernel
theorem dX7_copyFrom_55 : decode cX7_copyFrom 55 = .ok (.iconst 0, 1) := by decide +kernel
theorem dX7_copyFrom_56 : decode cX7_copyFrom 56 = .ok (.istore_n 2, 1) := by decide +kernel
theorem dX7_copyFrom_57 : decode cX7_copyFrom 57 = .ok (.iload_n 2, 1) := by decide +kernel
theorem dX7_copyFrom_58 : decode cX7_copyFrom 58 = .ok (.aload_n 0, 1) := by decide +kernel
theorem dX7_copyFrom_59 : decode cX7_copyFrom 59 = .ok (.getfield 18, 3) := by decide +kernel
theorem dX7_copyFrom_62 : decode cX7_copyFrom 62 = .ok (.invokevirtual 45, 3) := by decide +kernel
theorem dX7_copyFrom_65 : decode cX7_copyFrom 65 = .ok (.if_icmp .ge 45, 3) := by decide +kernel
theorem dX7_copyFrom_68 : decode cX7_copyFrom 68 = .ok (.iload_n 2, 1) := by decide +kernel
theorem dX7_copyFrom_69 : decode cX7_copyFrom 69 = .ok (.aload_n 1, 1) := by decide +kernel
theorem dX7_copyFrom_70 : decode cX7_copyFrom 70 = .ok (.getfield 18, 3) := by decide +kernel
theorem dX7_copyFrom_73 : decode cX7_copyFrom 73 = .ok (.invokevirtual 45, 3) := by decide +kernel
theorem dX7_copyFrom_76 : decode cX7_copyFrom 76 = .ok (.if_icmp .ge 34, 3) := by decide +kernel
theorem dX7_copyFrom_79 : decode cX7_copyFrom 79 = .ok (.aload_n 0, 1) := by decide +kernel
theorem dX7_copyFrom_80 : decode cX7_copyFrom 80 = .ok (.getfield 18, 3) := by decide +kernel
theorem dX7_copyFrom_83 : decode cX7_copyFrom 83 = .ok (.iload_n 2, 1) := by decide +kernel
theorem dX7_copyFrom_84 : decode cX7_copyFrom 84 = .ok (.invokevirtual 58, 3) := by decide +kernel
theorem dX7_copyFrom_87 : decode cX7_copyFrom 87 = .ok (.checkcast 74, 3) := by decide +kernel
theorem dX7_copyFrom_90 : decode cX7_copyFrom 90 = .ok (.aload_n 1, 1) := by decide +kernel
theorem dX7_copyFrom_91 : decode cX7_copyFrom 91 = .ok (.getfield 18, 3) := by decide +kernel
theorem dX7_copyFrom_94 : decode cX7_copyFrom 94 = .ok (.iload_n 2, 1) := by decide +kernel
theorem dX7_copyFrom_95 : decode cX7_copyFrom 95 = .ok (.invokevirtual 58, 3) := by decide +kernel
theorem dX7_copyFrom_98 : decode cX7_copyFrom 98 = .ok (.checkcast 74, 3) := by decide +kernel
theorem dX7_copyFrom_101 : decode cX7_copyFrom 101 = .ok (.invokevirtual 76, 3) := by decide +kernel
theorem dX7_copyFrom_104 : decode cX7_copyFrom 104 = .ok (.iinc 2 1, 3) := by decide +kernel
theorem dX7_copyFrom_107 : decode cX7_copyFrom 107 = .ok (.goto (-50), 3) := by decide +kernel
theorem dX7_copyFrom_110 : decode cX7_copyFrom 110 = .ok (.iconst 0, 1) := by decide +kernel
theorem dX7_copyFrom_111 : decode cX7_copyFrom 111 = .ok (.istore_n 2, 1) := by decide +kernel
theorem dX7_copyFrom_112 : decode cX7_copyFrom 112 = .ok (.iload_n 2, 1) := by decide +kernel
theorem dX7_copyFrom_113 : decode cX7_copyFrom 113 = .ok (.aload_n 0, 1) := by decide +kernel
theorem dX7_copyFrom_114 : decode cX7_copyFrom 114 = .ok (.getfield 21, 3) := by decide +kernel
theorem dX7_copyFrom_117 : decode cX7_copyFrom 117 = .ok (.invokevirtual 45, 3) := by decide +kernel
theorem dX7_copyFrom_120 : decode cX7_copyFrom 120 = .ok (.if_icmp .ge 45, 3) := by decide +kernel
theorem dX7_copyFrom_123 : decode cX7_copyFrom 123 = .ok (.iload_n 2, 1) := by decide +kernel
theorem dX7_copyFrom_124 : decode cX7_copyFrom 124 = .ok (.aload_n 1, 1) := by decide +kernel
theorem dX7_copyFrom_125 : decode cX7_copyFrom 125 = .ok (.getfield 21, 3) := by decide +kernel
theorem dX7_copyFrom_128 : decode cX7_copyFrom 128 = .ok (.invokevirtual 45, 3) := by decide +kernel
theorem dX7_copyFrom_131 : decode cX7_copyFrom 131 = .ok (.if_icmp .ge 34, 3) := by decide +kernel
theorem dX7_copyFrom_134 : decode cX7_copyFrom 134 = .ok (.aload_n 0, 1) := by decide +kernel
theorem dX7_copyFrom_135 : decode cX7_copyFrom 135 = .ok (.getfield 21, 3) := by decide +kernel
theorem dX7_copyFrom_138 : decode cX7_copyFrom 138 = .ok (.iload_n 2, 1) := by decide +kernel
theorem dX7_copyFrom_139 : decode cX7_copyFrom 139 = .ok (.invokevirtual 58, 3) := by decide +kernel
theorem dX7_copyFrom_142 : decode cX7_copyFrom 142 = .ok (.checkcast 62, 3) := by decide +kernel
theorem dX7_copyFrom_145 : decode cX7_copyFrom 145 = .ok (.aload_n 1, 1) := by decide +kernel
theorem dX7_copyFrom_146 : decode cX7_copyFrom 146 = .ok (.getfield 21, 3) := by decide +kernel
theorem dX7_copyFrom_149 : decode cX7_copyFrom 149 = .ok (.iload_n 2, 1) := by decide +kernel
theorem dX7_copyFrom_150 : decode cX7_copyFrom 150 = .ok (.invokevirtual 58, 3) := by decide +kernel
theorem dX7_copyFrom_153 : decode cX7_copyFrom 153 = .ok (.checkcast 62, 3) := by decide +kernel
theorem dX7_copyFrom_156 : decode cX7_copyFrom 156 = .ok (.invokevirtual 79, 3) := by decide +kernel
theorem dX7_copyFrom_159 : decode cX7_copyFrom 159 = .ok (.iinc 2 1, 3) := by decide +kernel
theorem dX7_copyFrom_162 : decode cX7_copyFrom 162 = .ok (.goto (-50), 3) := by decide +kernel
theorem dX7_copyFrom_165 : decode cX7_copyFrom 165 = .ok (.iconst 0, 1) := by decide +kernel
theorem dX7_copyFrom_166 : decode cX7_copyFrom 166 = .ok (.istore_n 2, 1) := by decide +kernel
theorem dX7_copyFrom_167 : decode cX7_copyFrom 167 = .ok (.iload_n 2, 1) := by decide +kernel
theorem dX7_copyFrom_168 : decode cX7_copyFrom 168 = .ok (.aload_n 0, 1) := by decide +kernel
theorem dX7_copyFrom_169 : decode cX7_copyFrom 169 = .ok (.getfield 24, 3) := by decide +kernel
theorem dX7_copyFrom_172 : decode cX7_copyFrom 172 = .ok (.invokevirtual 45, 3) := by decide +kernel
theorem dX7_copyFrom_175 : decode cX7_copyFrom 175 = .ok (.if_icmp .ge 45, 3) := by decide +kernel
theorem dX7_copyFrom_178 : decode cX7_copyFrom 178 = .ok (.iload_n 2, 1) := by decide +kernel
theorem dX7_copyFrom_179 : decode cX7_copyFrom 179 = .ok (.aload_n 1, 1) := by decide +kernel
theorem dX7_copyFrom_180 : decode cX7_copyFrom 180 = .ok (.getfield 24, 3) := by decide +kernel
theorem dX7_copyFrom_183 : decode cX7_copyFrom 183 = .ok (.invokevirtual 45, 3) := by decide +kernel
theorem dX7_copyFrom_186 : decode cX7_copyFrom 186 = .ok (.if_icmp .ge 34, 3) := by decide +kernel
theorem dX7_copyFrom_189 : decode cX7_copyFrom 189 = .ok (.aload_n 0, 1) := by decide +kernel
theorem dX7_copyFrom_190 : decode cX7_copyFrom 190 = .ok (.getfield 24, 3) := by decide +kernel
theorem dX7_copyFrom_193 : decode cX7_copyFrom 193 = .ok (.iload_n 2, 1) := by decide +kernel
theorem dX7_copyFrom_194 : decode cX7_copyFrom 194 = .ok (.invokevirtual 58, 3) := by decide +kernel
theorem dX7_copyFrom_197 : decode cX7_copyFrom 197 = .ok (.checkcast 82, 3) := by decide +kernel
theorem dX7_copyFrom_200 : decode cX7_copyFrom 200 = .ok (.aload_n 1, 1) := by decide +kernel
theorem dX7_copyFrom_201 : decode cX7_copyFrom 201 = .ok (.getfield 24, 3) := by decide +kernel
theorem dX7_copyFrom_204 : decode cX7_copyFrom 204 = .ok (.iload_n 2, 1) := by decide +kernel
theorem dX7_copyFrom_205 : decode cX7_copyFrom 205 = .ok (.invokevirtual 58, 3) := by decide +kernel
theorem dX7_copyFrom_208 : decode cX7_copyFrom 208 = .ok (.checkcast 82, 3) := by decide +kernel
theorem dX7_copyFrom_211 : decode cX7_copyFrom 211 = .ok (.invokevirtual 84, 3) := by decide +kernel
theorem dX7_copyFrom_214 : decode cX7_copyFrom 214 = .ok (.iinc 2 1, 3) := by decide +kernel
theorem dX7_copyFrom_217 : decode cX7_copyFrom 217 = .ok (.goto (-50), 3) := by decide +kernel
theorem dX7_copyFrom_220 : decode cX7_copyFrom 220 = .ok (.aload_n 0, 1) := by decide +kernel
theorem dX7_copyFrom_221 : decode cX7_copyFrom 221 = .ok (.getfield 37, 3) := by decide +kernel
theorem dX7_copyFrom_224 : decode cX7_copyFrom 224 = .ok (.aload_n 1, 1) := by decide +kernel
theorem dX7_copyFrom_225 : decode cX7_copyFrom 225 = .ok (.getfield 37, 3) := by decide +kernel
theorem dX7_copyFrom_228 : decode cX7_copyFrom 228 = .ok (.invokevirtual 87, 3) := by decide +kernel
theorem dX7_copyFrom_231 : decode cX7_copyFrom 231 = .ok (.aload_n 1, 1) := by decide +kernel
theorem dX7_copyFrom_232 : decode cX7_copyFrom 232 = .ok (.getfield 41, 3) := by decide +kernel
theorem dX7_copyFrom_235 : decode cX7_copyFrom 235 = .ok (.aload_n 0, 1) := by decide +kernel
theorem dX7_copyFrom_236 : decode cX7_copyFrom 236 = .ok (.getfield 41, 3) := by decide +kernel
theorem dX7_copyFrom_239 : decode cX7_copyFrom 239 = .ok (.invokestatic 90, 3) := by decide +kernel
theorem dX7_copyFrom_242 : decode cX7_copyFrom 242 = .ok (.aload_n 0, 1) := by decide +kernel
theorem dX7_copyFrom_243 : decode cX7_copyFrom 243 = .ok (.aload_n 1, 1) := by decide +kernel
theorem dX7_copyFrom_244 : decode cX7_copyFrom 244 = .ok (.getfield 94, 3) := by decide +kernel
theorem dX7_copyFrom_247 : decode cX7_copyFrom 247 = .ok (.putfield 94, 3) := by decide +kernel
theorem dX7_copyFrom_250 : decode cX7_copyFrom 250 = .ok (.aload_n 0, 1) := by decide +kernel
theorem dX7_copyFrom_251 : decode cX7_copyFrom 251 = .ok (.aload_n 1, 1) := by decide +kernel
theorem dX7_copyFrom_252 : decode cX7_copyFrom 252 = .ok (.getfield 97, 3) := by decide +kernel
theorem dX7_copyFrom_255 : decode cX7_copyFrom 255 = .ok (.putfield 97, 3) := by decide +kernel
theorem dX7_copyFrom_258 : decode cX7_copyFrom 258 = .ok (.return_, 1) := by decide +kernel
theorem dX7_passDays_0 : decode cX7_passDays 0 = .ok (.iconst 0, 1) := by decide +kernel
theorem dX7_passDays_1 : decode cX7_passDays 1 = .ok (.istore_n 2, 1) := by decide +kernel
theorem dX7_passDays_2 : decode cX7_passDays 2 = .ok (.iload_n 2, 1) := by decide +kernel
theorem dX7_passDays_3 : decode cX7_passDays 3 = .ok (.iload_n 1, 1) := by decide +kernel
theorem dX7_passDays_4 : decode cX7_passDays 4 = .ok (.if_icmp .ge 27, 3) := by decide +kernel
theorem dX7_passDays_7 : decode cX7_passDays 7 = .ok (.aload_n 0, 1) := by decide +kernel
theorem dX7_passDays_8 : decode cX7_passDays 8 = .ok (.invokevirtual 100, 3) := by decide +kernel
theorem dX7_passDays_11 : decode cX7_passDays 11 = .ok (.aload_n 0, 1) := by decide +kernel
theorem dX7_passDays_12 : decode cX7_passDays 12 = .ok (.invokevirtual 103, 3) := by decide +kernel
theorem dX7_passDays_15 : decode cX7_passDays 15 = .ok (.aload_n 0, 1) := by decide +kernel
theorem dX7_passDays_16 : decode cX7_passDays 16 = .ok (.dup, 1) := by decide +kernel
theorem dX7_passDays_17 : decode cX7_passDays 17 = .ok (.getfield 94, 3) := by decide +kernel
theorem dX7_passDays_20 : decode cX7_passDays 20 = .ok (.iconst 1, 1) := by decide +kernel
theorem dX7_passDays_21 : decode cX7_passDays 21 = .ok (.iadd, 1) := by decide +kernel
theorem dX7_passDays_22 : decode cX7_passDays 22 = .ok (.putfield 94, 3) := by decide +kernel
theorem dX7_passDays_25 : decode cX7_passDays 25 = .ok (.iinc 2 1, 3) := by decide +kernel
theorem dX7_passDays_28 : decode cX7_passDays 28 = .ok (.goto (-26), 3) := by decide +kernel
theorem dX7_passDays_31 : decode cX7_passDays 31 = .ok (.return_, 1) := by decide +kernel
theorem dX7_weather_0 : decode cX7_weather 0 = .ok (.aload_n 0, 1) := by decide +kernel
theorem dX7_weather_1 : decode cX7_weather 1 = .ok (.aload_n 0, 1) := by decide +kernel
theorem dX7_weather_2 : decode cX7_weather 2 = .ok (.getfield 94, 3) := by decide +kernel
theorem dX7_weather_5 : decode cX7_weather 5 = .ok (.bipush 7, 2) := by decide +kernel
theorem dX7_weather_7 : decode cX7_weather 7 = .ok (.invokestatic 106, 3) := by decide +kernel
theorem dX7_weather_10 : decode cX7_weather 10 = .ok (.invokevirtual 111, 3) := by decide +kernel
theorem dX7_weather_13 : decode cX7_weather 13 = .ok (.istore_n 1, 1) := by decide +kernel
theorem dX7_weather_14 : decode cX7_weather 14 = .ok (.iconst 0, 1) := by decide +kernel
theorem dX7_weather_15 : decode cX7_weather 15 = .ok (.istore_n 2, 1) := by decide +kernel
theorem dX7_weather_16 : decode cX7_weather 16 = .ok (.iload_n 2, 1) := by decide +kernel
theorem dX7_weather_17 : decode cX7_weather 17 = .ok (.aload_n 0, 1) := by decide +kernel
theorem dX7_weather_18 : decode cX7_weather 18 = .ok (.getfield 18, 3) := by decide +kernel
theorem dX7_weather_21 : decode cX7_weather 21 = .ok (.invokevirtual 45, 3) := by decide +kernel
theorem dX7_weather_24 : decode cX7_weather 24 = .ok (.if_icmp .ge 24, 3) := by decide +kernel
theorem dX7_weather_27 : decode cX7_weather 27 = .ok (.aload_n 0, 1) := by decide +kernel
theorem dX7_weather_28 : decode cX7_weather 28 = .ok (.getfield 18, 3) := by decide +kernel
theorem dX7_weather_31 : decode cX7_weather 31 = .ok (.iload_n 2, 1) := by decide +kernel
theorem dX7_weather_32 : decode cX7_weather 32 = .ok (.invokevirtual 58, 3) := by decide +kernel
theorem dX7_weather_35 : decode cX7_weather 35 = .ok (.checkcast 74, 3) := by decide +kernel
theorem dX7_weather_38 : decode cX7_weather 38 = .ok (.iload_n 1, 1) := by decide +kernel
theorem dX7_weather_39 : decode cX7_weather 39 = .ok (.invokevirtual 115, 3) := by decide +kernel
theorem dX7_weather_42 : decode cX7_weather 42 = .ok (.iinc 2 1, 3) := by decide +kernel
theorem dX7_weather_45 : decode cX7_weather 45 = .ok (.goto (-29), 3) := by decide +kernel
theorem dX7_weather_48 : decode cX7_weather 48 = .ok (.return_, 1) := by decide +kernel
theorem dX7_goRound_0 : decode cX7_goRound 0 = .ok (.aload_n 0, 1) := by decide +kernel
theorem dX7_goRound_1 : decode cX7_goRound 1 = .ok (.getfield 30, 3) := by decide +kernel
theorem dX7_goRound_4 : decode cX7_goRound 4 = .ok (.aload_n 0, 1) := by decide +kernel
theorem dX7_goRound_5 : decode cX7_goRound 5 = .ok (.getfield 12, 3) := by decide +kernel
theorem dX7_goRound_8 : decode cX7_goRound 8 = .ok (.invokevirtual 45, 3) := by decide +kernel
theorem dX7_goRound_11 : decode cX7_goRound 11 = .ok (.aload_n 0, 1) := by decide +kernel
theorem dX7_goRound_12 : decode cX7_goRound 12 = .ok (.getfield 18, 3) := by decide +kernel
theorem dX7_goRound_15 : decode cX7_goRound 15 = .ok (.invokevirtual 49, 3) := by decide +kernel
theorem dX7_goRound_18 : decode cX7_goRound 18 = .ok (.iconst 0, 1) := by decide +kernel
theorem dX7_goRound_19 : decode cX7_goRound 19 = .ok (.istore_n 1, 1) := by decide +kernel
theorem dX7_goRound_20 : decode cX7_goRound 20 = .ok (.iconst 0, 1) := by decide +kernel
theorem dX7_goRound_21 : decode cX7_goRound 21 = .ok (.istore_n 2, 1) := by decide +kernel
theorem dX7_goRound_22 : decode cX7_goRound 22 = .ok (.iconst 0, 1) := by decide +kernel
theorem dX7_goRound_23 : decode cX7_goRound 23 = .ok (.istore_n 3, 1) := by decide +kernel
theorem dX7_goRound_24 : decode cX7_goRound 24 = .ok (.iload_n 3, 1) := by decide +kernel
theorem dX7_goRound_25 : decode cX7_goRound 25 = .ok (.aload_n 0, 1) := by decide +kernel
theorem dX7_goRound_26 : decode cX7_goRound 26 = .ok (.getfield 37, 3) := by decide +kernel
theorem dX7_goRound_29 : decode cX7_goRound 29 = .ok (.invokevirtual 118, 3) := by decide +kernel
theorem dX7_goRound_32 : decode cX7_goRound 32 = .ok (.if_icmp .ge 124, 3) := by decide +kernel
theorem dX7_goRound_35 : decode cX7_goRound 35 = .ok (.aload_n 0, 1) := by decide +kernel
theorem dX7_goRound_36 : decode cX7_goRound 36 = .ok (.getfield 37, 3) := by decide +kernel
theorem dX7_goRound_39 : decode cX7_goRound 39 = .ok (.iload_n 3, 1) := by decide +kernel
theorem dX7_goRound_40 : decode cX7_goRound 40 = .ok (.invokevirtual 119, 3) := by decide +kernel
theorem dX7_goRound_43 : decode cX7_goRound 43 = .ok (.istore 4, 2) := by decide +kernel
theorem dX7_goRound_45 : decode cX7_goRound 45 = .ok (.aload_n 0, 1) := by decide +kernel
theorem dX7_goRound_46 : decode cX7_goRound 46 = .ok (.getfield 30, 3) := by decide +kernel
theorem dX7_goRound_49 : decode cX7_goRound 49 = .ok (.iload_n 1, 1) := by decide +kernel
theorem dX7_goRound_50 : decode cX7_goRound 50 = .ok (.iload 4, 2) := by decide +kernel
theorem dX7_goRound_52 : decode cX7_goRound 52 = .ok (.invokevirtual 53, 3) := by decide +kernel
theorem dX7_goRound_55 : decode cX7_goRound 55 = .ok (.istore 5, 2) := by decide +kernel
theorem dX7_goRound_57 : decode cX7_goRound 57 = .ok (.aload_n 0, 1) := by decide +kernel
theorem dX7_goRound_58 : decode cX7_goRound 58 = .ok (.getfield 30, 3) := by decide +kernel
theorem dX7_goRound_61 : decode cX7_goRound 61 = .ok (.iload 4, 2) := by decide +kernel
theorem dX7_goRound_63 : decode cX7_goRound 63 = .ok (.iconst 0, 1) := by decide +kernel
theorem dX7_goRound_64 : decode cX7_goRound 64 = .ok (.invokevirtual 53, 3) := by decide +kernel
theorem dX7_goRound_67 : decode cX7_goRound 67 = .ok (.istore 6, 2) := by decide +kernel
theorem dX7_goRound_69 : decode cX7_goRound 69 = .ok (.iload 5, 2) := by decide +kernel
theorem dX7_goRound_71 : decode cX7_goRound 71 = .ok (.ldc 57, 2) := by decide +kernel
theorem dX7_goRound_73 : decode cX7_goRound 73 = .ok (.if_icmp .ge 33, 3) := by decide +kernel
theorem dX7_goRound_76 : decode cX7_goRound 76 = .ok (.iload 6, 2) := by decide +kernel
theorem dX7_goRound_78 : decode cX7_goRound 78 = .ok (.ldc 57, 2) := by decide +kernel
theorem dX7_goRound_80 : decode cX7_goRound 80 = .ok (.if_icmp .ge 26, 3) := by decide +kernel
theorem dX7_goRound_83 : decode cX7_goRound 83 = .ok (.iload_n 2, 1) := by decide +kernel
theorem dX7_goRound_84 : decode cX7_goRound 84 = .ok (.iload 5, 2) := by decide +kernel
theorem dX7_goRound_86 : decode cX7_goRound 86 = .ok (.iadd, 1) := by decide +kernel
theorem dX7_goRound_87 : decode cX7_goRound 87 = .ok (.iconst 5, 1) := by decide +kernel
theorem dX7_goRound_88 : decode cX7_goRound 88 = .ok (.iadd, 1) := by decide +kernel
theorem dX7_goRound_89 : decode cX7_goRound 89 = .ok (.iload 6, 2) := by decide +kernel
theorem dX7_goRound_91 : decode cX7_goRound 91 = .ok (.iadd, 1) := by decide +kernel
theorem dX7_goRound_92 : decode cX7_goRound 92 = .ok (.aload_n 0, 1) := by decide +kernel
theorem dX7_goRound_93 : decode cX7_goRound 93 = .ok (.getfield 37, 3) := by decide +kernel
theorem dX7_goRound_96 : decode cX7_goRound 96 = .ok (.getfield 122, 3) := by decide +kernel
theorem dX7_goRound_99 : decode cX7_goRound 99 = .ok (.if_icmp .gt 7, 3) := by decide +kernel
theorem dX7_goRound_102 : decode cX7_goRound 102 = .ok (.iconst 1, 1) := by decide +kernel
theorem dX7_goRound_103 : decode cX7_goRound 103 = .ok (.goto 4, 3) := by decide +kernel
theorem dX7_goRound_106 : decode cX7_goRound 106 = .ok (.iconst 0, 1) := by decide +kernel
theorem dX7_goRound_107 : decode cX7_goRound 107 = .ok (.istore 7, 2) := by decide +kernel
theorem dX7_goRound_109 : decode cX7_goRound 109 = .ok (.iload 7, 2) := by decide +kernel
theorem dX7_goRound_111 : decode cX7_goRound 111 = .ok (.ifCond .eq 31, 3) := by decide +kernel
theorem dX7_goRound_114 : decode cX7_goRound 114 = .ok (.iload_n 2, 1) := by decide +kernel
theorem dX7_goRound_115 : decode cX7_goRound 115 = .ok (.iload 5, 2) := by decide +kernel
theorem dX7_goRound_117 : decode cX7_goRound 117 = .ok (.iconst 5, 1) := by decide +kernel
theorem dX7_goRound_118 : decode cX7_goRound 118 = .ok (.iadd, 1) := by decide +kernel
theorem dX7_goRound_119 : decode cX7_goRound 119 = .ok (.iadd, 1) := by decide +kernel
theorem dX7_goRound_120 : decode cX7_goRound 120 = .ok (.istore_n 2, 1) := by decide +kernel
theorem dX7_goRound_121 : decode cX7_goRound 121 = .ok (.iload 4, 2) := by decide +kernel
theorem dX7_goRound_123 : decode cX7_goRound 123 = .ok (.istore_n 1, 1) := by decide +kernel
theorem dX7_goRound_124 : decode cX7_goRound 124 = .ok (.aload_n 0, 1) := by decide +kernel
theorem dX7_goRound_125 : decode cX7_goRound 125 = .ok (.iload 4, 2) := by decide +kernel
theorem dX7_goRound_127 : decode cX7_goRound 127 = .ok (.invokevirtual 125, 3) := by decide +kernel
theorem dX7_goRound_130 : decode cX7_goRound 130 = .ok (.aload_n 0, 1) := by decide +kernel
theorem dX7_goRound_131 : decode cX7_goRound 131 = .ok (.iload 4, 2) := by decide +kernel
theorem dX7_goRound_133 : decode cX7_goRound 133 = .ok (.invokevirtual 128, 3) := by decide +kernel
theorem dX7_goRound_136 : decode cX7_goRound 136 = .ok (.aload_n 0, 1) := by decide +kernel
theorem dX7_goRound_137 : decode cX7_goRound 137 = .ok (.iload 4, 2) := by decide +kernel
theorem dX7_goRound_139 : decode cX7_goRound 139 = .ok (.invokevirtual 131, 3) := by decide +kernel
theorem dX7_goRound_142 : decode cX7_goRound 142 = .ok (.aload_n 0, 1) := by decide +kernel
theorem dX7_goRound_143 : decode cX7_goRound 143 = .ok (.iload 4, 2) := by decide +kernel
theorem dX7_goRound_145 : decode cX7_goRound 145 = .ok (.iload 7, 2) := by decide +kernel
theorem dX7_goRound_147 : decode cX7_goRound 147 = .ok (.invokevirtual 134, 3) := by decide +kernel
theorem dX7_goRound_150 : decode cX7_goRound 150 = .ok (.iinc 3 1, 3) := by decide +kernel
theorem dX7_goRound_153 : decode cX7_goRound 153 = .ok (.goto (-129), 3) := by decide +kernel
theorem dX7_goRound_156 : decode cX7_goRound 156 = .ok (.aload_n 0, 1) := by decide +kernel
theorem dX7_goRound_157 : decode cX7_goRound 157 = .ok (.iload_n 2, 1) := by decide +kernel
theorem dX7_goRound_158 : decode cX7_goRound 158 = .ok (.ifCond .le 17, 3) := by decide +kernel
theorem dX7_goRound_161 : decode cX7_goRound 161 = .ok (.iload_n 2, 1) := by decide +kernel
theorem dX7_goRound_162 : decode cX7_goRound 162 = .ok (.aload_n 0, 1) := by decide +kernel
theorem dX7_goRound_163 : decode cX7_goRound 163 = .ok (.getfield 30, 3) := by decide +kernel
theorem dX7_goRound_166 : decode cX7_goRound 166 = .ok (.iload_n 1, 1) := by decide +kernel
theorem dX7_goRound_167 : decode cX7_goRound 167 = .ok (.iconst 0, 1) := by decide +kernel
theorem dX7_goRound_168 : decode cX7_goRound 168 = .ok (.invokevirtual 53, 3) := by decide +kernel
theorem dX7_goRound_171 : decode cX7_goRound 171 = .ok (.iadd, 1) := by decide +kernel
theorem dX7_goRound_172 : decode cX7_goRound 172 = .ok (.goto 4, 3) := by decide +kernel
theorem dX7_goRound_175 : decode cX7_goRound 175 = .ok (.iconst 0, 1) := by decide +kernel
theorem dX7_goRound_176 : decode cX7_goRound 176 = .ok (.putfield 97, 3) := by decide +kernel
theorem dX7_goRound_179 : decode cX7_goRound 179 = .ok (.return_, 1) := by decide +kernel
theorem dX7_noteVisit_0 : decode cX7_noteVisit 0 = .ok (.iload_n 1, 1) := by decide +kernel
theorem dX7_noteVisit_1 : decode cX7_noteVisit 1 = .ok (.ifCond .lt 14, 3) := by decide +kernel
theorem dX7_noteVisit_4 : decode cX7_noteVisit 4 = .ok (.iload_n 1, 1) := by decide +kernel
theorem dX7_noteVisit_5 : decode cX7_noteVisit 5 = .ok (.aload_n 0, 1) := by decide +kernel
theorem dX7_noteVisit_6 : decode cX7_noteVisit 6 = .ok (.getfield 12, 3) := by decide +kernel
theorem dX7_noteVisit_9 : decode cX7_noteVisit 9 = .ok (.invokevirtual 45, 3) := by decide +kernel
theorem dX7_noteVisit_12 : decode cX7_noteVisit 12 = .ok (.if_icmp .lt 4, 3) := by decide +kernel
theorem dX7_noteVisit_15 : decode cX7_noteVisit 15 = .ok (.return_, 1) := by decide +kernel
theorem dX7_noteVisit_16 : decode cX7_noteVisit 16 = .ok (.aload_n 0, 1) := by decide +kernel
theorem dX7_noteVisit_17 : decode cX7_noteVisit 17 = .ok (.getfield 12, 3) := by decide +kernel
theorem dX7_noteVisit_20 : decode cX7_noteVisit 20 = .ok (.iload_n 1, 1) := by decide +kernel
theorem dX7_noteVisit_21 : decode cX7_noteVisit 21 = .ok (.invokevirtual 58, 3) := by decide +kernel
theorem dX7_noteVisit_24 : decode cX7_noteVisit 24 = .ok (.checkcast 68, 3) := by decide +kernel
theorem dX7_noteVisit_27 : decode cX7_noteVisit 27 = .ok (.astore_n 3, 1) := by decide +kernel
theorem dX7_noteVisit_28 : decode cX7_noteVisit 28 = .ok (.iload_n 2, 1) := by decide +kernel
theorem dX7_noteVisit_29 : decode cX7_noteVisit 29 = .ok (.ifCond .eq 16, 3) := by decide +kernel
theorem dX7_noteVisit_32 : decode cX7_noteVisit 32 = .ok (.aload_n 3, 1) := by decide +kernel
theorem dX7_noteVisit_33 : decode cX7_noteVisit 33 = .ok (.dup, 1) := by decide +kernel
theorem dX7_noteVisit_34 : decode cX7_noteVisit 34 = .ok (.getfield 138, 3) := by decide +kernel
theorem dX7_noteVisit_37 : decode cX7_noteVisit 37 = .ok (.iconst 1, 1) := by decide +kernel
theorem dX7_noteVisit_38 : decode cX7_noteVisit 38 = .ok (.iadd, 1) := by decide +kernel
theorem dX7_noteVisit_39 : decode cX7_noteVisit 39 = .ok (.putfield 138, 3) := by decide +kernel
theorem dX7_noteVisit_42 : decode cX7_noteVisit 42 = .ok (.goto 13, 3) := by decide +kernel
theorem dX7_noteVisit_45 : decode cX7_noteVisit 45 = .ok (.aload_n 3, 1) := by decide +kernel
theorem dX7_noteVisit_46 : decode cX7_noteVisit 46 = .ok (.dup, 1) := by decide +kernel
theorem dX7_noteVisit_47 : decode cX7_noteVisit 47 = .ok (.getfield 141, 3) := by decide +kernel
theorem dX7_noteVisit_50 : decode cX7_noteVisit 50 = .ok (.iconst 1, 1) := by decide +kernel
theorem dX7_noteVisit_51 : decode cX7_noteVisit 51 = .ok (.iadd, 1) := by decide +kernel
theorem dX7_noteVisit_52 : decode cX7_noteVisit 52 = .ok (.putfield 141, 3) := by decide +kernel
theorem dX7_noteVisit_55 : decode cX7_noteVisit 55 = .ok (.return_, 1) := by decide +kernel
theorem dX7_takeBooksBack_0 : decode cX7_takeBooksBack 0 = .ok (.iconst 0, 1) := by decide +kernel
theorem dX7_takeBooksBack_1 : decode cX7_takeBooksBack 1 = .ok (.istore_n 2, 1) := by decide +kernel
theorem dX7_takeBooksBack_2 : decode cX7_takeBooksBack 2 = .ok (.iload_n 2, 1) := by decide +kernel
theorem dX7_takeBooksBack_3 : decode cX7_takeBooksBack 3 = .ok (.aload_n 0, 1) := by decide +kernel
theorem dX7_takeBooksBack_4 : decode cX7_takeBooksBack 4 = .ok (.getfield 21, 3) := by decide +kernel
theorem dX7_takeBooksBack_7 : decode cX7_takeBooksBack 7 = .ok (.invokevirtual 45, 3) := by decide +kernel
theorem dX7_takeBooksBack_10 : decode cX7_takeBooksBack 10 = .ok (.if_icmp .ge 77, 3) := by decide +kernel
theorem dX7_takeBooksBack_13 : decode cX7_takeBooksBack 13 = .ok (.aload_n 0, 1) := by decide +kernel
theorem dX7_takeBooksBack_14 : decode cX7_takeBooksBack 14 = .ok (.getfield 21, 3) := by decide +kernel
theorem dX7_takeBooksBack_17 : decode cX7_takeBooksBack 17 = .ok (.iload_n 2, 1) := by decide +kernel
theorem dX7_takeBooksBack_18 : decode cX7_takeBooksBack 18 = .ok (.invokevirtual 58, 3) := by decide +kernel
theorem dX7_takeBooksBack_21 : decode cX7_takeBooksBack 21 = .ok (.checkcast 62, 3) := by decide +kernel
theorem dX7_takeBooksBack_24 : decode cX7_takeBooksBack 24 = .ok (.astore_n 3, 1) := by decide +kernel
theorem dX7_takeBooksBack_25 : decode cX7_takeBooksBack 25 = .ok (.aload_n 0, 1) := by decide +kernel
theorem dX7_takeBooksBack_26 : decode cX7_takeBooksBack 26 = .ok (.aload_n 3, 1) := by decide +kernel
theorem dX7_takeBooksBack_27 : decode cX7_takeBooksBack 27 = .ok (.getfield 64, 3) := by decide +kernel
theorem dX7_takeBooksBack_30 : decode cX7_takeBooksBack 30 = .ok (.invokevirtual 144, 3) := by decide +kernel
theorem dX7_takeBooksBack_33 : decode cX7_takeBooksBack 33 = .ok (.astore 4, 2) := by decide +kernel
theorem dX7_takeBooksBack_35 : decode cX7_takeBooksBack 35 = .ok (.aload 4, 2) := by decide +kernel
theorem dX7_takeBooksBack_37 : decode cX7_takeBooksBack 37 = .ok (.ifnull 44, 3) := by decide +kernel
theorem dX7_takeBooksBack_40 : decode cX7_takeBooksBack 40 = .ok (.aload 4, 2) := by decide +kernel
theorem dX7_takeBooksBack_42 : decode cX7_takeBooksBack 42 = .ok (.getfield 148, 3) := by decide +kernel
theorem dX7_takeBooksBack_45 : decode cX7_takeBooksBack 45 = .ok (.iload_n 1, 1) := by decide +kernel
theorem dX7_takeBooksBack_46 : decode cX7_takeBooksBack 46 = .ok (.if_icmp .ne 35, 3) := by decide +kernel
theorem dX7_takeBooksBack_49 : decode cX7_takeBooksBack 49 = .ok (.aload_n 0, 1) := by decide +kernel
theorem dX7_takeBooksBack_50 : decode cX7_takeBooksBack 50 = .ok (.getfield 94, 3) := by decide +kernel
theorem dX7_takeBooksBack_53 : decode cX7_takeBooksBack 53 = .ok (.aload_n 3, 1) := by decide +kernel
theorem dX7_takeBooksBack_54 : decode cX7_takeBooksBack 54 = .ok (.getfield 151, 3) := by decide +kernel
theorem dX7_takeBooksBack_57 : decode cX7_takeBooksBack 57 = .ok (.isub, 1) := by decide +kernel
theorem dX7_takeBooksBack_58 : decode cX7_takeBooksBack 58 = .ok (.aload 4, 2) := by decide +kernel
theorem dX7_takeBooksBack_60 : decode cX7_takeBooksBack 60 = .ok (.getfield 154, 3) := by decide +kernel
theorem dX7_takeBooksBack_63 : decode cX7_takeBooksBack 63 = .ok (.if_icmp .lt 18, 3) := by decide +kernel
theorem dX7_takeBooksBack_66 : decode cX7_takeBooksBack 66 = .ok (.aload_n 3, 1) := by decide +kernel
theorem dX7_takeBooksBack_67 : decode cX7_takeBooksBack 67 = .ok (.aload 4, 2) := by decide +kernel
theorem dX7_takeBooksBack_69 : decode cX7_takeBooksBack 69 = .ok (.aload_n 0, 1) := by decide +kernel
theorem dX7_takeBooksBack_70 : decode cX7_takeBooksBack 70 = .ok (.getfield 94, 3) := by decide +kernel
theorem dX7_takeBooksBack_73 : decode cX7_takeBooksBack 73 = .ok (.aload_n 3, 1) := by decide +kernel
theorem dX7_takeBooksBack_74 : decode cX7_takeBooksBack 74 = .ok (.getfield 151, 3) := by decide +kernel
theorem dX7_takeBooksBack_77 : decode cX7_takeBooksBack 77 = .ok (.isub, 1) := by decide +kernel
theorem dX7_takeBooksBack_78 : decode cX7_takeBooksBack 78 = .ok (.invokevirtual 157, 3) := by decide +kernel
theorem dX7_takeBooksBack_81 : decode cX7_takeBooksBack 81 = .ok (.iinc 2 1, 3) := by decide +kernel
theorem dX7_takeBooksBack_84 : decode cX7_takeBooksBack 84 = .ok (.goto (-82), 3) := by decide +kernel
theorem dX7_takeBooksBack_87 : decode cX7_takeBooksBack 87 = .ok (.return_, 1) := by decide +kernel
theorem dX7_lendReservedBooks_0 : decode cX7_lendReservedBooks 0 = .ok (.iconst 0, 1) := by decide +kernel
theorem dX7_lendReservedBooks_1 : decode cX7_lendReservedBooks 1 = .ok (.istore_n 2, 1) := by decide +kernel
theorem dX7_lendReservedBooks_2 : decode cX7_lendReservedBooks 2 = .ok (.iload_n 2, 1) := by decide +kernel
theorem dX7_lendReservedBooks_3 : decode cX7_lendReservedBooks 3 = .ok (.aload_n 0, 1) := by decide +kernel
theorem dX7_lendReservedBooks_4 : decode cX7_lendReservedBooks 4 = .ok (.getfield 21, 3) := by decide +kernel
theorem dX7_lendReservedBooks_7 : decode cX7_lendReservedBooks 7 = .ok (.invokevirtual 45, 3) := by decide +kernel
theorem dX7_lendReservedBooks_10 : decode cX7_lendReservedBooks 10 = .ok (.if_icmp .ge 85, 3) := by decide +kernel
theorem dX7_lendReservedBooks_13 : decode cX7_lendReservedBooks 13 = .ok (.aload_n 0, 1) := by decide +kernel
theorem dX7_lendReservedBooks_14 : decode cX7_lendReservedBooks 14 = .ok (.getfield 21, 3) := by decide +kernel
theorem dX7_lendReservedBooks_17 : decode cX7_lendReservedBooks 17 = .ok (.iload_n 2, 1) := by decide +kernel
theorem dX7_lendReservedBooks_18 : decode cX7_lendReservedBooks 18 = .ok (.invokevirtual 58, 3) := by decide +kernel
theorem dX7_lendReservedBooks_21 : decode cX7_lendReservedBooks 21 = .ok (.checkcast 62, 3) := by decide +kernel
theorem dX7_lendReservedBooks_24 : decode cX7_lendReservedBooks 24 = .ok (.astore_n 3, 1) := by decide +kernel
theorem dX7_lendReservedBooks_25 : decode cX7_lendReservedBooks 25 = .ok (.aload_n 3, 1) := by decide +kernel
theorem dX7_lendReservedBooks_26 : decode cX7_lendReservedBooks 26 = .ok (.invokevirtual 161, 3) := by decide +kernel
theorem dX7_lendReservedBooks_29 : decode cX7_lendReservedBooks 29 = .ok (.ifCond .eq 17, 3) := by decide +kernel
theorem dX7_lendReservedBooks_32 : decode cX7_lendReservedBooks 32 = .ok (.aload_n 0, 1) := by decide +kernel
theorem dX7_lendReservedBooks_33 : decode cX7_lendReservedBooks 33 = .ok (.aload_n 3, 1) := by decide +kernel
theorem dX7_lendReservedBooks_34 : decode cX7_lendReservedBooks 34 = .ok (.getfield 165, 3) := by decide +kernel
theorem dX7_lendReservedBooks_37 : decode cX7_lendReservedBooks 37 = .ok (.invokevirtual 169, 3) := by decide +kernel
theorem dX7_lendReservedBooks_40 : decode cX7_lendReservedBooks 40 = .ok (.invokevirtual 144, 3) := by decide +kernel
theorem dX7_lendReservedBooks_43 : decode cX7_lendReservedBooks 43 = .ok (.goto 4, 3) := by decide +kernel
theorem dX7_lendReservedBooks_46 : decode cX7_lendReservedBooks 46 = .ok (.aconst_null, 1) := by decide +kernel
theorem dX7_lendReservedBooks_47 : decode cX7_lendReservedBooks 47 = .ok (.astore 4, 2) := by decide +kernel
theorem dX7_lendReservedBooks_49 : decode cX7_lendReservedBooks 49 = .ok (.aload 4, 2) := by decide +kernel
theorem dX7_lendReservedBooks_51 : decode cX7_lendReservedBooks 51 = .ok (.ifnull 38, 3) := by decide +kernel
theorem dX7_lendReservedBooks_54 : decode cX7_lendReservedBooks 54 = .ok (.aload 4, 2) := by decide +kernel
theorem dX7_lendReservedBooks_56 : decode cX7_lendReservedBooks 56 = .ok (.getfield 148, 3) := by decide +kernel
theorem dX7_lendReservedBooks_59 : decode cX7_lendReservedBooks 59 = .ok (.iload_n 1, 1) := by decide +kernel
theorem dX7_lendReservedBooks_60 : decode cX7_lendReservedBooks 60 = .ok (.if_icmp .ne 29, 3) := by decide +kernel
theorem dX7_lendReservedBooks_63 : decode cX7_lendReservedBooks 63 = .ok (.aload 4, 2) := by decide +kernel
theorem dX7_lendReservedBooks_65 : decode cX7_lendReservedBooks 65 = .ok (.invokevirtual 174, 3) := by decide +kernel
theorem dX7_lendReservedBooks_68 : decode cX7_lendReservedBooks 68 = .ok (.ifCond .eq 21, 3) := by decide +kernel
theorem dX7_lendReservedBooks_71 : decode cX7_lendReservedBooks 71 = .ok (.aload_n 3, 1) := by decide +kernel
theorem dX7_lendReservedBooks_72 : decode cX7_lendReservedBooks 72 = .ok (.getfield 165, 3) := by decide +kernel
theorem dX7_lendReservedBooks_75 : decode cX7_lendReservedBooks 75 = .ok (.iconst 0, 1) := by decide +kernel
theorem dX7_lendReservedBooks_76 : decode cX7_lendReservedBooks 76 = .ok (.invokevirtual 177, 3) := by decide +kernel
theorem dX7_lendReservedBooks_79 : decode cX7_lendReservedBooks 79 = .ok (.aload_n 3, 1) := by decide +kernel
theorem dX7_lendReservedBooks_80 : decode cX7_lendReservedBooks 80 = .ok (.aload 4, 2) := by decide +kernel
theorem dX7_lendReservedBooks_82 : decode cX7_lendReservedBooks 82 = .ok (.aload_n 0, 1) := by decide +kernel
theorem dX7_lendReservedBooks_83 : decode cX7_lendReservedBooks 83 = .ok (.getfield 94, 3) := by decide +kernel
theorem dX7_lendReservedBooks_86 : decode cX7_lendReservedBooks 86 = .ok (.invokevirtual 180, 3) := by decide +kernel
theorem dX7_lendReservedBooks_89 : decode cX7_lendReservedBooks 89 = .ok (.iinc 2 1, 3) := by decide +kernel
theorem dX7_lendReservedBooks_92 : decode cX7_lendReservedBooks 92 = .ok (.goto (-90), 3) := by decide +kernel
theorem dX7_lendReservedBooks_95 : decode cX7_lendReservedBooks 95 = .ok (.return_, 1) := by decide +kernel
theorem dX7_readerWith_0 : decode cX7_readerWith 0 = .ok (.iload_n 1, 1) := by decide +kernel
theorem dX7_readerWith_1 : decode cX7_readerWith 1 = .ok (.ifCond .lt 28, 3) := by decide +kernel
theorem dX7_readerWith_4 : decode cX7_readerWith 4 = .ok (.iload_n 1, 1) := by decide +kernel
theorem dX7_readerWith_5 : decode cX7_readerWith 5 = .ok (.aload_n 0, 1) := by decide +kernel
theorem dX7_readerWith_6 : decode cX7_readerWith 6 = .ok (.getfield 24, 3) := by decide +kernel
theorem dX7_readerWith_9 : decode cX7_readerWith 9 = .ok (.invokevirtual 45, 3) := by decide +kernel
theorem dX7_readerWith_12 : decode cX7_readerWith 12 = .ok (.if_icmp .ge 17, 3) := by decide +kernel
theorem dX7_readerWith_15 : decode cX7_readerWith 15 = .ok (.aload_n 0, 1) := by decide +kernel
theorem dX7_readerWith_16 : decode cX7_readerWith 16 = .ok (.getfield 24, 3) := by decide +kernel
theorem dX7_readerWith_19 : decode cX7_readerWith 19 = .ok (.iload_n 1, 1) := by decide +kernel
theorem dX7_readerWith_20 : decode cX7_readerWith 20 = .ok (.invokevirtual 58, 3) := by decide +kernel
theorem dX7_readerWith_23 : decode cX7_readerWith 23 = .ok (.checkcast 82, 3) := by decide +kernel
theorem dX7_readerWith_26 : decode cX7_readerWith 26 = .ok (.goto 4, 3) := by decide +kernel
theorem dX7_readerWith_29 : decode cX7_readerWith 29 = .ok (.aconst_null, 1) := by decide +kernel
theorem dX7_readerWith_30 : decode cX7_readerWith 30 = .ok (.areturn, 1) := by decide +kernel
theorem dX7_lendOtherBooks_0 : decode cX7_lendOtherBooks 0 = .ok (.iconst 0, 1) := by decide +kernel
theorem dX7_lendOtherBooks_1 : decode cX7_lendOtherBooks 1 = .ok (.istore_n 2, 1) := by decide +kernel
theorem dX7_lendOtherBooks_2 : decode cX7_lendOtherBooks 2 = .ok (.iload_n 2, 1) := by decide +kernel
theorem dX7_lendOtherBooks_3 : decode cX7_lendOtherBooks 3 = .ok (.aload_n 0, 1) := by decide +kernel
theorem dX7_lendOtherBooks_4 : decode cX7_lendOtherBooks 4 = .ok (.getfield 24, 3) := by decide +kernel
theorem dX7_lendOtherBooks_7 : decode cX7_lendOtherBooks 7 = .ok (.invokevirtual 45, 3) := by decide +kernel
theorem dX7_lendOtherBooks_10 : decode cX7_lendOtherBooks 10 = .ok (.if_icmp .ge 41, 3) := by decide +kernel
theorem dX7_lendOtherBooks_13 : decode cX7_lendOtherBooks 13 = .ok (.aload_n 0, 1) := by decide +kernel
theorem dX7_lendOtherBooks_14 : decode cX7_lendOtherBooks 14 = .ok (.getfield 24, 3) := by decide +kernel
theorem dX7_lendOtherBooks_17 : decode cX7_lendOtherBooks 17 = .ok (.iload_n 2, 1) := by decide +kernel
theorem dX7_lendOtherBooks_18 : decode cX7_lendOtherBooks 18 = .ok (.invokevirtual 58, 3) := by decide +kernel
theorem dX7_lendOtherBooks_21 : decode cX7_lendOtherBooks 21 = .ok (.checkcast 82, 3) := by decide +kernel
theorem dX7_lendOtherBooks_24 : decode cX7_lendOtherBooks 24 = .ok (.astore_n 3, 1) := by decide +kernel
theorem dX7_lendOtherBooks_25 : decode cX7_lendOtherBooks 25 = .ok (.aload_n 3, 1) := by decide +kernel
theorem dX7_lendOtherBooks_26 : decode cX7_lendOtherBooks 26 = .ok (.getfield 148, 3) := by decide +kernel
theorem dX7_lendOtherBooks_29 : decode cX7_lendOtherBooks 29 = .ok (.iload_n 1, 1) := by decide +kernel
theorem dX7_lendOtherBooks_30 : decode cX7_lendOtherBooks 30 = .ok (.if_icmp .ne 15, 3) := by decide +kernel
theorem dX7_lendOtherBooks_33 : decode cX7_lendOtherBooks 33 = .ok (.aload_n 3, 1) := by decide +kernel
theorem dX7_lendOtherBooks_34 : decode cX7_lendOtherBooks 34 = .ok (.invokevirtual 174, 3) := by decide +kernel
theorem dX7_lendOtherBooks_37 : decode cX7_lendOtherBooks 37 = .ok (.ifCond .eq 8, 3) := by decide +kernel
theorem dX7_lendOtherBooks_40 : decode cX7_lendOtherBooks 40 = .ok (.aload_n 0, 1) := by decide +kernel
theorem dX7_lendOtherBooks_41 : decode cX7_lendOtherBooks 41 = .ok (.aload_n 3, 1) := by decide +kernel
theorem dX7_lendOtherBooks_42 : decode cX7_lendOtherBooks 42 = .ok (.invokevirtual 183, 3) := by decide +kernel
theorem dX7_lendOtherBooks_45 : decode cX7_lendOtherBooks 45 = .ok (.iinc 2 1, 3) := by decide +kernel
theorem dX7_lendOtherBooks_48 : decode cX7_lendOtherBooks 48 = .ok (.goto (-46), 3) := by decide +kernel
theorem dX7_lendOtherBooks_51 : decode cX7_lendOtherBooks 51 = .ok (.return_, 1) := by decide +kernel
theorem dX7_lendOtherBookTo_0 : decode cX7_lendOtherBookTo 0 = .ok (.iconst 0, 1) := by decide +kernel
theorem dX7_lendOtherBookTo_1 : decode cX7_lendOtherBookTo 1 = .ok (.istore_n 2, 1) := by decide +kernel
theorem dX7_lendOtherBookTo_2 : decode cX7_lendOtherBookTo 2 = .ok (.iload_n 2, 1) := by decide +kernel
theorem dX7_lendOtherBookTo_3 : decode cX7_lendOtherBookTo 3 = .ok (.aload_n 0, 1) := by decide +kernel
theorem dX7_lendOtherBookTo_4 : decode cX7_lendOtherBookTo 4 = .ok (.getfield 21, 3) := by decide +kernel
theorem dX7_lendOtherBookTo_7 : decode cX7_lendOtherBookTo 7 = .ok (.invokevirtual 45, 3) := by decide +kernel
theorem dX7_lendOtherBookTo_10 : decode cX7_lendOtherBookTo 10 = .ok (.if_icmp .ge 70, 3) := by decide +kernel
theorem dX7_lendOtherBookTo_13 : decode cX7_lendOtherBookTo 13 = .ok (.aload_n 0, 1) := by decide +kernel
theorem dX7_lendOtherBookTo_14 : decode cX7_lendOtherBookTo 14 = .ok (.getfield 21, 3) := by decide +kernel
theorem dX7_lendOtherBookTo_17 : decode cX7_lendOtherBookTo 17 = .ok (.iload_n 2, 1) := by decide +kernel
theorem dX7_lendOtherBookTo_18 : decode cX7_lendOtherBookTo 18 = .ok (.invokevirtual 58, 3) := by decide +kernel
theorem dX7_lendOtherBookTo_21 : decode cX7_lendOtherBookTo 21 = .ok (.checkcast 62, 3) := by decide +kernel
theorem dX7_lendOtherBookTo_24 : decode cX7_lendOtherBookTo 24 = .ok (.astore_n 3, 1) := by decide +kernel
theorem dX7_lendOtherBookTo_25 : decode cX7_lendOtherBookTo 25 = .ok (.aload_n 3, 1) := by decide +kernel
theorem dX7_lendOtherBookTo_26 : decode cX7_lendOtherBookTo 26 = .ok (.invokevirtual 161, 3) := by decide +kernel
theorem dX7_lendOtherBookTo_29 : decode cX7_lendOtherBookTo 29 = .ok (.ifCond .eq 45, 3) := by decide +kernel
theorem dX7_lendOtherBookTo_32 : decode cX7_lendOtherBookTo 32 = .ok (.aload_n 3, 1) := by decide +kernel
theorem dX7_lendOtherBookTo_33 : decode cX7_lendOtherBookTo 33 = .ok (.getfield 186, 3) := by decide +kernel
theorem dX7_lendOtherBookTo_36 : decode cX7_lendOtherBookTo 36 = .ok (.aload_n 1, 1) := by decide +kernel
theorem dX7_lendOtherBookTo_37 : decode cX7_lendOtherBookTo 37 = .ok (.getfield 189, 3) := by decide +kernel
theorem dX7_lendOtherBookTo_40 : decode cX7_lendOtherBookTo 40 = .ok (.if_icmp .ne 34, 3) := by decide +kernel
theorem dX7_lendOtherBookTo_43 : decode cX7_lendOtherBookTo 43 = .ok (.aload_n 3, 1) := by decide +kernel
theorem dX7_lendOtherBookTo_44 : decode cX7_lendOtherBookTo 44 = .ok (.getfield 165, 3) := by decide +kernel
theorem dX7_lendOtherBookTo_47 : decode cX7_lendOtherBookTo 47 = .ok (.invokevirtual 190, 3) := by decide +kernel
theorem dX7_lendOtherBookTo_50 : decode cX7_lendOtherBookTo 50 = .ok (.ifCond .ne 24, 3) := by decide +kernel
theorem dX7_lendOtherBookTo_53 : decode cX7_lendOtherBookTo 53 = .ok (.aload_n 1, 1) := by decide +kernel
theorem dX7_lendOtherBookTo_54 : decode cX7_lendOtherBookTo 54 = .ok (.aload_n 3, 1) := by decide +kernel
theorem dX7_lendOtherBookTo_55 : decode cX7_lendOtherBookTo 55 = .ok (.getfield 191, 3) := by decide +kernel
theorem dX7_lendOtherBookTo_58 : decode cX7_lendOtherBookTo 58 = .ok (.invokevirtual 194, 3) := by decide +kernel
theorem dX7_lendOtherBookTo_61 : decode cX7_lendOtherBookTo 61 = .ok (.ifCond .ne 13, 3) := by decide +kernel
theorem dX7_lendOtherBookTo_64 : decode cX7_lendOtherBookTo 64 = .ok (.aload_n 3, 1) := by decide +kernel
theorem dX7_lendOtherBookTo_65 : decode cX7_lendOtherBookTo 65 = .ok (.aload_n 1, 1) := by decide +kernel
theorem dX7_lendOtherBookTo_66 : decode cX7_lendOtherBookTo 66 = .ok (.aload_n 0, 1) := by decide +kernel
theorem dX7_lendOtherBookTo_67 : decode cX7_lendOtherBookTo 67 = .ok (.getfield 94, 3) := by decide +kernel
theorem dX7_lendOtherBookTo_70 : decode cX7_lendOtherBookTo 70 = .ok (.invokevirtual 180, 3) := by decide +kernel
theorem dX7_lendOtherBookTo_73 : decode cX7_lendOtherBookTo 73 = .ok (.return_, 1) := by decide +kernel
theorem dX7_lendOtherBookTo_74 : decode cX7_lendOtherBookTo 74 = .ok (.iinc 2 1, 3) := by decide +kernel
theorem dX7_lendOtherBookTo_77 : decode cX7_lendOtherBookTo 77 = .ok (.goto (-75), 3) := by decide +kernel
theorem dX7_lendOtherBookTo_80 : decode cX7_lendOtherBookTo 80 = .ok (.return_, 1) := by decide +kernel
theorem dX7_haltAnswer_0 : decode cX7_haltAnswer 0 = .ok (.iload_n 1, 1) := by decide +kernel
theorem dX7_haltAnswer_1 : decode cX7_haltAnswer 1 = .ok (.ifCond .lt 14, 3) := by decide +kernel
theorem dX7_haltAnswer_4 : decode cX7_haltAnswer 4 = .ok (.iload_n 1, 1) := by decide +kernel
theorem dX7_haltAnswer_5 : decode cX7_haltAnswer 5 = .ok (.aload_n 0, 1) := by decide +kernel
theorem dX7_haltAnswer_6 : decode cX7_haltAnswer 6 = .ok (.getfield 12, 3) := by decide +kernel
theorem dX7_haltAnswer_9 : decode cX7_haltAnswer 9 = .ok (.invokevirtual 45, 3) := by decide +kernel
theorem dX7_haltAnswer_12 : decode cX7_haltAnswer 12 = .ok (.if_icmp .lt 5, 3) := by decide +kernel
theorem dX7_haltAnswer_15 : decode cX7_haltAnswer 15 = .ok (.iconst (-1), 1) := by decide +kernel
theorem dX7_haltAnswer_16 : decode cX7_haltAnswer 16 = .ok (.ireturn, 1) := by decide +kernel
theorem dX7_haltAnswer_17 : decode cX7_haltAnswer 17 = .ok (.aload_n 0, 1) := by decide +kernel
theorem dX7_haltAnswer_18 : decode cX7_haltAnswer 18 = .ok (.getfield 12, 3) := by decide +kernel
theorem dX7_haltAnswer_21 : decode cX7_haltAnswer 21 = .ok (.iload_n 1, 1) := by decide +kernel
theorem dX7_haltAnswer_22 : decode cX7_haltAnswer 22 = .ok (.invokevirtual 58, 3) := by decide +kernel
theorem dX7_haltAnswer_25 : decode cX7_haltAnswer 25 = .ok (.checkcast 68, 3) := by decide +kernel
theorem dX7_haltAnswer_28 : decode cX7_haltAnswer 28 = .ok (.astore_n 3, 1) := by decide +kernel
theorem dX7_haltAnswer_29 : decode cX7_haltAnswer 29 = .ok (.iload_n 2, 1) := by decide +kernel
theorem dX7_haltAnswer_30 : decode cX7_haltAnswer 30 = .ok (.tableswitch 56 0 3 #[30, 36, 42, 51], 30) := by decide +kernel
theorem dX7_haltAnswer_60 : decode cX7_haltAnswer 60 = .ok (.aload_n 0, 1) := by decide +kernel
theorem dX7_haltAnswer_61 : decode cX7_haltAnswer 61 = .ok (.iload_n 1, 1) := by decide +kernel
theorem dX7_haltAnswer_62 : decode cX7_haltAnswer 62 = .ok (.invokevirtual 198, 3) := by decide +kernel
theorem dX7_haltAnswer_65 : decode cX7_haltAnswer 65 = .ok (.ireturn, 1) := by decide +kernel
theorem dX7_haltAnswer_66 : decode cX7_haltAnswer 66 = .ok (.aload_n 0, 1) := by decide +kernel
theorem dX7_haltAnswer_67 : decode cX7_haltAnswer 67 = .ok (.iload_n 1, 1) := by decide +kernel
theorem dX7_haltAnswer_68 : decode cX7_haltAnswer 68 = .ok (.invokevirtual 201, 3) := by decide +kernel
theorem dX7_haltAnswer_71 : decode cX7_haltAnswer 71 = .ok (.ireturn, 1) := by decide +kernel
theorem dX7_haltAnswer_72 : decode cX7_haltAnswer 72 = .ok (.aload_n 0, 1) := by decide +kernel
theorem dX7_haltAnswer_73 : decode cX7_haltAnswer 73 = .ok (.getfield 37, 3) := by decide +kernel
theorem dX7_haltAnswer_76 : decode cX7_haltAnswer 76 = .ok (.iload_n 1, 1) := by decide +kernel
theorem dX7_haltAnswer_77 : decode cX7_haltAnswer 77 = .ok (.invokevirtual 204, 3) := by decide +kernel
theorem dX7_haltAnswer_80 : decode cX7_haltAnswer 80 = .ok (.ireturn, 1) := by decide +kernel
theorem dX7_haltAnswer_81 : decode cX7_haltAnswer 81 = .ok (.aload_n 3, 1) := by decide +kernel
theorem dX7_haltAnswer_82 : decode cX7_haltAnswer 82 = .ok (.getfield 138, 3) := by decide +kernel
theorem dX7_haltAnswer_85 : decode cX7_haltAnswer 85 = .ok (.ireturn, 1) := by decide +kernel
theorem dX7_haltAnswer_86 : decode cX7_haltAnswer 86 = .ok (.aload_n 3, 1) := by decide +kernel
theorem dX7_haltAnswer_87 : decode cX7_haltAnswer 87 = .ok (.getfield 141, 3) := by decide +kernel
theorem dX7_haltAnswer_90 : decode cX7_haltAnswer 90 = .ok (.ireturn, 1) := by decide +kernel
theorem dX7_laneAnswer_0 : decode cX7_laneAnswer 0 = .ok (.iload_n 1, 1) := by decide +kernel
theorem dX7_laneAnswer_1 : decode cX7_laneAnswer 1 = .ok (.ifCond .lt 14, 3) := by decide +kernel
theorem dX7_laneAnswer_4 : decode cX7_laneAnswer 4 = .ok (.iload_n 1, 1) := by decide +kernel
theorem dX7_laneAnswer_5 : decode cX7_laneAnswer 5 = .ok (.aload_n 0, 1) := by decide +kernel
theorem dX7_laneAnswer_6 : decode cX7_laneAnswer 6 = .ok (.getfield 18, 3) := by decide +kernel
theorem dX7_laneAnswer_9 : decode cX7_laneAnswer 9 = .ok (.invokevirtual 45, 3) := by decide +kernel
theorem dX7_laneAnswer_12 : decode cX7_laneAnswer 12 = .ok (.if_icmp .lt 5, 3) := by decide +kernel
theorem dX7_laneAnswer_15 : decode cX7_laneAnswer 15 = .ok (.iconst (-1), 1) := by decide +kernel
theorem dX7_laneAnswer_16 : decode cX7_laneAnswer 16 = .ok (.ireturn, 1) := by decide +kernel
theorem dX7_laneAnswer_17 : decode cX7_laneAnswer 17 = .ok (.aload_n 0, 1) := by decide +kernel
theorem dX7_laneAnswer_18 : decode cX7_laneAnswer 18 = .ok (.getfield 18, 3) := by decide +kernel
theorem dX7_laneAnswer_21 : decode cX7_laneAnswer 21 = .ok (.iload_n 1, 1) := by decide +kernel
theorem dX7_laneAnswer_22 : decode cX7_laneAnswer 22 = .ok (.invokevirtual 58, 3) := by decide +kernel
theorem dX7_laneAnswer_25 : decode cX7_laneAnswer 25 = .ok (.checkcast 74, 3) := by decide +kernel
theorem dX7_laneAnswer_28 : decode cX7_laneAnswer 28 = .ok (.astore_n 3, 1) := by decide +kernel
theorem dX7_laneAnswer_29 : decode cX7_laneAnswer 29 = .ok (.iload_n 2, 1) := by decide +kernel
theorem dX7_laneAnswer_30 : decode cX7_laneAnswer 30 = .ok (.tableswitch 59 0 4 #[34, 39, 44, 49, 54], 34) := by decide +kernel
theorem dX7_laneAnswer_64 : decode cX7_laneAnswer 64 = .ok (.aload_n 3, 1) := by decide +kernel
theorem dX7_laneAnswer_65 : decode cX7_laneAnswer 65 = .ok (.getfield 207, 3) := by decide +kernel
theorem dX7_laneAnswer_68 : decode cX7_laneAnswer 68 = .ok (.ireturn, 1) := by decide +kernel
theorem dX7_laneAnswer_69 : decode cX7_laneAnswer 69 = .ok (.aload_n 3, 1) := by decide +kernel
theorem dX7_laneAnswer_70 : decode cX7_laneAnswer 70 = .ok (.getfield 210, 3) := by decide +kernel
theorem dX7_laneAnswer_73 : decode cX7_laneAnswer 73 = .ok (.ireturn, 1) := by decide +kernel
theorem dX7_laneAnswer_74 : decode cX7_laneAnswer 74 = .ok (.aload_n 3, 1) := by decide +kernel
theorem dX7_laneAnswer_75 : decode cX7_laneAnswer 75 = .ok (.getfield 213, 3) := by decide +kernel
theorem dX7_laneAnswer_78 : decode cX7_laneAnswer 78 = .ok (.ireturn, 1) := by decide +kernel
theorem dX7_laneAnswer_79 : decode cX7_laneAnswer 79 = .ok (.aload_n 3, 1) := by decide +kernel
theorem dX7_laneAnswer_80 : decode cX7_laneAnswer 80 = .ok (.getfield 216, 3) := by decide +kernel
theorem dX7_laneAnswer_83 : decode cX7_laneAnswer 83 = .ok (.ireturn, 1) := by decide +kernel
theorem dX7_laneAnswer_84 : decode cX7_laneAnswer 84 = .ok (.aload_n 3, 1) := by decide +kernel
theorem dX7_laneAnswer_85 : decode cX7_laneAnswer 85 = .ok (.getfield 219, 3) := by decide +kernel
theorem dX7_laneAnswer_88 : decode cX7_laneAnswer 88 = .ok (.ireturn, 1) := by decide +kernel
theorem dX7_laneAnswer_89 : decode cX7_laneAnswer 89 = .ok (.aload_n 3, 1) := by decide +kernel
theorem dX7_laneAnswer_90 : decode cX7_laneAnswer 90 = .ok (.invokevirtual 222, 3) := by decide +kernel
theorem dX7_laneAnswer_93 : decode cX7_laneAnswer 93 = .ok (.ifCond .eq 10, 3) := by decide +kernel
theorem dX7_laneAnswer_96 : decode cX7_laneAnswer 96 = .ok (.aload_n 3, 1) := by decide +kernel
theorem dX7_laneAnswer_97 : decode cX7_laneAnswer 97 = .ok (.invokevirtual 225, 3) := by decide +kernel
theorem dX7_laneAnswer_100 : decode cX7_laneAnswer 100 = .ok (.goto 4, 3) := by decide +kernel
theorem dX7_laneAnswer_103 : decode cX7_laneAnswer 103 = .ok (.iconst (-1), 1) := by decide +kernel
theorem dX7_laneAnswer_104 : decode cX7_laneAnswer 104 = .ok (.ireturn, 1) := by decide +kernel
theorem dX7_bookAnswer_0 : decode cX7_bookAnswer 0 = .ok (.iload_n 1, 1) := by decide +kernel
theorem dX7_bookAnswer_1 : decode cX7_bookAnswer 1 = .ok (.ifCond .lt 14, 3) := by decide +kernel
theorem dX7_bookAnswer_4 : decode cX7_bookAnswer 4 = .ok (.iload_n 1, 1) := by decide +kernel
theorem dX7_bookAnswer_5 : decode cX7_bookAnswer 5 = .ok (.aload_n 0, 1) := by decide +kernel
theorem dX7_bookAnswer_6 : decode cX7_bookAnswer 6 = .ok (.getfield 21, 3) := by decide +kernel
theorem dX7_bookAnswer_9 : decode cX7_bookAnswer 9 = .ok (.invokevirtual 45, 3) := by decide +kernel
theorem dX7_bookAnswer_12 : decode cX7_bookAnswer 12 = .ok (.if_icmp .lt 5, 3) := by decide +kernel
theorem dX7_bookAnswer_15 : decode cX7_bookAnswer 15 = .ok (.iconst (-1), 1) := by decide +kernel
theorem dX7_bookAnswer_16 : decode cX7_bookAnswer 16 = .ok (.ireturn, 1) := by decide +kernel
theorem dX7_bookAnswer_17 : decode cX7_bookAnswer 17 = .ok (.aload_n 0, 1) := by decide +kernel
theorem dX7_bookAnswer_18 : decode cX7_bookAnswer 18 = .ok (.getfield 21, 3) := by decide +kernel
theorem dX7_bookAnswer_21 : decode cX7_bookAnswer 21 = .ok (.iload_n 1, 1) := by decide +kernel
theorem dX7_bookAnswer_22 : decode cX7_bookAnswer 22 = .ok (.invokevirtual 58, 3) := by decide +kernel
theorem dX7_bookAnswer_25 : decode cX7_bookAnswer 25 = .ok (.checkcast 62, 3) := by decide +kernel
theorem dX7_bookAnswer_28 : decode cX7_bookAnswer 28 = .ok (.astore_n 3, 1) := by decide +kernel
theorem dX7_bookAnswer_29 : decode cX7_bookAnswer 29 = .ok (.iload_n 2, 1) := by decide +kernel
theorem dX7_bookAnswer_30 : decode cX7_bookAnswer 30 = .ok (.tableswitch 74 0 5 #[38, 43, 48, 53, 61, 69], 38) := by decide +kernel
theorem dX7_bookAnswer_68 : decode cX7_bookAnswer 68 = .ok (.aload_n 3, 1) := by decide +kernel
theorem dX7_bookAnswer_69 : decode cX7_bookAnswer 69 = .ok (.getfield 186, 3) := by decide +kernel
theorem dX7_bookAnswer_72 : decode cX7_bookAnswer 72 = .ok (.ireturn, 1) := by decide +kernel
theorem dX7_bookAnswer_73 : decode cX7_bookAnswer 73 = .ok (.aload_n 3, 1) := by decide +kernel
theorem dX7_bookAnswer_74 : decode cX7_bookAnswer 74 = .ok (.getfield 64, 3) := by decide +kernel
theorem dX7_bookAnswer_77 : decode cX7_bookAnswer 77 = .ok (.ireturn, 1) := by decide +kernel
theorem dX7_bookAnswer_78 : decode cX7_bookAnswer 78 = .ok (.aload_n 3, 1) := by decide +kernel
theorem dX7_bookAnswer_79 : decode cX7_bookAnswer 79 = .ok (.getfield 151, 3) := by decide +kernel
theorem dX7_bookAnswer_82 : decode cX7_bookAnswer 82 = .ok (.ireturn, 1) := by decide +kernel
theorem dX7_bookAnswer_83 : decode cX7_bookAnswer 83 = .ok (.aload_n 3, 1) := by decide +kernel
theorem dX7_bookAnswer_84 : decode cX7_bookAnswer 84 = .ok (.getfield 165, 3) := by decide +kernel
theorem dX7_bookAnswer_87 : decode cX7_bookAnswer 87 = .ok (.invokevirtual 190, 3) := by decide +kernel
theorem dX7_bookAnswer_90 : decode cX7_bookAnswer 90 = .ok (.ireturn, 1) := by decide +kernel
theorem dX7_bookAnswer_91 : decode cX7_bookAnswer 91 = .ok (.aload_n 3, 1) := by decide +kernel
theorem dX7_bookAnswer_92 : decode cX7_bookAnswer 92 = .ok (.getfield 165, 3) := by decide +kernel
theorem dX7_bookAnswer_95 : decode cX7_bookAnswer 95 = .ok (.invokevirtual 169, 3) := by decide +kernel
theorem dX7_bookAnswer_98 : decode cX7_bookAnswer 98 = .ok (.ireturn, 1) := by decide +kernel
theorem dX7_bookAnswer_99 : decode cX7_bookAnswer 99 = .ok (.aload_n 3, 1) := by decide +kernel
theorem dX7_bookAnswer_100 : decode cX7_bookAnswer 100 = .ok (.getfield 227, 3) := by decide +kernel
theorem dX7_bookAnswer_103 : decode cX7_bookAnswer 103 = .ok (.ireturn, 1) := by decide +kernel
theorem dX7_bookAnswer_104 : decode cX7_bookAnswer 104 = .ok (.aload_n 0, 1) := by decide +kernel
theorem dX7_bookAnswer_105 : decode cX7_bookAnswer 105 = .ok (.iload_n 1, 1) := by decide +kernel
theorem dX7_bookAnswer_106 : decode cX7_bookAnswer 106 = .ok (.invokevirtual 230, 3) := by decide +kernel
theorem dX7_bookAnswer_109 : decode cX7_bookAnswer 109 = .ok (.ireturn, 1) := by decide +kernel
theorem dX7_readerAnswer_0 : decode cX7_readerAnswer 0 = .ok (.iload_n 1, 1) := by decide +kernel
theorem dX7_readerAnswer_1 : decode cX7_readerAnswer 1 = .ok (.ifCond .lt 14, 3) := by decide +kernel
theorem dX7_readerAnswer_4 : decode cX7_readerAnswer 4 = .ok (.iload_n 1, 1) := by decide +kernel
theorem dX7_readerAnswer_5 : decode cX7_readerAnswer 5 = .ok (.aload_n 0, 1) := by decide +kernel
theorem dX7_readerAnswer_6 : decode cX7_readerAnswer 6 = .ok (.getfield 24, 3) := by decide +kernel
theorem dX7_readerAnswer_9 : decode cX7_readerAnswer 9 = .ok (.invokevirtual 45, 3) := by decide +kernel
theorem dX7_readerAnswer_12 : decode cX7_readerAnswer 12 = .ok (.if_icmp .lt 5, 3) := by decide +kernel
theorem dX7_readerAnswer_15 : decode cX7_readerAnswer 15 = .ok (.iconst (-1), 1) := by decide +kernel
theorem dX7_readerAnswer_16 : decode cX7_readerAnswer 16 = .ok (.ireturn, 1) := by decide +kernel
theorem dX7_readerAnswer_17 : decode cX7_readerAnswer 17 = .ok (.aload_n 0, 1) := by decide +kernel
theorem dX7_readerAnswer_18 : decode cX7_readerAnswer 18 = .ok (.getfield 24, 3) := by decide +kernel
theorem dX7_readerAnswer_21 : decode cX7_readerAnswer 21 = .ok (.iload_n 1, 1) := by decide +kernel
theorem dX7_readerAnswer_22 : decode cX7_readerAnswer 22 = .ok (.invokevirtual 58, 3) := by decide +kernel
theorem dX7_readerAnswer_25 : decode cX7_readerAnswer 25 = .ok (.checkcast 82, 3) := by decide +kernel
theorem dX7_readerAnswer_28 : decode cX7_readerAnswer 28 = .ok (.astore_n 3, 1) := by decide +kernel
theorem dX7_readerAnswer_29 : decode cX7_readerAnswer 29 = .ok (.iload_n 2, 1) := by decide +kernel
theorem dX7_readerAnswer_30 : decode cX7_readerAnswer 30 = .ok (.tableswitch 81 0 6 #[42, 47, 52, 57, 62, 70, 75], 42) := by decide +kernel
theorem dX7_readerAnswer_72 : decode cX7_readerAnswer 72 = .ok (.aload_n 3, 1) := by decide +kernel
theorem dX7_readerAnswer_73 : decode cX7_readerAnswer 73 = .ok (.getfield 148, 3) := by decide +kernel
theorem dX7_readerAnswer_76 : decode cX7_readerAnswer 76 = .ok (.ireturn, 1) := by decide +kernel
theorem dX7_readerAnswer_77 : decode cX7_readerAnswer 77 = .ok (.aload_n 3, 1) := by decide +kernel
theorem dX7_readerAnswer_78 : decode cX7_readerAnswer 78 = .ok (.getfield 189, 3) := by decide +kernel
theorem dX7_readerAnswer_81 : decode cX7_readerAnswer 81 = .ok (.ireturn, 1) := by decide +kernel
theorem dX7_readerAnswer_82 : decode cX7_readerAnswer 82 = .ok (.aload_n 3, 1) := by decide +kernel
theorem dX7_readerAnswer_83 : decode cX7_readerAnswer 83 = .ok (.getfield 154, 3) := by decide +kernel
theorem dX7_readerAnswer_86 : decode cX7_readerAnswer 86 = .ok (.ireturn, 1) := by decide +kernel
theorem dX7_readerAnswer_87 : decode cX7_readerAnswer 87 = .ok (.aload_n 3, 1) := by decide +kernel
theorem dX7_readerAnswer_88 : decode cX7_readerAnswer 88 = .ok (.getfield 233, 3) := by decide +kernel
theorem dX7_readerAnswer_91 : decode cX7_readerAnswer 91 = .ok (.ireturn, 1) := by decide +kernel
theorem dX7_readerAnswer_92 : decode cX7_readerAnswer 92 = .ok (.aload_n 3, 1) := by decide +kernel
theorem dX7_readerAnswer_93 : decode cX7_readerAnswer 93 = .ok (.getfield 236, 3) := by decide +kernel
theorem dX7_readerAnswer_96 : decode cX7_readerAnswer 96 = .ok (.invokestatic 239, 3) := by decide +kernel
theorem dX7_readerAnswer_99 : decode cX7_readerAnswer 99 = .ok (.ireturn, 1) := by decide +kernel
theorem dX7_readerAnswer_100 : decode cX7_readerAnswer 100 = .ok (.aload_n 3, 1) := by decide +kernel
theorem dX7_readerAnswer_101 : decode cX7_readerAnswer 101 = .ok (.getfield 244, 3) := by decide +kernel
theorem dX7_readerAnswer_104 : decode cX7_readerAnswer 104 = .ok (.ireturn, 1) := by decide +kernel
theorem dX7_readerAnswer_105 : decode cX7_readerAnswer 105 = .ok (.aload_n 0, 1) := by decide +kernel
theorem dX7_readerAnswer_106 : decode cX7_readerAnswer 106 = .ok (.iload_n 1, 1) := by decide +kernel
theorem dX7_readerAnswer_107 : decode cX7_readerAnswer 107 = .ok (.invokevirtual 247, 3) := by decide +kernel
theorem dX7_readerAnswer_110 : decode cX7_readerAnswer 110 = .ok (.ireturn, 1) := by decide +kernel
theorem dX7_readerAnswer_111 : decode cX7_readerAnswer 111 = .ok (.aload_n 3, 1) := by decide +kernel
theorem dX7_readerAnswer_112 : decode cX7_readerAnswer 112 = .ok (.getfield 250, 3) := by decide +kernel
theorem dX7_readerAnswer_115 : decode cX7_readerAnswer 115 = .ok (.ireturn, 1) := by decide +kernel
theorem dX7_countAnswer_0 : decode cX7_countAnswer 0 = .ok (.iload_n 1, 1) := by decide +kernel
theorem dX7_countAnswer_1 : decode cX7_countAnswer 1 = .ok (.tableswitch 108 0 8 #[51, 56, 64, 72, 80, 88, 93, 98, 103], 51) := by decide +kernel
theorem dX7_countAnswer_52 : decode cX7_countAnswer 52 = .ok (.aload_n 0, 1) := by decide +kernel
theorem dX7_countAnswer_53 : decode cX7_countAnswer 53 = .ok (.getfield 94, 3) := by decide +kernel
theorem dX7_countAnswer_56 : decode cX7_countAnswer 56 = .ok (.ireturn, 1) := by decide +kernel
theorem dX7_countAnswer_57 : decode cX7_countAnswer 57 = .ok (.aload_n 0, 1) := by decide +kernel
theorem dX7_countAnswer_58 : decode cX7_countAnswer 58 = .ok (.getfield 12, 3) := by decide +kernel
theorem dX7_countAnswer_61 : decode cX7_countAnswer 61 = .ok (.invokevirtual 45, 3) := by decide +kernel
theorem dX7_countAnswer_64 : decode cX7_countAnswer 64 = .ok (.ireturn, 1) := by decide +kernel
theorem dX7_countAnswer_65 : decode cX7_countAnswer 65 = .ok (.aload_n 0, 1) := by decide +kernel
theorem dX7_countAnswer_66 : decode cX7_countAnswer 66 = .ok (.getfield 18, 3) := by decide +kernel
theorem dX7_countAnswer_69 : decode cX7_countAnswer 69 = .ok (.invokevirtual 45, 3) := by decide +kernel
theorem dX7_countAnswer_72 : decode cX7_countAnswer 72 = .ok (.ireturn, 1) := by decide +kernel
theorem dX7_countAnswer_73 : decode cX7_countAnswer 73 = .ok (.aload_n 0, 1) := by decide +kernel
theorem dX7_countAnswer_74 : decode cX7_countAnswer 74 = .ok (.getfield 21, 3) := by decide +kernel
theorem dX7_countAnswer_77 : decode cX7_countAnswer 77 = .ok (.invokevirtual 45, 3) := by decide +kernel
theorem dX7_countAnswer_80 : decode cX7_countAnswer 80 = .ok (.ireturn, 1) := by decide +kernel
theorem dX7_countAnswer_81 : decode cX7_countAnswer 81 = .ok (.aload_n 0, 1) := by decide +kernel
theorem dX7_countAnswer_82 : decode cX7_countAnswer 82 = .ok (.getfield 24, 3) := by decide +kernel
theorem dX7_countAnswer_85 : decode cX7_countAnswer 85 = .ok (.invokevirtual 45, 3) := by decide +kernel
theorem dX7_countAnswer_88 : decode cX7_countAnswer 88 = .ok (.ireturn, 1) := by decide +kernel
theorem dX7_countAnswer_89 : decode cX7_countAnswer 89 = .ok (.aload_n 0, 1) := by decide +kernel
theorem dX7_countAnswer_90 : decode cX7_countAnswer 90 = .ok (.invokevirtual 251, 3) := by decide +kernel
theorem dX7_countAnswer_93 : decode cX7_countAnswer 93 = .ok (.ireturn, 1) := by decide +kernel
theorem dX7_countAnswer_94 : decode cX7_countAnswer 94 = .ok (.aload_n 0, 1) := by decide +kernel
theorem dX7_countAnswer_95 : decode cX7_countAnswer 95 = .ok (.invokevirtual 254, 3) := by decide +kernel
theorem dX7_countAnswer_98 : decode cX7_countAnswer 98 = .ok (.ireturn, 1) := by decide +kernel
theorem dX7_countAnswer_99 : decode cX7_countAnswer 99 = .ok (.aload_n 0, 1) := by decide +kernel
theorem dX7_countAnswer_100 : decode cX7_countAnswer 100 = .ok (.invokevirtual 257, 3) := by decide +kernel
theorem dX7_countAnswer_103 : decode cX7_countAnswer 103 = .ok (.ireturn, 1) := by decide +kernel
theorem dX7_countAnswer_104 : decode cX7_countAnswer 104 = .ok (.aload_n 0, 1) := by decide +kernel
theorem dX7_countAnswer_105 : decode cX7_countAnswer 105 = .ok (.invokevirtual 260, 3) := by decide +kernel
theorem dX7_countAnswer_108 : decode cX7_countAnswer 108 = .ok (.ireturn, 1) := by decide +kernel
theorem dX7_countAnswer_109 : decode cX7_countAnswer 109 = .ok (.aload_n 0, 1) := by decide +kernel
theorem dX7_countAnswer_110 : decode cX7_countAnswer 110 = .ok (.getfield 97, 3) := by decide +kernel
theorem dX7_countAnswer_113 : decode cX7_countAnswer 113 = .ok (.ireturn, 1) := by decide +kernel
theorem dX7_readersAt_0 : decode cX7_readersAt 0 = .ok (.iconst 0, 1) := by decide +kernel
theorem dX7_readersAt_1 : decode cX7_readersAt 1 = .ok (.istore_n 2, 1) := by decide +kernel
theorem dX7_readersAt_2 : decode cX7_readersAt 2 = .ok (.iconst 0, 1) := by decide +kernel
theorem dX7_readersAt_3 : decode cX7_readersAt 3 = .ok (.istore_n 3, 1) := by decide +kernel
theorem dX7_readersAt_4 : decode cX7_readersAt 4 = .ok (.iload_n 3, 1) := by decide +kernel
theorem dX7_readersAt_5 : decode cX7_readersAt 5 = .ok (.aload_n 0, 1) := by decide +kernel
theorem dX7_readersAt_6 : decode cX7_readersAt 6 = .ok (.getfield 24, 3) := by decide +kernel
theorem dX7_readersAt_9 : decode cX7_readersAt 9 = .ok (.invokevirtual 45, 3) := by decide +kernel
theorem dX7_readersAt_12 : decode cX7_readersAt 12 = .ok (.if_icmp .ge 30, 3) := by decide +kernel
theorem dX7_readersAt_15 : decode cX7_readersAt 15 = .ok (.aload_n 0, 1) := by decide +kernel
theorem dX7_readersAt_16 : decode cX7_readersAt 16 = .ok (.getfield 24, 3) := by decide +kernel
theorem dX7_readersAt_19 : decode cX7_readersAt 19 = .ok (.iload_n 3, 1) := by decide +kernel
theorem dX7_readersAt_20 : decode cX7_readersAt 20 = .ok (.invokevirtual 58, 3) := by decide +kernel
theorem dX7_readersAt_23 : decode cX7_readersAt 23 = .ok (.checkcast 82, 3) := by decide +kernel
theorem dX7_readersAt_26 : decode cX7_readersAt 26 = .ok (.getfield 148, 3) := by decide +kernel
theorem dX7_readersAt_29 : decode cX7_readersAt 29 = .ok (.iload_n 1, 1) := by decide +kernel
theorem dX7_readersAt_30 : decode cX7_readersAt 30 = .ok (.if_icmp .ne 6, 3) := by decide +kernel
theorem dX7_readersAt_33 : decode cX7_readersAt 33 = .ok (.iinc 2 1, 3) := by decide +kernel
theorem dX7_readersAt_36 : decode cX7_readersAt 36 = .ok (.iinc 3 1, 3) := by decide +kernel
theorem dX7_readersAt_39 : decode cX7_readersAt 39 = .ok (.goto (-35), 3) := by decide +kernel
theorem dX7_readersAt_42 : decode cX7_readersAt 42 = .ok (.iload_n 2, 1) := by decide +kernel
theorem dX7_readersAt_43 : decode cX7_readersAt 43 = .ok (.ireturn, 1) := by decide +kernel
theorem dX7_lanesAt_0 : decode cX7_lanesAt 0 = .ok (.iconst 0, 1) := by decide +kernel
theorem dX7_lanesAt_1 : decode cX7_lanesAt 1 = .ok (.istore_n 2, 1) := by decide +kernel
theorem dX7_lanesAt_2 : decode cX7_lanesAt 2 = .ok (.iconst 0, 1) := by decide +kernel
theorem dX7_lanesAt_3 : decode cX7_lanesAt 3 = .ok (.istore_n 3, 1) := by decide +kernel
theorem dX7_lanesAt_4 : decode cX7_lanesAt 4 = .ok (.iload_n 3, 1) := by decide +kernel
theorem dX7_lanesAt_5 : decode cX7_lanesAt 5 = .ok (.aload_n 0, 1) := by decide +kernel
theorem dX7_lanesAt_6 : decode cX7_lanesAt 6 = .ok (.getfield 18, 3) := by decide +kernel
theorem dX7_lanesAt_9 : decode cX7_lanesAt 9 = .ok (.invokevirtual 45, 3) := by decide +kernel
theorem dX7_lanesAt_12 : decode cX7_lanesAt 12 = .ok (.if_icmp .ge 43, 3) := by decide +kernel
theorem dX7_lanesAt_15 : decode cX7_lanesAt 15 = .ok (.aload_n 0, 1) := by decide +kernel
theorem dX7_lanesAt_16 : decode cX7_lanesAt 16 = .ok (.getfield 18, 3) := by decide +kernel
theorem dX7_lanesAt_19 : decode cX7_lanesAt 19 = .ok (.iload_n 3, 1) := by decide +kernel
theorem dX7_lanesAt_20 : decode cX7_lanesAt 20 = .ok (.invokevirtual 58, 3) := by decide +kernel
theorem dX7_lanesAt_23 : decode cX7_lanesAt 23 = .ok (.checkcast 74, 3) := by decide +kernel
theorem dX7_lanesAt_26 : decode cX7_lanesAt 26 = .ok (.astore 4, 2) := by decide +kernel
theorem dX7_lanesAt_28 : decode cX7_lanesAt 28 = .ok (.aload 4, 2) := by decide +kernel
theorem dX7_lanesAt_30 : decode cX7_lanesAt 30 = .ok (.getfield 207, 3) := by decide +kernel
theorem dX7_lanesAt_33 : decode cX7_lanesAt 33 = .ok (.iload_n 1, 1) := by decide +kernel
theorem dX7_lanesAt_34 : decode cX7_lanesAt 34 = .ok (.if_icmp .eq 12, 3) := by decide +kernel
theorem dX7_lanesAt_37 : decode cX7_lanesAt 37 = .ok (.aload 4, 2) := by decide +kernel
theorem dX7_lanesAt_39 : decode cX7_lanesAt 39 = .ok (.getfield 210, 3) := by decide +kernel
theorem dX7_lanesAt_42 : decode cX7_lanesAt 42 = .ok (.iload_n 1, 1) := by decide +kernel
theorem dX7_lanesAt_43 : decode cX7_lanesAt 43 = .ok (.if_icmp .ne 6, 3) := by decide +kernel
theorem dX7_lanesAt_46 : decode cX7_lanesAt 46 = .ok (.iinc 2 1, 3) := by decide +kernel
theorem dX7_lanesAt_49 : decode cX7_lanesAt 49 = .ok (.iinc 3 1, 3) := by decide +kernel
theorem dX7_lanesAt_52 : decode cX7_lanesAt 52 = .ok (.goto (-48), 3) := by decide +kernel
theorem dX7_lanesAt_55 : decode cX7_lanesAt 55 = .ok (.iload_n 2, 1) := by decide +kernel
theorem dX7_lanesAt_56 : decode cX7_lanesAt 56 = .ok (.ireturn, 1) := by decide +kernel
theorem dX7_readersWhoRead_0 : decode cX7_readersWhoRead 0 = .ok (.iconst 0, 1) := by decide +kernel
theorem dX7_readersWhoRead_1 : decode cX7_readersWhoRead 1 = .ok (.istore_n 2, 1) := by decide +kernel
theorem dX7_readersWhoRead_2 : decode cX7_readersWhoRead 2 = .ok (.iconst 0, 1) := by decide +kernel
theorem dX7_readersWhoRead_3 : decode cX7_readersWhoRead 3 = .ok (.istore_n 3, 1) := by decide +kernel
theorem dX7_readersWhoRead_4 : decode cX7_readersWhoRead 4 = .ok (.iload_n 3, 1) := by decide +kernel
theorem dX7_readersWhoRead_5 : decode cX7_readersWhoRead 5 = .ok (.aload_n 0, 1) := by decide +kernel
theorem dX7_readersWhoRead_6 : decode cX7_readersWhoRead 6 = .ok (.getfield 24, 3) := by decide +kernel
theorem dX7_readersWhoRead_9 : decode cX7_readersWhoRead 9 = .ok (.invokevirtual 45, 3) := by decide +kernel
theorem dX7_readersWhoRead_12 : decode cX7_readersWhoRead 12 = .ok (.if_icmp .ge 30, 3) := by decide +kernel
theorem dX7_readersWhoRead_15 : decode cX7_readersWhoRead 15 = .ok (.aload_n 0, 1) := by decide +kernel
theorem dX7_readersWhoRead_16 : decode cX7_readersWhoRead 16 = .ok (.getfield 24, 3) := by decide +kernel
theorem dX7_readersWhoRead_19 : decode cX7_readersWhoRead 19 = .ok (.iload_n 3, 1) := by decide +kernel
theorem dX7_readersWhoRead_20 : decode cX7_readersWhoRead 20 = .ok (.invokevirtual 58, 3) := by decide +kernel
theorem dX7_readersWhoRead_23 : decode cX7_readersWhoRead 23 = .ok (.checkcast 82, 3) := by decide +kernel
theorem dX7_readersWhoRead_26 : decode cX7_readersWhoRead 26 = .ok (.iload_n 1, 1) := by decide +kernel
theorem dX7_readersWhoRead_27 : decode cX7_readersWhoRead 27 = .ok (.invokevirtual 194, 3) := by decide +kernel
theorem dX7_readersWhoRead_30 : decode cX7_readersWhoRead 30 = .ok (.ifCond .eq 6, 3) := by decide +kernel
theorem dX7_readersWhoRead_33 : decode cX7_readersWhoRead 33 = .ok (.iinc 2 1, 3) := by decide +kernel
theorem dX7_readersWhoRead_36 : decode cX7_readersWhoRead 36 = .ok (.iinc 3 1, 3) := by decide +kernel
theorem dX7_readersWhoRead_39 : decode cX7_readersWhoRead 39 = .ok (.goto (-35), 3) := by decide +kernel
theorem dX7_readersWhoRead_42 : decode cX7_readersWhoRead 42 = .ok (.iload_n 2, 1) := by decide +kernel
theorem dX7_readersWhoRead_43 : decode cX7_readersWhoRead 43 = .ok (.ireturn, 1) := by decide +kernel
theorem dX7_booksReservedBy_0 : decode cX7_booksReservedBy 0 = .ok (.iconst 0, 1) := by decide +kernel
theorem dX7_booksReservedBy_1 : decode cX7_booksReservedBy 1 = .ok (.istore_n 2, 1) := by decide +kernel
theorem dX7_booksReservedBy_2 : decode cX7_booksReservedBy 2 = .ok (.iconst 0, 1) := by decide +kernel
theorem dX7_booksReservedBy_3 : decode cX7_booksReservedBy 3 = .ok (.istore_n 3, 1) := by decide +kernel
theorem dX7_booksReservedBy_4 : decode cX7_booksReservedBy 4 = .ok (.iload_n 3, 1) := by decide +kernel
theorem dX7_booksReservedBy_5 : decode cX7_booksReservedBy 5 = .ok (.aload_n 0, 1) := by decide +kernel
theorem dX7_booksReservedBy_6 : decode cX7_booksReservedBy 6 = .ok (.getfield 21, 3) := by decide +kernel
theorem dX7_booksReservedBy_9 : decode cX7_booksReservedBy 9 = .ok (.invokevirtual 45, 3) := by decide +kernel
theorem dX7_booksReservedBy_12 : decode cX7_booksReservedBy 12 = .ok (.if_icmp .ge 34, 3) := by decide +kernel
theorem dX7_booksReservedBy_15 : decode cX7_booksReservedBy 15 = .ok (.aload_n 0, 1) := by decide +kernel
theorem dX7_booksReservedBy_16 : decode cX7_booksReservedBy 16 = .ok (.getfield 21, 3) := by decide +kernel
theorem dX7_booksReservedBy_19 : decode cX7_booksReservedBy 19 = .ok (.iload_n 3, 1) := by decide +kernel
theorem dX7_booksReservedBy_20 : decode cX7_booksReservedBy 20 = .ok (.invokevirtual 58, 3) := by decide +kernel
theorem dX7_booksReservedBy_23 : decode cX7_booksReservedBy 23 = .ok (.checkcast 62, 3) := by decide +kernel
theorem dX7_booksReservedBy_26 : decode cX7_booksReservedBy 26 = .ok (.getfield 165, 3) := by decide +kernel
theorem dX7_booksReservedBy_29 : decode cX7_booksReservedBy 29 = .ok (.iload_n 1, 1) := by decide +kernel
theorem dX7_booksReservedBy_30 : decode cX7_booksReservedBy 30 = .ok (.invokevirtual 263, 3) := by decide +kernel
theorem dX7_booksReservedBy_33 : decode cX7_booksReservedBy 33 = .ok (.iconst (-1), 1) := by decide +kernel
theorem dX7_booksReservedBy_34 : decode cX7_booksReservedBy 34 = .ok (.if_icmp .eq 6, 3) := by decide +kernel
theorem dX7_booksReservedBy_37 : decode cX7_booksReservedBy 37 = .ok (.iinc 2 1, 3) := by decide +kernel
theorem dX7_booksReservedBy_40 : decode cX7_booksReservedBy 40 = .ok (.iinc 3 1, 3) := by decide +kernel
theorem dX7_booksReservedBy_43 : decode cX7_booksReservedBy 43 = .ok (.goto (-39), 3) := by decide +kernel
theorem dX7_booksReservedBy_46 : decode cX7_booksReservedBy 46 = .ok (.iload_n 2, 1) := by decide +kernel
theorem dX7_booksReservedBy_47 : decode cX7_booksReservedBy 47 = .ok (.ireturn, 1) := by decide +kernel
theorem dX7_booksOnVan_0 : decode cX7_booksOnVan 0 = .ok (.iconst 0, 1) := by decide +kernel
theorem dX7_booksOnVan_1 : decode cX7_booksOnVan 1 = .ok (.istore_n 1, 1) := by decide +kernel
theorem dX7_booksOnVan_2 : decode cX7_booksOnVan 2 = .ok (.iconst 0, 1) := by decide +kernel
theorem dX7_booksOnVan_3 : decode cX7_booksOnVan 3 = .ok (.istore_n 2, 1) := by decide +kernel
theorem dX7_booksOnVan_4 : decode cX7_booksOnVan 4 = .ok (.iload_n 2, 1) := by decide +kernel
theorem dX7_booksOnVan_5 : decode cX7_booksOnVan 5 = .ok (.aload_n 0, 1) := by decide +kernel
theorem dX7_booksOnVan_6 : decode cX7_booksOnVan 6 = .ok (.getfield 21, 3) := by decide +kernel
theorem dX7_booksOnVan_9 : decode cX7_booksOnVan 9 = .ok (.invokevirtual 45, 3) := by decide +kernel
theorem dX7_booksOnVan_12 : decode cX7_booksOnVan 12 = .ok (.if_icmp .ge 29, 3) := by decide +kernel
theorem dX7_booksOnVan_15 : decode cX7_booksOnVan 15 = .ok (.aload_n 0, 1) := by decide +kernel
theorem dX7_booksOnVan_16 : decode cX7_booksOnVan 16 = .ok (.getfield 21, 3) := by decide +kernel
theorem dX7_booksOnVan_19 : decode cX7_booksOnVan 19 = .ok (.iload_n 2, 1) := by decide +kernel
theorem dX7_booksOnVan_20 : decode cX7_booksOnVan 20 = .ok (.invokevirtual 58, 3) := by decide +kernel
theorem dX7_booksOnVan_23 : decode cX7_booksOnVan 23 = .ok (.checkcast 62, 3) := by decide +kernel
theorem dX7_booksOnVan_26 : decode cX7_booksOnVan 26 = .ok (.invokevirtual 161, 3) := by decide +kernel
theorem dX7_booksOnVan_29 : decode cX7_booksOnVan 29 = .ok (.ifCond .eq 6, 3) := by decide +kernel
theorem dX7_booksOnVan_32 : decode cX7_booksOnVan 32 = .ok (.iinc 1 1, 3) := by decide +kernel
theorem dX7_booksOnVan_35 : decode cX7_booksOnVan 35 = .ok (.iinc 2 1, 3) := by decide +kernel
theorem dX7_booksOnVan_38 : decode cX7_booksOnVan 38 = .ok (.goto (-34), 3) := by decide +kernel
theorem dX7_booksOnVan_41 : decode cX7_booksOnVan 41 = .ok (.iload_n 1, 1) := by decide +kernel
theorem dX7_booksOnVan_42 : decode cX7_booksOnVan 42 = .ok (.ireturn, 1) := by decide +kernel
theorem dX7_loansOfAll_0 : decode cX7_loansOfAll 0 = .ok (.iconst 0, 1) := by decide +kernel
theorem dX7_loansOfAll_1 : decode cX7_loansOfAll 1 = .ok (.istore_n 1, 1) := by decide +kernel
theorem dX7_loansOfAll_2 : decode cX7_loansOfAll 2 = .ok (.iconst 0, 1) := by decide +kernel
theorem dX7_loansOfAll_3 : decode cX7_loansOfAll 3 = .ok (.istore_n 2, 1) := by decide +kernel
theorem dX7_loansOfAll_4 : decode cX7_loansOfAll 4 = .ok (.iload_n 2, 1) := by decide +kernel
theorem dX7_loansOfAll_5 : decode cX7_loansOfAll 5 = .ok (.aload_n 0, 1) := by decide +kernel
theorem dX7_loansOfAll_6 : decode cX7_loansOfAll 6 = .ok (.getfield 21, 3) := by decide +kernel
theorem dX7_loansOfAll_9 : decode cX7_loansOfAll 9 = .ok (.invokevirtual 45, 3) := by decide +kernel
theorem dX7_loansOfAll_12 : decode cX7_loansOfAll 12 = .ok (.if_icmp .ge 26, 3) := by decide +kernel
theorem dX7_loansOfAll_15 : decode cX7_loansOfAll 15 = .ok (.iload_n 1, 1) := by decide +kernel
theorem dX7_loansOfAll_16 : decode cX7_loansOfAll 16 = .ok (.aload_n 0, 1) := by decide +kernel
theorem dX7_loansOfAll_17 : decode cX7_loansOfAll 17 = .ok (.getfield 21, 3) := by decide +kernel
theorem dX7_loansOfAll_20 : decode cX7_loansOfAll 20 = .ok (.iload_n 2, 1) := by decide +kernel
theorem dX7_loansOfAll_21 : decode cX7_loansOfAll 21 = .ok (.invokevirtual 58, 3) := by decide +kernel
theorem dX7_loansOfAll_24 : decode cX7_loansOfAll 24 = .ok (.checkcast 62, 3) := by decide +kernel
theorem dX7_loansOfAll_27 : decode cX7_loansOfAll 27 = .ok (.getfield 227, 3) := by decide +kernel
theorem dX7_loansOfAll_30 : decode cX7_loansOfAll 30 = .ok (.iadd, 1) := by decide +kernel
theorem dX7_loansOfAll_31 : decode cX7_loansOfAll 31 = .ok (.istore_n 1, 1) := by decide +kernel
theorem dX7_loansOfAll_32 : decode cX7_loansOfAll 32 = .ok (.iinc 2 1, 3) := by decide +kernel
theorem dX7_loansOfAll_35 : decode cX7_loansOfAll 35 = .ok (.goto (-31), 3) := by decide +kernel
theorem dX7_loansOfAll_38 : decode cX7_loansOfAll 38 = .ok (.iload_n 1, 1) := by decide +kernel
theorem dX7_loansOfAll_39 : decode cX7_loansOfAll 39 = .ok (.ireturn, 1) := by decide +kernel
theorem dX7_missesOfAll_0 : decode cX7_missesOfAll 0 = .ok (.iconst 0, 1) := by decide +kernel
theorem dX7_missesOfAll_1 : decode cX7_missesOfAll 1 = .ok (.istore_n 1, 1) := by decide +kernel
theorem dX7_missesOfAll_2 : decode cX7_missesOfAll 2 = .ok (.iconst 0, 1) := by decide +kernel
theorem dX7_missesOfAll_3 : decode cX7_missesOfAll 3 = .ok (.istore_n 2, 1) := by decide +kernel
theorem dX7_missesOfAll_4 : decode cX7_missesOfAll 4 = .ok (.iload_n 2, 1) := by decide +kernel
theorem dX7_missesOfAll_5 : decode cX7_missesOfAll 5 = .ok (.aload_n 0, 1) := by decide +kernel
theorem dX7_missesOfAll_6 : decode cX7_missesOfAll 6 = .ok (.getfield 12, 3) := by decide +kernel
theorem dX7_missesOfAll_9 : decode cX7_missesOfAll 9 = .ok (.invokevirtual 45, 3) := by decide +kernel
theorem dX7_missesOfAll_12 : decode cX7_missesOfAll 12 = .ok (.if_icmp .ge 26, 3) := by decide +kernel
theorem dX7_missesOfAll_15 : decode cX7_missesOfAll 15 = .ok (.iload_n 1, 1) := by decide +kernel
theorem dX7_missesOfAll_16 : decode cX7_missesOfAll 16 = .ok (.aload_n 0, 1) := by decide +kernel
theorem dX7_missesOfAll_17 : decode cX7_missesOfAll 17 = .ok (.getfield 12, 3) := by decide +kernel
theorem dX7_missesOfAll_20 : decode cX7_missesOfAll 20 = .ok (.iload_n 2, 1) := by decide +kernel
theorem dX7_missesOfAll_21 : decode cX7_missesOfAll 21 = .ok (.invokevirtual 58, 3) := by decide +kernel
theorem dX7_missesOfAll_24 : decode cX7_missesOfAll 24 = .ok (.checkcast 68, 3) := by decide +kernel
theorem dX7_missesOfAll_27 : decode cX7_missesOfAll 27 = .ok (.getfield 141, 3) := by decide +kernel
theorem dX7_missesOfAll_30 : decode cX7_missesOfAll 30 = .ok (.iadd, 1) := by decide +kernel
theorem dX7_missesOfAll_31 : decode cX7_missesOfAll 31 = .ok (.istore_n 1, 1) := by decide +kernel
theorem dX7_missesOfAll_32 : decode cX7_missesOfAll 32 = .ok (.iinc 2 1, 3) := by decide +kernel
theorem dX7_missesOfAll_35 : decode cX7_missesOfAll 35 = .ok (.goto (-31), 3) := by decide +kernel
theorem dX7_missesOfAll_38 : decode cX7_missesOfAll 38 = .ok (.iload_n 1, 1) := by decide +kernel
theorem dX7_missesOfAll_39 : decode cX7_missesOfAll 39 = .ok (.ireturn, 1) := by decide +kernel
theorem dX7_penceOfAll_0 : decode cX7_penceOfAll 0 = .ok (.iconst 0, 1) := by decide +kernel
theorem dX7_penceOfAll_1 : decode cX7_penceOfAll 1 = .ok (.istore_n 1, 1) := by decide +kernel
theorem dX7_penceOfAll_2 : decode cX7_penceOfAll 2 = .ok (.iconst 0, 1) := by decide +kernel
theorem dX7_penceOfAll_3 : decode cX7_penceOfAll 3 = .ok (.istore_n 2, 1) := by decide +kernel
theorem dX7_penceOfAll_4 : decode cX7_penceOfAll 4 = .ok (.iload_n 2, 1) := by decide +kernel
theorem dX7_penceOfAll_5 : decode cX7_penceOfAll 5 = .ok (.aload_n 0, 1) := by decide +kernel
theorem dX7_penceOfAll_6 : decode cX7_penceOfAll 6 = .ok (.getfield 24, 3) := by decide +kernel
theorem dX7_penceOfAll_9 : decode cX7_penceOfAll 9 = .ok (.invokevirtual 45, 3) := by decide +kernel
theorem dX7_penceOfAll_12 : decode cX7_penceOfAll 12 = .ok (.if_icmp .ge 26, 3) := by decide +kernel
theorem dX7_penceOfAll_15 : decode cX7_penceOfAll 15 = .ok (.iload_n 1, 1) := by decide +kernel
theorem dX7_penceOfAll_16 : decode cX7_penceOfAll 16 = .ok (.aload_n 0, 1) := by decide +kernel
theorem dX7_penceOfAll_17 : decode cX7_penceOfAll 17 = .ok (.getfield 24, 3) := by decide +kernel
theorem dX7_penceOfAll_20 : decode cX7_penceOfAll 20 = .ok (.iload_n 2, 1) := by decide +kernel
theorem dX7_penceOfAll_21 : decode cX7_penceOfAll 21 = .ok (.invokevirtual 58, 3) := by decide +kernel
theorem dX7_penceOfAll_24 : decode cX7_penceOfAll 24 = .ok (.checkcast 82, 3) := by decide +kernel
theorem dX7_penceOfAll_27 : decode cX7_penceOfAll 27 = .ok (.getfield 244, 3) := by decide +kernel
theorem dX7_penceOfAll_30 : decode cX7_penceOfAll 30 = .ok (.iadd, 1) := by decide +kernel
theorem dX7_penceOfAll_31 : decode cX7_penceOfAll 31 = .ok (.istore_n 1, 1) := by decide +kernel
theorem dX7_penceOfAll_32 : decode cX7_penceOfAll 32 = .ok (.iinc 2 1, 3) := by decide +kernel
theorem dX7_penceOfAll_35 : decode cX7_penceOfAll 35 = .ok (.goto (-31), 3) := by decide +kernel
theorem dX7_penceOfAll_38 : decode cX7_penceOfAll 38 = .ok (.iload_n 1, 1) := by decide +kernel
theorem dX7_penceOfAll_39 : decode cX7_penceOfAll 39 = .ok (.ireturn, 1) := by decide +kernel
theorem dX7_lanesTooMuddy_0 : decode cX7_lanesTooMuddy 0 = .ok (.iconst 0, 1) := by decide +kernel
theorem dX7_lanesTooMuddy_1 : decode cX7_lanesTooMuddy 1 = .ok (.istore_n 1, 1) := by decide +kernel
theorem dX7_lanesTooMuddy_2 : decode cX7_lanesTooMuddy 2 = .ok (.iconst 0, 1) := by decide +kernel
theorem dX7_lanesTooMuddy_3 : decode cX7_lanesTooMuddy 3 = .ok (.istore_n 2, 1) := by decide +kernel
theorem dX7_lanesTooMuddy_4 : decode cX7_lanesTooMuddy 4 = .ok (.iload_n 2, 1) := by decide +kernel
theorem dX7_lanesTooMuddy_5 : decode cX7_lanesTooMuddy 5 = .ok (.aload_n 0, 1) := by decide +kernel
theorem dX7_lanesTooMuddy_6 : decode cX7_lanesTooMuddy 6 = .ok (.getfield 18, 3) := by decide +kernel
theorem dX7_lanesTooMuddy_9 : decode cX7_lanesTooMuddy 9 = .ok (.invokevirtual 45, 3) := by decide +kernel
theorem dX7_lanesTooMuddy_12 : decode cX7_lanesTooMuddy 12 = .ok (.if_icmp .ge 29, 3) := by decide +kernel
theorem dX7_lanesTooMuddy_15 : decode cX7_lanesTooMuddy 15 = .ok (.aload_n 0, 1) := by decide +kernel
theorem dX7_lanesTooMuddy_16 : decode cX7_lanesTooMuddy 16 = .ok (.getfield 18, 3) := by decide +kernel
theorem dX7_lanesTooMuddy_19 : decode cX7_lanesTooMuddy 19 = .ok (.iload_n 2, 1) := by decide +kernel
theorem dX7_lanesTooMuddy_20 : decode cX7_lanesTooMuddy 20 = .ok (.invokevirtual 58, 3) := by decide +kernel
theorem dX7_lanesTooMuddy_23 : decode cX7_lanesTooMuddy 23 = .ok (.checkcast 74, 3) := by decide +kernel
theorem dX7_lanesTooMuddy_26 : decode cX7_lanesTooMuddy 26 = .ok (.invokevirtual 222, 3) := by decide +kernel
theorem dX7_lanesTooMuddy_29 : decode cX7_lanesTooMuddy 29 = .ok (.ifCond .ne 6, 3) := by decide +kernel
theorem dX7_lanesTooMuddy_32 : decode cX7_lanesTooMuddy 32 = .ok (.iinc 1 1, 3) := by decide +kernel
theorem dX7_lanesTooMuddy_35 : decode cX7_lanesTooMuddy 35 = .ok (.iinc 2 1, 3) := by decide +kernel
theorem dX7_lanesTooMuddy_38 : decode cX7_lanesTooMuddy 38 = .ok (.goto (-34), 3) := by decide +kernel
theorem dX7_lanesTooMuddy_41 : decode cX7_lanesTooMuddy 41 = .ok (.iload_n 1, 1) := by decide +kernel
theorem dX7_lanesTooMuddy_42 : decode cX7_lanesTooMuddy 42 = .ok (.ireturn, 1) := by decide +kernel
theorem dX7_mixVan_0 : decode cX7_mixVan 0 = .ok (.lload_n 1, 1) := by decide +kernel
theorem dX7_mixVan_1 : decode cX7_mixVan 1 = .ok (.lstore_n 3, 1) := by decide +kernel
theorem dX7_mixVan_2 : decode cX7_mixVan 2 = .ok (.iconst 0, 1) := by decide +kernel
theorem dX7_mixVan_3 : decode cX7_mixVan 3 = .ok (.istore 5, 2) := by decide +kernel
theorem dX7_mixVan_5 : decode cX7_mixVan 5 = .ok (.iload 5, 2) := by decide +kernel
theorem dX7_mixVan_7 : decode cX7_mixVan 7 = .ok (.bipush 10, 2) := by decide +kernel
theorem dX7_mixVan_9 : decode cX7_mixVan 9 = .ok (.if_icmp .ge 21, 3) := by decide +kernel
theorem dX7_mixVan_12 : decode cX7_mixVan 12 = .ok (.lload_n 3, 1) := by decide +kernel
theorem dX7_mixVan_13 : decode cX7_mixVan 13 = .ok (.aload_n 0, 1) := by decide +kernel
theorem dX7_mixVan_14 : decode cX7_mixVan 14 = .ok (.iload 5, 2) := by decide +kernel
theorem dX7_mixVan_16 : decode cX7_mixVan 16 = .ok (.invokevirtual 266, 3) := by decide +kernel
theorem dX7_mixVan_19 : decode cX7_mixVan 19 = .ok (.i2l, 1) := by decide +kernel
theorem dX7_mixVan_20 : decode cX7_mixVan 20 = .ok (.invokestatic 269, 3) := by decide +kernel
theorem dX7_mixVan_23 : decode cX7_mixVan 23 = .ok (.lstore_n 3, 1) := by decide +kernel
theorem dX7_mixVan_24 : decode cX7_mixVan 24 = .ok (.iinc 5 1, 3) := by decide +kernel
theorem dX7_mixVan_27 : decode cX7_mixVan 27 = .ok (.goto (-22), 3) := by decide +kernel
theorem dX7_mixVan_30 : decode cX7_mixVan 30 = .ok (.iconst 0, 1) := by decide +kernel
theorem dX7_mixVan_31 : decode cX7_mixVan 31 = .ok (.istore 5, 2) := by decide +kernel
theorem dX7_mixVan_33 : decode cX7_mixVan 33 = .ok (.iload 5, 2) := by decide +kernel
theorem dX7_mixVan_35 : decode cX7_mixVan 35 = .ok (.bipush 7, 2) := by decide +kernel
theorem dX7_mixVan_37 : decode cX7_mixVan 37 = .ok (.if_icmp .ge 21, 3) := by decide +kernel
theorem dX7_mixVan_40 : decode cX7_mixVan 40 = .ok (.lload_n 3, 1) := by decide +kernel
theorem dX7_mixVan_41 : decode cX7_mixVan 41 = .ok (.aload_n 0, 1) := by decide +kernel
theorem dX7_mixVan_42 : decode cX7_mixVan 42 = .ok (.iload 5, 2) := by decide +kernel
theorem dX7_mixVan_44 : decode cX7_mixVan 44 = .ok (.invokevirtual 111, 3) := by decide +kernel
theorem dX7_mixVan_47 : decode cX7_mixVan 47 = .ok (.i2l, 1) := by decide +kernel
theorem dX7_mixVan_48 : decode cX7_mixVan 48 = .ok (.invokestatic 269, 3) := by decide +kernel
theorem dX7_mixVan_51 : decode cX7_mixVan 51 = .ok (.lstore_n 3, 1) := by decide +kernel
theorem dX7_mixVan_52 : decode cX7_mixVan 52 = .ok (.iinc 5 1, 3) := by decide +kernel
theorem dX7_mixVan_55 : decode cX7_mixVan 55 = .ok (.goto (-22), 3) := by decide +kernel
theorem dX7_mixVan_58 : decode cX7_mixVan 58 = .ok (.iconst 0, 1) := by decide +kernel
theorem dX7_mixVan_59 : decode cX7_mixVan 59 = .ok (.istore 5, 2) := by decide +kernel
theorem dX7_mixVan_61 : decode cX7_mixVan 61 = .ok (.iload 5, 2) := by decide +kernel
theorem dX7_mixVan_63 : decode cX7_mixVan 63 = .ok (.aload_n 0, 1) := by decide +kernel
theorem dX7_mixVan_64 : decode cX7_mixVan 64 = .ok (.getfield 37, 3) := by decide +kernel
theorem dX7_mixVan_67 : decode cX7_mixVan 67 = .ok (.invokevirtual 118, 3) := by decide +kernel
theorem dX7_mixVan_70 : decode cX7_mixVan 70 = .ok (.if_icmp .ge 24, 3) := by decide +kernel
theorem dX7_mixVan_73 : decode cX7_mixVan 73 = .ok (.lload_n 3, 1) := by decide +kernel
theorem dX7_mixVan_74 : decode cX7_mixVan 74 = .ok (.aload_n 0, 1) := by decide +kernel
theorem dX7_mixVan_75 : decode cX7_mixVan 75 = .ok (.getfield 37, 3) := by decide +kernel
theorem dX7_mixVan_78 : decode cX7_mixVan 78 = .ok (.iload 5, 2) := by decide +kernel
theorem dX7_mixVan_80 : decode cX7_mixVan 80 = .ok (.invokevirtual 119, 3) := by decide +kernel
theorem dX7_mixVan_83 : decode cX7_mixVan 83 = .ok (.i2l, 1) := by decide +kernel
theorem dX7_mixVan_84 : decode cX7_mixVan 84 = .ok (.invokestatic 269, 3) := by decide +kernel
theorem dX7_mixVan_87 : decode cX7_mixVan 87 = .ok (.lstore_n 3, 1) := by decide +kernel
theorem dX7_mixVan_88 : decode cX7_mixVan 88 = .ok (.iinc 5 1, 3) := by decide +kernel
theorem dX7_mixVan_91 : decode cX7_mixVan 91 = .ok (.goto (-30), 3) := by decide +kernel
theorem dX7_mixVan_94 : decode cX7_mixVan 94 = .ok (.lload_n 3, 1) := by decide +kernel
theorem dX7_mixVan_95 : decode cX7_mixVan 95 = .ok (.lreturn, 1) := by decide +kernel
theorem dX7_mixHaltsAndLanes_0 : decode cX7_mixHaltsAndLanes 0 = .ok (.lload_n 1, 1) := by decide +kernel
theorem dX7_mixHaltsAndLanes_1 : decode cX7_mixHaltsAndLanes 1 = .ok (.lstore_n 3, 1) := by decide +kernel
theorem dX7_mixHaltsAndLanes_2 : decode cX7_mixHaltsAndLanes 2 = .ok (.iconst 0, 1) := by decide +kernel
theorem dX7_mixHaltsAndLanes_3 : decode cX7_mixHaltsAndLanes 3 = .ok (.istore 5, 2) := by decide +kernel
theorem dX7_mixHaltsAndLanes_5 : decode cX7_mixHaltsAndLanes 5 = .ok (.iload 5, 2) := by decide +kernel
theorem dX7_mixHaltsAndLanes_7 : decode cX7_mixHaltsAndLanes 7 = .ok (.aload_n 0, 1) := by decide +kernel
theorem dX7_mixHaltsAndLanes_8 : decode cX7_mixHaltsAndLanes 8 = .ok (.getfield 12, 3) := by decide +kernel
theorem dX7_mixHaltsAndLanes_11 : decode cX7_mixHaltsAndLanes 11 = .ok (.invokevirtual 45, 3) := by decide +kernel
theorem dX7_mixHaltsAndLanes_14 : decode cX7_mixHaltsAndLanes 14 = .ok (.if_icmp .ge 38, 3) := by decide +kernel
theorem dX7_mixHaltsAndLanes_17 : decode cX7_mixHaltsAndLanes 17 = .ok (.iconst 0, 1) := by decide +kernel
theorem dX7_mixHaltsAndLanes_18 : decode cX7_mixHaltsAndLanes 18 = .ok (.istore 6, 2) := by decide +kernel
theorem dX7_mixHaltsAndLanes_20 : decode cX7_mixHaltsAndLanes 20 = .ok (.iload 6, 2) := by decide +kernel
theorem dX7_mixHaltsAndLanes_22 : decode cX7_mixHaltsAndLanes 22 = .ok (.iconst 5, 1) := by decide +kernel
theorem dX7_mixHaltsAndLanes_23 : decode cX7_mixHaltsAndLanes 23 = .ok (.if_icmp .ge 23, 3) := by decide +kernel
theorem dX7_mixHaltsAndLanes_26 : decode cX7_mixHaltsAndLanes 26 = .ok (.lload_n 3, 1) := by decide +kernel
theorem dX7_mixHaltsAndLanes_27 : decode cX7_mixHaltsAndLanes 27 = .ok (.aload_n 0, 1) := by decide +kernel
theorem dX7_mixHaltsAndLanes_28 : decode cX7_mixHaltsAndLanes 28 = .ok (.iload 5, 2) := by decide +kernel
theorem dX7_mixHaltsAndLanes_30 : decode cX7_mixHaltsAndLanes 30 = .ok (.iload 6, 2) := by decide +kernel
theorem dX7_mixHaltsAndLanes_32 : decode cX7_mixHaltsAndLanes 32 = .ok (.invokevirtual 273, 3) := by decide +kernel
theorem dX7_mixHaltsAndLanes_35 : decode cX7_mixHaltsAndLanes 35 = .ok (.i2l, 1) := by decide +kernel
theorem dX7_mixHaltsAndLanes_36 : decode cX7_mixHaltsAndLanes 36 = .ok (.invokestatic 269, 3) := by decide +kernel
theorem dX7_mixHaltsAndLanes_39 : decode cX7_mixHaltsAndLanes 39 = .ok (.lstore_n 3, 1) := by decide +kernel
theorem dX7_mixHaltsAndLanes_40 : decode cX7_mixHaltsAndLanes 40 = .ok (.iinc 6 1, 3) := by decide +kernel
theorem dX7_mixHaltsAndLanes_43 : decode cX7_mixHaltsAndLanes 43 = .ok (.goto (-23), 3) := by decide +kernel
theorem dX7_mixHaltsAndLanes_46 : decode cX7_mixHaltsAndLanes 46 = .ok (.iinc 5 1, 3) := by decide +kernel
theorem dX7_mixHaltsAndLanes_49 : decode cX7_mixHaltsAndLanes 49 = .ok (.goto (-44), 3) := by decide +kernel
theorem dX7_mixHaltsAndLanes_52 : decode cX7_mixHaltsAndLanes 52 = .ok (.iconst 0, 1) := by decide +kernel
theorem dX7_mixHaltsAndLanes_53 : decode cX7_mixHaltsAndLanes 53 = .ok (.istore 5, 2) := by decide +kernel
theorem dX7_mixHaltsAndLanes_55 : decode cX7_mixHaltsAndLanes 55 = .ok (.iload 5, 2) := by decide +kernel
theorem dX7_mixHaltsAndLanes_57 : decode cX7_mixHaltsAndLanes 57 = .ok (.aload_n 0, 1) := by decide +kernel
theorem dX7_mixHaltsAndLanes_58 : decode cX7_mixHaltsAndLanes 58 = .ok (.getfield 18, 3) := by decide +kernel
theorem dX7_mixHaltsAndLanes_61 : decode cX7_mixHaltsAndLanes 61 = .ok (.invokevirtual 45, 3) := by decide +kernel
theorem dX7_mixHaltsAndLanes_64 : decode cX7_mixHaltsAndLanes 64 = .ok (.if_icmp .ge 39, 3) := by decide +kernel
theorem dX7_mixHaltsAndLanes_67 : decode cX7_mixHaltsAndLanes 67 = .ok (.iconst 0, 1) := by decide +kernel
theorem dX7_mixHaltsAndLanes_68 : decode cX7_mixHaltsAndLanes 68 = .ok (.istore 6, 2) := by decide +kernel
theorem dX7_mixHaltsAndLanes_70 : decode cX7_mixHaltsAndLanes 70 = .ok (.iload 6, 2) := by decide +kernel
theorem dX7_mixHaltsAndLanes_72 : decode cX7_mixHaltsAndLanes 72 = .ok (.bipush 6, 2) := by decide +kernel
theorem dX7_mixHaltsAndLanes_74 : decode cX7_mixHaltsAndLanes 74 = .ok (.if_icmp .ge 23, 3) := by decide +kernel
theorem dX7_mixHaltsAndLanes_77 : decode cX7_mixHaltsAndLanes 77 = .ok (.lload_n 3, 1) := by decide +kernel
theorem dX7_mixHaltsAndLanes_78 : decode cX7_mixHaltsAndLanes 78 = .ok (.aload_n 0, 1) := by decide +kernel
theorem dX7_mixHaltsAndLanes_79 : decode cX7_mixHaltsAndLanes 79 = .ok (.iload 5, 2) := by decide +kernel
theorem dX7_mixHaltsAndLanes_81 : decode cX7_mixHaltsAndLanes 81 = .ok (.iload 6, 2) := by decide +kernel
theorem dX7_mixHaltsAndLanes_83 : decode cX7_mixHaltsAndLanes 83 = .ok (.invokevirtual 276, 3) := by decide +kernel
theorem dX7_mixHaltsAndLanes_86 : decode cX7_mixHaltsAndLanes 86 = .ok (.i2l, 1) := by decide +kernel
theorem dX7_mixHaltsAndLanes_87 : decode cX7_mixHaltsAndLanes 87 = .ok (.invokestatic 269, 3) := by decide +kernel
theorem dX7_mixHaltsAndLanes_90 : decode cX7_mixHaltsAndLanes 90 = .ok (.lstore_n 3, 1) := by decide +kernel
theorem dX7_mixHaltsAndLanes_91 : decode cX7_mixHaltsAndLanes 91 = .ok (.iinc 6 1, 3) := by decide +kernel
theorem dX7_mixHaltsAndLanes_94 : decode cX7_mixHaltsAndLanes 94 = .ok (.goto (-24), 3) := by decide +kernel
theorem dX7_mixHaltsAndLanes_97 : decode cX7_mixHaltsAndLanes 97 = .ok (.iinc 5 1, 3) := by decide +kernel
theorem dX7_mixHaltsAndLanes_100 : decode cX7_mixHaltsAndLanes 100 = .ok (.goto (-45), 3) := by decide +kernel
theorem dX7_mixHaltsAndLanes_103 : decode cX7_mixHaltsAndLanes 103 = .ok (.lload_n 3, 1) := by decide +kernel
theorem dX7_mixHaltsAndLanes_104 : decode cX7_mixHaltsAndLanes 104 = .ok (.lreturn, 1) := by decide +kernel
theorem dX7_mixBooksAndReaders_0 : decode cX7_mixBooksAndReaders 0 = .ok (.lload_n 1, 1) := by decide +kernel
theorem dX7_mixBooksAndReaders_1 : decode cX7_mixBooksAndReaders 1 = .ok (.lstore_n 3, 1) := by decide +kernel
theorem dX7_mixBooksAndReaders_2 : decode cX7_mixBooksAndReaders 2 = .ok (.iconst 0, 1) := by decide +kernel
theorem dX7_mixBooksAndReaders_3 : decode cX7_mixBooksAndReaders 3 = .ok (.istore 5, 2) := by decide +kernel
theorem dX7_mixBooksAndReaders_5 : decode cX7_mixBooksAndReaders 5 = .ok (.iload 5, 2) := by decide +kernel
theorem dX7_mixBooksAndReaders_7 : decode cX7_mixBooksAndReaders 7 = .ok (.aload_n 0, 1) := by decide +kernel
theorem dX7_mixBooksAndReaders_8 : decode cX7_mixBooksAndReaders 8 = .ok (.getfield 21, 3) := by decide +kernel
theorem dX7_mixBooksAndReaders_11 : decode cX7_mixBooksAndReaders 11 = .ok (.invokevirtual 45, 3) := by decide +kernel
theorem dX7_mixBooksAndReaders_14 : decode cX7_mixBooksAndReaders 14 = .ok (.if_icmp .ge 88, 3) := by decide +kernel
theorem dX7_mixBooksAndReaders_17 : decode cX7_mixBooksAndReaders 17 = .ok (.iconst 0, 1) := by decide +kernel
theorem dX7_mixBooksAndReaders_18 : decode cX7_mixBooksAndReaders 18 = .ok (.istore 6, 2) := by decide +kernel
theorem dX7_mixBooksAndReaders_20 : decode cX7_mixBooksAndReaders 20 = .ok (.iload 6, 2) := by decide +kernel
theorem dX7_mixBooksAndReaders_22 : decode cX7_mixBooksAndReaders 22 = .ok (.bipush 7, 2) := by decide +kernel
theorem dX7_mixBooksAndReaders_24 : decode cX7_mixBooksAndReaders 24 = .ok (.if_icmp .ge 23, 3) := by decide +kernel
theorem dX7_mixBooksAndReaders_27 : decode cX7_mixBooksAndReaders 27 = .ok (.lload_n 3, 1) := by decide +kernel
theorem dX7_mixBooksAndReaders_28 : decode cX7_mixBooksAndReaders 28 = .ok (.aload_n 0, 1) := by decide +kernel
theorem dX7_mixBooksAndReaders_29 : decode cX7_mixBooksAndReaders 29 = .ok (.iload 5, 2) := by decide +kernel
theorem dX7_mixBooksAndReaders_31 : decode cX7_mixBooksAndReaders 31 = .ok (.iload 6, 2) := by decide +kernel
theorem dX7_mixBooksAndReaders_33 : decode cX7_mixBooksAndReaders 33 = .ok (.invokevirtual 279, 3) := by decide +kernel
theorem dX7_mixBooksAndReaders_36 : decode cX7_mixBooksAndReaders 36 = .ok (.i2l, 1) := by decide +kernel
theorem dX7_mixBooksAndReaders_37 : decode cX7_mixBooksAndReaders 37 = .ok (.invokestatic 269, 3) := by decide +kernel
theorem dX7_mixBooksAndReaders_40 : decode cX7_mixBooksAndReaders 40 = .ok (.lstore_n 3, 1) := by decide +kernel
theorem dX7_mixBooksAndReaders_41 : decode cX7_mixBooksAndReaders 41 = .ok (.iinc 6 1, 3) := by decide +kernel
theorem dX7_mixBooksAndReaders_44 : decode cX7_mixBooksAndReaders 44 = .ok (.goto (-24), 3) := by decide +kernel
theorem dX7_mixBooksAndReaders_47 : decode cX7_mixBooksAndReaders 47 = .ok (.aload_n 0, 1) := by decide +kernel
theorem dX7_mixBooksAndReaders_48 : decode cX7_mixBooksAndReaders 48 = .ok (.getfield 21, 3) := by decide +kernel
theorem dX7_mixBooksAndReaders_51 : decode cX7_mixBooksAndReaders 51 = .ok (.iload 5, 2) := by decide +kernel
theorem dX7_mixBooksAndReaders_53 : decode cX7_mixBooksAndReaders 53 = .ok (.invokevirtual 58, 3) := by decide +kernel
theorem dX7_mixBooksAndReaders_56 : decode cX7_mixBooksAndReaders 56 = .ok (.checkcast 62, 3) := by decide +kernel
theorem dX7_mixBooksAndReaders_59 : decode cX7_mixBooksAndReaders 59 = .ok (.getfield 165, 3) := by decide +kernel
theorem dX7_mixBooksAndReaders_62 : decode cX7_mixBooksAndReaders 62 = .ok (.astore 6, 2) := by decide +kernel
theorem dX7_mixBooksAndReaders_64 : decode cX7_mixBooksAndReaders 64 = .ok (.iconst 0, 1) := by decide +kernel
theorem dX7_mixBooksAndReaders_65 : decode cX7_mixBooksAndReaders 65 = .ok (.istore 7, 2) := by decide +kernel
theorem dX7_mixBooksAndReaders_67 : decode cX7_mixBooksAndReaders 67 = .ok (.iload 7, 2) := by decide +kernel
theorem dX7_mixBooksAndReaders_69 : decode cX7_mixBooksAndReaders 69 = .ok (.aload 6, 2) := by decide +kernel
theorem dX7_mixBooksAndReaders_71 : decode cX7_mixBooksAndReaders 71 = .ok (.invokevirtual 190, 3) := by decide +kernel
theorem dX7_mixBooksAndReaders_74 : decode cX7_mixBooksAndReaders 74 = .ok (.if_icmp .ge 22, 3) := by decide +kernel
theorem dX7_mixBooksAndReaders_77 : decode cX7_mixBooksAndReaders 77 = .ok (.lload_n 3, 1) := by decide +kernel
theorem dX7_mixBooksAndReaders_78 : decode cX7_mixBooksAndReaders 78 = .ok (.aload 6, 2) := by decide +kernel
theorem dX7_mixBooksAndReaders_80 : decode cX7_mixBooksAndReaders 80 = .ok (.iload 7, 2) := by decide +kernel
theorem dX7_mixBooksAndReaders_82 : decode cX7_mixBooksAndReaders 82 = .ok (.invokevirtual 282, 3) := by decide +kernel
theorem dX7_mixBooksAndReaders_85 : decode cX7_mixBooksAndReaders 85 = .ok (.i2l, 1) := by decide +kernel
theorem dX7_mixBooksAndReaders_86 : decode cX7_mixBooksAndReaders 86 = .ok (.invokestatic 269, 3) := by decide +kernel
theorem dX7_mixBooksAndReaders_89 : decode cX7_mixBooksAndReaders 89 = .ok (.lstore_n 3, 1) := by decide +kernel
theorem dX7_mixBooksAndReaders_90 : decode cX7_mixBooksAndReaders 90 = .ok (.iinc 7 1, 3) := by decide +kernel
theorem dX7_mixBooksAndReaders_93 : decode cX7_mixBooksAndReaders 93 = .ok (.goto (-26), 3) := by decide +kernel
theorem dX7_mixBooksAndReaders_96 : decode cX7_mixBooksAndReaders 96 = .ok (.iinc 5 1, 3) := by decide +kernel
theorem dX7_mixBooksAndReaders_99 : decode cX7_mixBooksAndReaders 99 = .ok (.goto (-94), 3) := by decide +kernel
theorem dX7_mixBooksAndReaders_102 : decode cX7_mixBooksAndReaders 102 = .ok (.iconst 0, 1) := by decide +kernel
theorem dX7_mixBooksAndReaders_103 : decode cX7_mixBooksAndReaders 103 = .ok (.istore 5, 2) := by decide +kernel
theorem dX7_mixBooksAndReaders_105 : decode cX7_mixBooksAndReaders 105 = .ok (.iload 5, 2) := by decide +kernel
theorem dX7_mixBooksAndReaders_107 : decode cX7_mixBooksAndReaders 107 = .ok (.aload_n 0, 1) := by decide +kernel
theorem dX7_mixBooksAndReaders_108 : decode cX7_mixBooksAndReaders 108 = .ok (.getfield 24, 3) := by decide +kernel
theorem dX7_mixBooksAndReaders_111 : decode cX7_mixBooksAndReaders 111 = .ok (.invokevirtual 45, 3) := by decide +kernel
theorem dX7_mixBooksAndReaders_114 : decode cX7_mixBooksAndReaders 114 = .ok (.if_icmp .ge 39, 3) := by decide +kernel
theorem dX7_mixBooksAndReaders_117 : decode cX7_mixBooksAndReaders 117 = .ok (.iconst 0, 1) := by decide +kernel
theorem dX7_mixBooksAndReaders_118 : decode cX7_mixBooksAndReaders 118 = .ok (.istore 6, 2) := by decide +kernel
theorem dX7_mixBooksAndReaders_120 : decode cX7_mixBooksAndReaders 120 = .ok (.iload 6, 2) := by decide +kernel
theorem dX7_mixBooksAndReaders_122 : decode cX7_mixBooksAndReaders 122 = .ok (.bipush 8, 2) := by decide +kernel
theorem dX7_mixBooksAndReaders_124 : decode cX7_mixBooksAndReaders 124 = .ok (.if_icmp .ge 23, 3) := by decide +kernel
theorem dX7_mixBooksAndReaders_127 : decode cX7_mixBooksAndReaders 127 = .ok (.lload_n 3, 1) := by decide +kernel
theorem dX7_mixBooksAndReaders_128 : decode cX7_mixBooksAndReaders 128 = .ok (.aload_n 0, 1) := by decide +kernel
theorem dX7_mixBooksAndReaders_129 : decode cX7_mixBooksAndReaders 129 = .ok (.iload 5, 2) := by decide +kernel
theorem dX7_mixBooksAndReaders_131 : decode cX7_mixBooksAndReaders 131 = .ok (.iload 6, 2) := by decide +kernel
theorem dX7_mixBooksAndReaders_133 : decode cX7_mixBooksAndReaders 133 = .ok (.invokevirtual 285, 3) := by decide +kernel
theorem dX7_mixBooksAndReaders_136 : decode cX7_mixBooksAndReaders 136 = .ok (.i2l, 1) := by decide +kernel
theorem dX7_mixBooksAndReaders_137 : decode cX7_mixBooksAndReaders 137 = .ok (.invokestatic 269, 3) := by decide +kernel
theorem dX7_mixBooksAndReaders_140 : decode cX7_mixBooksAndReaders 140 = .ok (.lstore_n 3, 1) := by decide +kernel
theorem dX7_mixBooksAndReaders_141 : decode cX7_mixBooksAndReaders 141 = .ok (.iinc 6 1, 3) := by decide +kernel
theorem dX7_mixBooksAndReaders_144 : decode cX7_mixBooksAndReaders 144 = .ok (.goto (-24), 3) := by decide +kernel
theorem dX7_mixBooksAndReaders_147 : decode cX7_mixBooksAndReaders 147 = .ok (.iinc 5 1, 3) := by decide +kernel
theorem dX7_mixBooksAndReaders_150 : decode cX7_mixBooksAndReaders 150 = .ok (.goto (-45), 3) := by decide +kernel
theorem dX7_mixBooksAndReaders_153 : decode cX7_mixBooksAndReaders 153 = .ok (.lload_n 3, 1) := by decide +kernel
theorem dX7_mixBooksAndReaders_154 : decode cX7_mixBooksAndReaders 154 = .ok (.lreturn, 1) := by decide +kernel
