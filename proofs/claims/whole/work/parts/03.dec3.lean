theorem dX9_init_0 : decode cX9_init 0 = .ok (.aload_n 0, 1) := by decide +kernel
theorem dX9_init_1 : decode cX9_init 1 = .ok (.aload_n 1, 1) := by decide +kernel
theorem dX9_init_2 : decode cX9_init 2 = .ok (.putfield 3, 3) := by decide +kernel
theorem dX9_init_5 : decode cX9_init 5 = .ok (.aload_n 0, 1) := by decide +kernel
theorem dX9_init_6 : decode cX9_init 6 = .ok (.invokespecial 9, 3) := by decide +kernel
theorem dX9_init_9 : decode cX9_init 9 = .ok (.aload_n 0, 1) := by decide +kernel
theorem dX9_init_10 : decode cX9_init 10 = .ok (.bipush 16, 2) := by decide +kernel
theorem dX9_init_12 : decode cX9_init 12 = .ok (.newarray .int, 2) := by decide +kernel
theorem dX9_init_14 : decode cX9_init 14 = .ok (.putfield 15, 3) := by decide +kernel
theorem dX9_init_17 : decode cX9_init 17 = .ok (.aload_n 0, 1) := by decide +kernel
theorem dX9_init_18 : decode cX9_init 18 = .ok (.bipush 8, 2) := by decide +kernel
theorem dX9_init_20 : decode cX9_init 20 = .ok (.newarray .int, 2) := by decide +kernel
theorem dX9_init_22 : decode cX9_init 22 = .ok (.putfield 19, 3) := by decide +kernel
theorem dX9_init_25 : decode cX9_init 25 = .ok (.aload_n 0, 1) := by decide +kernel
theorem dX9_init_26 : decode cX9_init 26 = .ok (.bipush 8, 2) := by decide +kernel
theorem dX9_init_28 : decode cX9_init 28 = .ok (.newarray .int, 2) := by decide +kernel
theorem dX9_init_30 : decode cX9_init 30 = .ok (.putfield 22, 3) := by decide +kernel
theorem dX9_init_33 : decode cX9_init 33 = .ok (.aload_n 0, 1) := by decide +kernel
theorem dX9_init_34 : decode cX9_init 34 = .ok (.bipush 8, 2) := by decide +kernel
theorem dX9_init_36 : decode cX9_init 36 = .ok (.newarray .int, 2) := by decide +kernel
theorem dX9_init_38 : decode cX9_init 38 = .ok (.putfield 25, 3) := by decide +kernel
theorem dX9_init_41 : decode cX9_init 41 = .ok (.aload_n 0, 1) := by decide +kernel
theorem dX9_init_42 : decode cX9_init 42 = .ok (.bipush 24, 2) := by decide +kernel
theorem dX9_init_44 : decode cX9_init 44 = .ok (.newarray .int, 2) := by decide +kernel
theorem dX9_init_46 : decode cX9_init 46 = .ok (.putfield 28, 3) := by decide +kernel
theorem dX9_init_49 : decode cX9_init 49 = .ok (.aload_n 0, 1) := by decide +kernel
theorem dX9_init_50 : decode cX9_init 50 = .ok (.bipush 24, 2) := by decide +kernel
theorem dX9_init_52 : decode cX9_init 52 = .ok (.newarray .int, 2) := by decide +kernel
theorem dX9_init_54 : decode cX9_init 54 = .ok (.putfield 31, 3) := by decide +kernel
theorem dX9_init_57 : decode cX9_init 57 = .ok (.aload_n 0, 1) := by decide +kernel
theorem dX9_init_58 : decode cX9_init 58 = .ok (.bipush 24, 2) := by decide +kernel
theorem dX9_init_60 : decode cX9_init 60 = .ok (.newarray .int, 2) := by decide +kernel
theorem dX9_init_62 : decode cX9_init 62 = .ok (.putfield 34, 3) := by decide +kernel
theorem dX9_init_65 : decode cX9_init 65 = .ok (.aload_n 0, 1) := by decide +kernel
theorem dX9_init_66 : decode cX9_init 66 = .ok (.sipush 240, 3) := by decide +kernel
theorem dX9_init_69 : decode cX9_init 69 = .ok (.newarray .int, 2) := by decide +kernel
theorem dX9_init_71 : decode cX9_init 71 = .ok (.putfield 37, 3) := by decide +kernel
theorem dX9_init_74 : decode cX9_init 74 = .ok (.aload_n 0, 1) := by decide +kernel
theorem dX9_init_75 : decode cX9_init 75 = .ok (.bipush 24, 2) := by decide +kernel
theorem dX9_init_77 : decode cX9_init 77 = .ok (.newarray .int, 2) := by decide +kernel
theorem dX9_init_79 : decode cX9_init 79 = .ok (.putfield 40, 3) := by decide +kernel
theorem dX9_init_82 : decode cX9_init 82 = .ok (.aload_n 0, 1) := by decide +kernel
theorem dX9_init_83 : decode cX9_init 83 = .ok (.bipush 10, 2) := by decide +kernel
theorem dX9_init_85 : decode cX9_init 85 = .ok (.newarray .int, 2) := by decide +kernel
theorem dX9_init_87 : decode cX9_init 87 = .ok (.putfield 43, 3) := by decide +kernel
theorem dX9_init_90 : decode cX9_init 90 = .ok (.aload_n 0, 1) := by decide +kernel
theorem dX9_init_91 : decode cX9_init 91 = .ok (.bipush 10, 2) := by decide +kernel
theorem dX9_init_93 : decode cX9_init 93 = .ok (.newarray .int, 2) := by decide +kernel
theorem dX9_init_95 : decode cX9_init 95 = .ok (.putfield 46, 3) := by decide +kernel
theorem dX9_init_98 : decode cX9_init 98 = .ok (.aload_n 0, 1) := by decide +kernel
theorem dX9_init_99 : decode cX9_init 99 = .ok (.bipush 10, 2) := by decide +kernel
theorem dX9_init_101 : decode cX9_init 101 = .ok (.newarray .int, 2) := by decide +kernel
theorem dX9_init_103 : decode cX9_init 103 = .ok (.putfield 49, 3) := by decide +kernel
theorem dX9_init_106 : decode cX9_init 106 = .ok (.return_, 1) := by decide +kernel
theorem dX9_copy_0 : decode cX9_copy 0 = .ok (.aload_n 1, 1) := by decide +kernel
theorem dX9_copy_1 : decode cX9_copy 1 = .ok (.iconst 0, 1) := by decide +kernel
theorem dX9_copy_2 : decode cX9_copy 2 = .ok (.aload_n 2, 1) := by decide +kernel
theorem dX9_copy_3 : decode cX9_copy 3 = .ok (.iconst 0, 1) := by decide +kernel
theorem dX9_copy_4 : decode cX9_copy 4 = .ok (.aload_n 1, 1) := by decide +kernel
theorem dX9_copy_5 : decode cX9_copy 5 = .ok (.arraylength, 1) := by decide +kernel
theorem dX9_copy_6 : decode cX9_copy 6 = .ok (.invokestatic 52, 3) := by decide +kernel
theorem dX9_copy_9 : decode cX9_copy 9 = .ok (.return_, 1) := by decide +kernel
theorem dX9_become_0 : decode cX9_become 0 = .ok (.aload_n 0, 1) := by decide +kernel
theorem dX9_become_1 : decode cX9_become 1 = .ok (.aload_n 1, 1) := by decide +kernel
theorem dX9_become_2 : decode cX9_become 2 = .ok (.getfield 58, 3) := by decide +kernel
theorem dX9_become_5 : decode cX9_become 5 = .ok (.putfield 58, 3) := by decide +kernel
theorem dX9_become_8 : decode cX9_become 8 = .ok (.aload_n 0, 1) := by decide +kernel
theorem dX9_become_9 : decode cX9_become 9 = .ok (.aload_n 1, 1) := by decide +kernel
theorem dX9_become_10 : decode cX9_become 10 = .ok (.getfield 62, 3) := by decide +kernel
theorem dX9_become_13 : decode cX9_become 13 = .ok (.putfield 62, 3) := by decide +kernel
theorem dX9_become_16 : decode cX9_become 16 = .ok (.aload_n 0, 1) := by decide +kernel
theorem dX9_become_17 : decode cX9_become 17 = .ok (.aload_n 1, 1) := by decide +kernel
theorem dX9_become_18 : decode cX9_become 18 = .ok (.getfield 65, 3) := by decide +kernel
theorem dX9_become_21 : decode cX9_become 21 = .ok (.putfield 65, 3) := by decide +kernel
theorem dX9_become_24 : decode cX9_become 24 = .ok (.aload_n 0, 1) := by decide +kernel
theorem dX9_become_25 : decode cX9_become 25 = .ok (.aload_n 1, 1) := by decide +kernel
theorem dX9_become_26 : decode cX9_become 26 = .ok (.getfield 68, 3) := by decide +kernel
theorem dX9_become_29 : decode cX9_become 29 = .ok (.putfield 68, 3) := by decide +kernel
theorem dX9_become_32 : decode cX9_become 32 = .ok (.aload_n 0, 1) := by decide +kernel
theorem dX9_become_33 : decode cX9_become 33 = .ok (.aload_n 1, 1) := by decide +kernel
theorem dX9_become_34 : decode cX9_become 34 = .ok (.getfield 15, 3) := by decide +kernel
theorem dX9_become_37 : decode cX9_become 37 = .ok (.aload_n 0, 1) := by decide +kernel
theorem dX9_become_38 : decode cX9_become 38 = .ok (.getfield 15, 3) := by decide +kernel
theorem dX9_become_41 : decode cX9_become 41 = .ok (.invokevirtual 71, 3) := by decide +kernel
theorem dX9_become_44 : decode cX9_become 44 = .ok (.aload_n 0, 1) := by decide +kernel
theorem dX9_become_45 : decode cX9_become 45 = .ok (.aload_n 1, 1) := by decide +kernel
theorem dX9_become_46 : decode cX9_become 46 = .ok (.getfield 19, 3) := by decide +kernel
theorem dX9_become_49 : decode cX9_become 49 = .ok (.aload_n 0, 1) := by decide +kernel
theorem dX9_become_50 : decode cX9_become 50 = .ok (.getfield 19, 3) := by decide +kernel
theorem dX9_become_53 : decode cX9_become 53 = .ok (.invokevirtual 71, 3) := by decide +kernel
theorem dX9_become_56 : decode cX9_become 56 = .ok (.aload_n 0, 1) := by decide +kernel
theorem dX9_become_57 : decode cX9_become 57 = .ok (.aload_n 1, 1) := by decide +kernel
theorem dX9_become_58 : decode cX9_become 58 = .ok (.getfield 22, 3) := by decide +kernel
theorem dX9_become_61 : decode cX9_become 61 = .ok (.aload_n 0, 1) := by decide +kernel
theorem dX9_become_62 : decode cX9_become 62 = .ok (.getfield 22, 3) := by decide +kernel
theorem dX9_become_65 : decode cX9_become 65 = .ok (.invokevirtual 71, 3) := by decide +kernel
theorem dX9_become_68 : decode cX9_become 68 = .ok (.aload_n 0, 1) := by decide +kernel
theorem dX9_become_69 : decode cX9_become 69 = .ok (.aload_n 1, 1) := by decide +kernel
theorem dX9_become_70 : decode cX9_become 70 = .ok (.getfield 25, 3) := by decide +kernel
theorem dX9_become_73 : decode cX9_become 73 = .ok (.aload_n 0, 1) := by decide +kernel
theorem dX9_become_74 : decode cX9_become 74 = .ok (.getfield 25, 3) := by decide +kernel
theorem dX9_become_77 : decode cX9_become 77 = .ok (.invokevirtual 71, 3) := by decide +kernel
theorem dX9_become_80 : decode cX9_become 80 = .ok (.aload_n 0, 1) := by decide +kernel
theorem dX9_become_81 : decode cX9_become 81 = .ok (.aload_n 1, 1) := by decide +kernel
theorem dX9_become_82 : decode cX9_become 82 = .ok (.getfield 28, 3) := by decide +kernel
theorem dX9_become_85 : decode cX9_become 85 = .ok (.aload_n 0, 1) := by decide +kernel
theorem dX9_become_86 : decode cX9_become 86 = .ok (.getfield 28, 3) := by decide +kernel
theorem dX9_become_89 : decode cX9_become 89 = .ok (.invokevirtual 71, 3) := by decide +kernel
theorem dX9_become_92 : decode cX9_become 92 = .ok (.aload_n 0, 1) := by decide +kernel
theorem dX9_become_93 : decode cX9_become 93 = .ok (.aload_n 1, 1) := by decide +kernel
theorem dX9_become_94 : decode cX9_become 94 = .ok (.getfield 31, 3) := by decide +kernel
theorem dX9_become_97 : decode cX9_become 97 = .ok (.aload_n 0, 1) := by decide +kernel
theorem dX9_become_98 : decode cX9_become 98 = .ok (.getfield 31, 3) := by decide +kernel
theorem dX9_become_101 : decode cX9_become 101 = .ok (.invokevirtual 71, 3) := by decide +kernel
theorem dX9_become_104 : decode cX9_become 104 = .ok (.aload_n 0, 1) := by decide +kernel
theorem dX9_become_105 : decode cX9_become 105 = .ok (.aload_n 1, 1) := by decide +kernel
theorem dX9_become_106 : decode cX9_become 106 = .ok (.getfield 34, 3) := by decide +kernel
theorem dX9_become_109 : decode cX9_become 109 = .ok (.aload_n 0, 1) := by decide +kernel
theorem dX9_become_110 : decode cX9_become 110 = .ok (.getfield 34, 3) := by decide +kernel
theorem dX9_become_113 : decode cX9_become 113 = .ok (.invokevirtual 71, 3) := by decide +kernel
theorem dX9_become_116 : decode cX9_become 116 = .ok (.aload_n 0, 1) := by decide +kernel
theorem dX9_become_117 : decode cX9_become 117 = .ok (.aload_n 1, 1) := by decide +kernel
theorem dX9_become_118 : decode cX9_become 118 = .ok (.getfield 37, 3) := by decide +kernel
theorem dX9_become_121 : decode cX9_become 121 = .ok (.aload_n 0, 1) := by decide +kernel
theorem dX9_become_122 : decode cX9_become 122 = .ok (.getfield 37, 3) := by decide +kernel
theorem dX9_become_125 : decode cX9_become 125 = .ok (.invokevirtual 71, 3) := by decide +kernel
theorem dX9_become_128 : decode cX9_become 128 = .ok (.aload_n 0, 1) := by decide +kernel
theorem dX9_become_129 : decode cX9_become 129 = .ok (.aload_n 1, 1) := by decide +kernel
theorem dX9_become_130 : decode cX9_become 130 = .ok (.getfield 40, 3) := by decide +kernel
theorem dX9_become_133 : decode cX9_become 133 = .ok (.aload_n 0, 1) := by decide +kernel
theorem dX9_become_134 : decode cX9_become 134 = .ok (.getfield 40, 3) := by decide +kernel
theorem dX9_become_137 : decode cX9_become 137 = .ok (.invokevirtual 71, 3) := by decide +kernel
theorem dX9_become_140 : decode cX9_become 140 = .ok (.aload_n 0, 1) := by decide +kernel
theorem dX9_become_141 : decode cX9_become 141 = .ok (.aload_n 1, 1) := by decide +kernel
theorem dX9_become_142 : decode cX9_become 142 = .ok (.getfield 43, 3) := by decide +kernel
theorem dX9_become_145 : decode cX9_become 145 = .ok (.aload_n 0, 1) := by decide +kernel
theorem dX9_become_146 : decode cX9_become 146 = .ok (.getfield 43, 3) := by decide +kernel
theorem dX9_become_149 : decode cX9_become 149 = .ok (.invokevirtual 71, 3) := by decide +kernel
theorem dX9_become_152 : decode cX9_become 152 = .ok (.aload_n 0, 1) := by decide +kernel
theorem dX9_become_153 : decode cX9_become 153 = .ok (.aload_n 1, 1) := by decide +kernel
theorem dX9_become_154 : decode cX9_become 154 = .ok (.getfield 46, 3) := by decide +kernel
theorem dX9_become_157 : decode cX9_become 157 = .ok (.aload_n 0, 1) := by decide +kernel
theorem dX9_become_158 : decode cX9_become 158 = .ok (.getfield 46, 3) := by decide +kernel
theorem dX9_become_161 : decode cX9_become 161 = .ok (.invokevirtual 71, 3) := by decide +kernel
theorem dX9_become_164 : decode cX9_become 164 = .ok (.aload_n 0, 1) := by decide +kernel
theorem dX9_become_165 : decode cX9_become 165 = .ok (.aload_n 1, 1) := by decide +kernel
theorem dX9_become_166 : decode cX9_become 166 = .ok (.getfield 49, 3) := by decide +kernel
theorem dX9_become_169 : decode cX9_become 169 = .ok (.aload_n 0, 1) := by decide +kernel
theorem dX9_become_170 : decode cX9_become 170 = .ok (.getfield 49, 3) := by decide +kernel
theorem dX9_become_173 : decode cX9_become 173 = .ok (.invokevirtual 71, 3) := by decide +kernel
theorem dX9_become_176 : decode cX9_become 176 = .ok (.return_, 1) := by decide +kernel
theorem dX9_minutesOf_0 : decode cX9_minutesOf 0 = .ok (.aload_n 0, 1) := by decide +kernel
theorem dX9_minutesOf_1 : decode cX9_minutesOf 1 = .ok (.getfield 15, 3) := by decide +kernel
theorem dX9_minutesOf_4 : decode cX9_minutesOf 4 = .ok (.iload_n 1, 1) := by decide +kernel
theorem dX9_minutesOf_5 : decode cX9_minutesOf 5 = .ok (.iaload, 1) := by decide +kernel
theorem dX9_minutesOf_6 : decode cX9_minutesOf 6 = .ok (.bipush 12, 2) := by decide +kernel
theorem dX9_minutesOf_8 : decode cX9_minutesOf 8 = .ok (.if_icmp .le 7, 3) := by decide +kernel
theorem dX9_minutesOf_11 : decode cX9_minutesOf 11 = .ok (.iconst (-1), 1) := by decide +kernel
theorem dX9_minutesOf_12 : decode cX9_minutesOf 12 = .ok (.goto 25, 3) := by decide +kernel
theorem dX9_minutesOf_15 : decode cX9_minutesOf 15 = .ok (.aload_n 0, 1) := by decide +kernel
theorem dX9_minutesOf_16 : decode cX9_minutesOf 16 = .ok (.getfield 3, 3) := by decide +kernel
theorem dX9_minutesOf_19 : decode cX9_minutesOf 19 = .ok (.getfield 75, 3) := by decide +kernel
theorem dX9_minutesOf_22 : decode cX9_minutesOf 22 = .ok (.iconst 4, 1) := by decide +kernel
theorem dX9_minutesOf_23 : decode cX9_minutesOf 23 = .ok (.iload_n 1, 1) := by decide +kernel
theorem dX9_minutesOf_24 : decode cX9_minutesOf 24 = .ok (.imul, 1) := by decide +kernel
theorem dX9_minutesOf_25 : decode cX9_minutesOf 25 = .ok (.iconst 2, 1) := by decide +kernel
theorem dX9_minutesOf_26 : decode cX9_minutesOf 26 = .ok (.iadd, 1) := by decide +kernel
theorem dX9_minutesOf_27 : decode cX9_minutesOf 27 = .ok (.iaload, 1) := by decide +kernel
theorem dX9_minutesOf_28 : decode cX9_minutesOf 28 = .ok (.aload_n 0, 1) := by decide +kernel
theorem dX9_minutesOf_29 : decode cX9_minutesOf 29 = .ok (.getfield 15, 3) := by decide +kernel
theorem dX9_minutesOf_32 : decode cX9_minutesOf 32 = .ok (.iload_n 1, 1) := by decide +kernel
theorem dX9_minutesOf_33 : decode cX9_minutesOf 33 = .ok (.iaload, 1) := by decide +kernel
theorem dX9_minutesOf_34 : decode cX9_minutesOf 34 = .ok (.iconst 2, 1) := by decide +kernel
theorem dX9_minutesOf_35 : decode cX9_minutesOf 35 = .ok (.idiv, 1) := by decide +kernel
theorem dX9_minutesOf_36 : decode cX9_minutesOf 36 = .ok (.iadd, 1) := by decide +kernel
theorem dX9_minutesOf_37 : decode cX9_minutesOf 37 = .ok (.ireturn, 1) := by decide +kernel
theorem dX9_find_0 : decode cX9_find 0 = .ok (.iconst 0, 1) := by decide +kernel
theorem dX9_find_1 : decode cX9_find 1 = .ok (.istore_n 1, 1) := by decide +kernel
theorem dX9_find_2 : decode cX9_find 2 = .ok (.iload_n 1, 1) := by decide +kernel
theorem dX9_find_3 : decode cX9_find 3 = .ok (.aload_n 0, 1) := by decide +kernel
theorem dX9_find_4 : decode cX9_find 4 = .ok (.getfield 3, 3) := by decide +kernel
theorem dX9_find_7 : decode cX9_find 7 = .ok (.getfield 78, 3) := by decide +kernel
theorem dX9_find_10 : decode cX9_find 10 = .ok (.arraylength, 1) := by decide +kernel
theorem dX9_find_11 : decode cX9_find 11 = .ok (.if_icmp .ge 35, 3) := by decide +kernel
theorem dX9_find_14 : decode cX9_find 14 = .ok (.aload_n 0, 1) := by decide +kernel
theorem dX9_find_15 : decode cX9_find 15 = .ok (.getfield 3, 3) := by decide +kernel
theorem dX9_find_18 : decode cX9_find 18 = .ok (.getfield 78, 3) := by decide +kernel
theorem dX9_find_21 : decode cX9_find 21 = .ok (.iload_n 1, 1) := by decide +kernel
theorem dX9_find_22 : decode cX9_find 22 = .ok (.iload_n 1, 1) := by decide +kernel
theorem dX9_find_23 : decode cX9_find 23 = .ok (.bipush 8, 2) := by decide +kernel
theorem dX9_find_25 : decode cX9_find 25 = .ok (.idiv, 1) := by decide +kernel
theorem dX9_find_26 : decode cX9_find 26 = .ok (.iload_n 1, 1) := by decide +kernel
theorem dX9_find_27 : decode cX9_find 27 = .ok (.bipush 8, 2) := by decide +kernel
theorem dX9_find_29 : decode cX9_find 29 = .ok (.irem, 1) := by decide +kernel
theorem dX9_find_30 : decode cX9_find 30 = .ok (.if_icmp .ne 7, 3) := by decide +kernel
theorem dX9_find_33 : decode cX9_find 33 = .ok (.iconst 0, 1) := by decide +kernel
theorem dX9_find_34 : decode cX9_find 34 = .ok (.goto 5, 3) := by decide +kernel
theorem dX9_find_37 : decode cX9_find 37 = .ok (.ldc 81, 2) := by decide +kernel
theorem dX9_find_39 : decode cX9_find 39 = .ok (.iastore, 1) := by decide +kernel
theorem dX9_find_40 : decode cX9_find 40 = .ok (.iinc 1 1, 3) := by decide +kernel
theorem dX9_find_43 : decode cX9_find 43 = .ok (.goto (-41), 3) := by decide +kernel
theorem dX9_find_46 : decode cX9_find 46 = .ok (.iconst 1, 1) := by decide +kernel
theorem dX9_find_47 : decode cX9_find 47 = .ok (.istore_n 1, 1) := by decide +kernel
theorem dX9_find_48 : decode cX9_find 48 = .ok (.iload_n 1, 1) := by decide +kernel
theorem dX9_find_49 : decode cX9_find 49 = .ok (.ifCond .eq 106, 3) := by decide +kernel
theorem dX9_find_52 : decode cX9_find 52 = .ok (.iconst 0, 1) := by decide +kernel
theorem dX9_find_53 : decode cX9_find 53 = .ok (.istore_n 1, 1) := by decide +kernel
theorem dX9_find_54 : decode cX9_find 54 = .ok (.iconst 0, 1) := by decide +kernel
theorem dX9_find_55 : decode cX9_find 55 = .ok (.istore_n 2, 1) := by decide +kernel
theorem dX9_find_56 : decode cX9_find 56 = .ok (.iload_n 2, 1) := by decide +kernel
theorem dX9_find_57 : decode cX9_find 57 = .ok (.aload_n 0, 1) := by decide +kernel
theorem dX9_find_58 : decode cX9_find 58 = .ok (.getfield 3, 3) := by decide +kernel
theorem dX9_find_61 : decode cX9_find 61 = .ok (.getfield 82, 3) := by decide +kernel
theorem dX9_find_64 : decode cX9_find 64 = .ok (.if_icmp .ge 88, 3) := by decide +kernel
theorem dX9_find_67 : decode cX9_find 67 = .ok (.aload_n 0, 1) := by decide +kernel
theorem dX9_find_68 : decode cX9_find 68 = .ok (.iload_n 2, 1) := by decide +kernel
theorem dX9_find_69 : decode cX9_find 69 = .ok (.invokevirtual 85, 3) := by decide +kernel
theorem dX9_find_72 : decode cX9_find 72 = .ok (.iconst (-1), 1) := by decide +kernel
theorem dX9_find_73 : decode cX9_find 73 = .ok (.if_icmp .eq 73, 3) := by decide +kernel
theorem dX9_find_76 : decode cX9_find 76 = .ok (.iload_n 1, 1) := by decide +kernel
theorem dX9_find_77 : decode cX9_find 77 = .ok (.aload_n 0, 1) := by decide +kernel
theorem dX9_find_78 : decode cX9_find 78 = .ok (.aload_n 0, 1) := by decide +kernel
theorem dX9_find_79 : decode cX9_find 79 = .ok (.getfield 3, 3) := by decide +kernel
theorem dX9_find_82 : decode cX9_find 82 = .ok (.getfield 75, 3) := by decide +kernel
theorem dX9_find_85 : decode cX9_find 85 = .ok (.iconst 4, 1) := by decide +kernel
theorem dX9_find_86 : decode cX9_find 86 = .ok (.iload_n 2, 1) := by decide +kernel
theorem dX9_find_87 : decode cX9_find 87 = .ok (.imul, 1) := by decide +kernel
theorem dX9_find_88 : decode cX9_find 88 = .ok (.iaload, 1) := by decide +kernel
theorem dX9_find_89 : decode cX9_find 89 = .ok (.aload_n 0, 1) := by decide +kernel
theorem dX9_find_90 : decode cX9_find 90 = .ok (.getfield 3, 3) := by decide +kernel
theorem dX9_find_93 : decode cX9_find 93 = .ok (.getfield 75, 3) := by decide +kernel
theorem dX9_find_96 : decode cX9_find 96 = .ok (.iconst 4, 1) := by decide +kernel
theorem dX9_find_97 : decode cX9_find 97 = .ok (.iload_n 2, 1) := by decide +kernel
theorem dX9_find_98 : decode cX9_find 98 = .ok (.imul, 1) := by decide +kernel
theorem dX9_find_99 : decode cX9_find 99 = .ok (.iconst 1, 1) := by decide +kernel
theorem dX9_find_100 : decode cX9_find 100 = .ok (.iadd, 1) := by decide +kernel
theorem dX9_find_101 : decode cX9_find 101 = .ok (.iaload, 1) := by decide +kernel
theorem dX9_find_102 : decode cX9_find 102 = .ok (.aload_n 0, 1) := by decide +kernel
theorem dX9_find_103 : decode cX9_find 103 = .ok (.iload_n 2, 1) := by decide +kernel
theorem dX9_find_104 : decode cX9_find 104 = .ok (.invokevirtual 85, 3) := by decide +kernel
theorem dX9_find_107 : decode cX9_find 107 = .ok (.invokevirtual 89, 3) := by decide +kernel
theorem dX9_find_110 : decode cX9_find 110 = .ok (.aload_n 0, 1) := by decide +kernel
theorem dX9_find_111 : decode cX9_find 111 = .ok (.aload_n 0, 1) := by decide +kernel
theorem dX9_find_112 : decode cX9_find 112 = .ok (.getfield 3, 3) := by decide +kernel
theorem dX9_find_115 : decode cX9_find 115 = .ok (.getfield 75, 3) := by decide +kernel
theorem dX9_find_118 : decode cX9_find 118 = .ok (.iconst 4, 1) := by decide +kernel
theorem dX9_find_119 : decode cX9_find 119 = .ok (.iload_n 2, 1) := by decide +kernel
theorem dX9_find_120 : decode cX9_find 120 = .ok (.imul, 1) := by decide +kernel
theorem dX9_find_121 : decode cX9_find 121 = .ok (.iconst 1, 1) := by decide +kernel
theorem dX9_find_122 : decode cX9_find 122 = .ok (.iadd, 1) := by decide +kernel
theorem dX9_find_123 : decode cX9_find 123 = .ok (.iaload, 1) := by decide +kernel
theorem dX9_find_124 : decode cX9_find 124 = .ok (.aload_n 0, 1) := by decide +kernel
theorem dX9_find_125 : decode cX9_find 125 = .ok (.getfield 3, 3) := by decide +kernel
theorem dX9_find_128 : decode cX9_find 128 = .ok (.getfield 75, 3) := by decide +kernel
theorem dX9_find_131 : decode cX9_find 131 = .ok (.iconst 4, 1) := by decide +kernel
theorem dX9_find_132 : decode cX9_find 132 = .ok (.iload_n 2, 1) := by decide +kernel
theorem dX9_find_133 : decode cX9_find 133 = .ok (.imul, 1) := by decide +kernel
theorem dX9_find_134 : decode cX9_find 134 = .ok (.iaload, 1) := by decide +kernel
theorem dX9_find_135 : decode cX9_find 135 = .ok (.aload_n 0, 1) := by decide +kernel
theorem dX9_find_136 : decode cX9_find 136 = .ok (.iload_n 2, 1) := by decide +kernel
theorem dX9_find_137 : decode cX9_find 137 = .ok (.invokevirtual 85, 3) := by decide +kernel
theorem dX9_find_140 : decode cX9_find 140 = .ok (.invokevirtual 89, 3) := by decide +kernel
theorem dX9_find_143 : decode cX9_find 143 = .ok (.ior, 1) := by decide +kernel
theorem dX9_find_144 : decode cX9_find 144 = .ok (.ior, 1) := by decide +kernel
theorem dX9_find_145 : decode cX9_find 145 = .ok (.istore_n 1, 1) := by decide +kernel
theorem dX9_find_146 : decode cX9_find 146 = .ok (.iinc 2 1, 3) := by decide +kernel
theorem dX9_find_149 : decode cX9_find 149 = .ok (.goto (-93), 3) := by decide +kernel
theorem dX9_find_152 : decode cX9_find 152 = .ok (.goto (-104), 3) := by decide +kernel
theorem dX9_find_155 : decode cX9_find 155 = .ok (.return_, 1) := by decide +kernel
theorem dX9_relax_0 : decode cX9_relax 0 = .ok (.iconst 0, 1) := by decide +kernel
theorem dX9_relax_1 : decode cX9_relax 1 = .ok (.istore 4, 2) := by decide +kernel
theorem dX9_relax_3 : decode cX9_relax 3 = .ok (.iconst 0, 1) := by decide +kernel
theorem dX9_relax_4 : decode cX9_relax 4 = .ok (.istore 5, 2) := by decide +kernel
theorem dX9_relax_6 : decode cX9_relax 6 = .ok (.iload 5, 2) := by decide +kernel
theorem dX9_relax_8 : decode cX9_relax 8 = .ok (.aload_n 0, 1) := by decide +kernel
theorem dX9_relax_9 : decode cX9_relax 9 = .ok (.getfield 3, 3) := by decide +kernel
theorem dX9_relax_12 : decode cX9_relax 12 = .ok (.getfield 93, 3) := by decide +kernel
theorem dX9_relax_15 : decode cX9_relax 15 = .ok (.if_icmp .ge 82, 3) := by decide +kernel
theorem dX9_relax_18 : decode cX9_relax 18 = .ok (.iload_n 3, 1) := by decide +kernel
theorem dX9_relax_19 : decode cX9_relax 19 = .ok (.aload_n 0, 1) := by decide +kernel
theorem dX9_relax_20 : decode cX9_relax 20 = .ok (.getfield 3, 3) := by decide +kernel
theorem dX9_relax_23 : decode cX9_relax 23 = .ok (.getfield 78, 3) := by decide +kernel
theorem dX9_relax_26 : decode cX9_relax 26 = .ok (.bipush 8, 2) := by decide +kernel
theorem dX9_relax_28 : decode cX9_relax 28 = .ok (.iload_n 2, 1) := by decide +kernel
theorem dX9_relax_29 : decode cX9_relax 29 = .ok (.imul, 1) := by decide +kernel
theorem dX9_relax_30 : decode cX9_relax 30 = .ok (.iload 5, 2) := by decide +kernel
theorem dX9_relax_32 : decode cX9_relax 32 = .ok (.iadd, 1) := by decide +kernel
theorem dX9_relax_33 : decode cX9_relax 33 = .ok (.iaload, 1) := by decide +kernel
theorem dX9_relax_34 : decode cX9_relax 34 = .ok (.iadd, 1) := by decide +kernel
theorem dX9_relax_35 : decode cX9_relax 35 = .ok (.aload_n 0, 1) := by decide +kernel
theorem dX9_relax_36 : decode cX9_relax 36 = .ok (.getfield 3, 3) := by decide +kernel
theorem dX9_relax_39 : decode cX9_relax 39 = .ok (.getfield 78, 3) := by decide +kernel
theorem dX9_relax_42 : decode cX9_relax 42 = .ok (.bipush 8, 2) := by decide +kernel
theorem dX9_relax_44 : decode cX9_relax 44 = .ok (.iload_n 1, 1) := by decide +kernel
theorem dX9_relax_45 : decode cX9_relax 45 = .ok (.imul, 1) := by decide +kernel
theorem dX9_relax_46 : decode cX9_relax 46 = .ok (.iload 5, 2) := by decide +kernel
theorem dX9_relax_48 : decode cX9_relax 48 = .ok (.iadd, 1) := by decide +kernel
theorem dX9_relax_49 : decode cX9_relax 49 = .ok (.iaload, 1) := by decide +kernel
theorem dX9_relax_50 : decode cX9_relax 50 = .ok (.if_icmp .lt 6, 3) := by decide +kernel
theorem dX9_relax_53 : decode cX9_relax 53 = .ok (.goto 38, 3) := by decide +kernel
theorem dX9_relax_56 : decode cX9_relax 56 = .ok (.aload_n 0, 1) := by decide +kernel
theorem dX9_relax_57 : decode cX9_relax 57 = .ok (.getfield 3, 3) := by decide +kernel
theorem dX9_relax_60 : decode cX9_relax 60 = .ok (.getfield 78, 3) := by decide +kernel
theorem dX9_relax_63 : decode cX9_relax 63 = .ok (.bipush 8, 2) := by decide +kernel
theorem dX9_relax_65 : decode cX9_relax 65 = .ok (.iload_n 1, 1) := by decide +kernel
theorem dX9_relax_66 : decode cX9_relax 66 = .ok (.imul, 1) := by decide +kernel
theorem dX9_relax_67 : decode cX9_relax 67 = .ok (.iload 5, 2) := by decide +kernel
theorem dX9_relax_69 : decode cX9_relax 69 = .ok (.iadd, 1) := by decide +kernel
theorem dX9_relax_70 : decode cX9_relax 70 = .ok (.iload_n 3, 1) := by decide +kernel
theorem dX9_relax_71 : decode cX9_relax 71 = .ok (.aload_n 0, 1) := by decide +kernel
theorem dX9_relax_72 : decode cX9_relax 72 = .ok (.getfield 3, 3) := by decide +kernel
theorem dX9_relax_75 : decode cX9_relax 75 = .ok (.getfield 78, 3) := by decide +kernel
theorem dX9_relax_78 : decode cX9_relax 78 = .ok (.bipush 8, 2) := by decide +kernel
theorem dX9_relax_80 : decode cX9_relax 80 = .ok (.iload_n 2, 1) := by decide +kernel
theorem dX9_relax_81 : decode cX9_relax 81 = .ok (.imul, 1) := by decide +kernel
theorem dX9_relax_82 : decode cX9_relax 82 = .ok (.iload 5, 2) := by decide +kernel
theorem dX9_relax_84 : decode cX9_relax 84 = .ok (.iadd, 1) := by decide +kernel
theorem dX9_relax_85 : decode cX9_relax 85 = .ok (.iaload, 1) := by decide +kernel
theorem dX9_relax_86 : decode cX9_relax 86 = .ok (.iadd, 1) := by decide +kernel
theorem dX9_relax_87 : decode cX9_relax 87 = .ok (.iastore, 1) := by decide +kernel
theorem dX9_relax_88 : decode cX9_relax 88 = .ok (.iconst 1, 1) := by decide +kernel
theorem dX9_relax_89 : decode cX9_relax 89 = .ok (.istore 4, 2) := by decide +kernel
theorem dX9_relax_91 : decode cX9_relax 91 = .ok (.iinc 5 1, 3) := by decide +kernel
theorem dX9_relax_94 : decode cX9_relax 94 = .ok (.goto (-88), 3) := by decide +kernel
theorem dX9_relax_97 : decode cX9_relax 97 = .ok (.iload 4, 2) := by decide +kernel
theorem dX9_relax_99 : decode cX9_relax 99 = .ok (.ireturn, 1) := by decide +kernel
theorem dX9_many_0 : decode cX9_many 0 = .ok (.iconst 0, 1) := by decide +kernel
theorem dX9_many_1 : decode cX9_many 1 = .ok (.istore_n 2, 1) := by decide +kernel
theorem dX9_many_2 : decode cX9_many 2 = .ok (.iconst 0, 1) := by decide +kernel
theorem dX9_many_3 : decode cX9_many 3 = .ok (.istore_n 3, 1) := by decide +kernel
theorem dX9_many_4 : decode cX9_many 4 = .ok (.iload_n 3, 1) := by decide +kernel
theorem dX9_many_5 : decode cX9_many 5 = .ok (.aload_n 0, 1) := by decide +kernel
theorem dX9_many_6 : decode cX9_many 6 = .ok (.getfield 3, 3) := by decide +kernel
theorem dX9_many_9 : decode cX9_many 9 = .ok (.getfield 96, 3) := by decide +kernel
theorem dX9_many_12 : decode cX9_many 12 = .ok (.if_icmp .ge 27, 3) := by decide +kernel
theorem dX9_many_15 : decode cX9_many 15 = .ok (.iload_n 2, 1) := by decide +kernel
theorem dX9_many_16 : decode cX9_many 16 = .ok (.aload_n 0, 1) := by decide +kernel
theorem dX9_many_17 : decode cX9_many 17 = .ok (.getfield 28, 3) := by decide +kernel
theorem dX9_many_20 : decode cX9_many 20 = .ok (.iload_n 3, 1) := by decide +kernel
theorem dX9_many_21 : decode cX9_many 21 = .ok (.iaload, 1) := by decide +kernel
theorem dX9_many_22 : decode cX9_many 22 = .ok (.iload_n 1, 1) := by decide +kernel
theorem dX9_many_23 : decode cX9_many 23 = .ok (.if_icmp .ne 7, 3) := by decide +kernel
theorem dX9_many_26 : decode cX9_many 26 = .ok (.iconst 1, 1) := by decide +kernel
theorem dX9_many_27 : decode cX9_many 27 = .ok (.goto 4, 3) := by decide +kernel
theorem dX9_many_30 : decode cX9_many 30 = .ok (.iconst 0, 1) := by decide +kernel
theorem dX9_many_31 : decode cX9_many 31 = .ok (.iadd, 1) := by decide +kernel
theorem dX9_many_32 : decode cX9_many 32 = .ok (.istore_n 2, 1) := by decide +kernel
theorem dX9_many_33 : decode cX9_many 33 = .ok (.iinc 3 1, 3) := by decide +kernel
theorem dX9_many_36 : decode cX9_many 36 = .ok (.goto (-32), 3) := by decide +kernel
theorem dX9_many_39 : decode cX9_many 39 = .ok (.iload_n 2, 1) := by decide +kernel
theorem dX9_many_40 : decode cX9_many 40 = .ok (.ireturn, 1) := by decide +kernel
theorem dX9_placeOf_0 : decode cX9_placeOf 0 = .ok (.iconst 0, 1) := by decide +kernel
theorem dX9_placeOf_1 : decode cX9_placeOf 1 = .ok (.istore_n 3, 1) := by decide +kernel
theorem dX9_placeOf_2 : decode cX9_placeOf 2 = .ok (.iload_n 3, 1) := by decide +kernel
theorem dX9_placeOf_3 : decode cX9_placeOf 3 = .ok (.aload_n 0, 1) := by decide +kernel
theorem dX9_placeOf_4 : decode cX9_placeOf 4 = .ok (.getfield 40, 3) := by decide +kernel
theorem dX9_placeOf_7 : decode cX9_placeOf 7 = .ok (.iload_n 2, 1) := by decide +kernel
theorem dX9_placeOf_8 : decode cX9_placeOf 8 = .ok (.iaload, 1) := by decide +kernel
theorem dX9_placeOf_9 : decode cX9_placeOf 9 = .ok (.if_icmp .ge 26, 3) := by decide +kernel
theorem dX9_placeOf_12 : decode cX9_placeOf 12 = .ok (.aload_n 0, 1) := by decide +kernel
theorem dX9_placeOf_13 : decode cX9_placeOf 13 = .ok (.getfield 37, 3) := by decide +kernel
theorem dX9_placeOf_16 : decode cX9_placeOf 16 = .ok (.bipush 10, 2) := by decide +kernel
theorem dX9_placeOf_18 : decode cX9_placeOf 18 = .ok (.iload_n 2, 1) := by decide +kernel
theorem dX9_placeOf_19 : decode cX9_placeOf 19 = .ok (.imul, 1) := by decide +kernel
theorem dX9_placeOf_20 : decode cX9_placeOf 20 = .ok (.iload_n 3, 1) := by decide +kernel
theorem dX9_placeOf_21 : decode cX9_placeOf 21 = .ok (.iadd, 1) := by decide +kernel
theorem dX9_placeOf_22 : decode cX9_placeOf 22 = .ok (.iaload, 1) := by decide +kernel
theorem dX9_placeOf_23 : decode cX9_placeOf 23 = .ok (.iload_n 1, 1) := by decide +kernel
theorem dX9_placeOf_24 : decode cX9_placeOf 24 = .ok (.if_icmp .ne 5, 3) := by decide +kernel
theorem dX9_placeOf_27 : decode cX9_placeOf 27 = .ok (.iload_n 3, 1) := by decide +kernel
theorem dX9_placeOf_28 : decode cX9_placeOf 28 = .ok (.ireturn, 1) := by decide +kernel
theorem dX9_placeOf_29 : decode cX9_placeOf 29 = .ok (.iinc 3 1, 3) := by decide +kernel
theorem dX9_placeOf_32 : decode cX9_placeOf 32 = .ok (.goto (-30), 3) := by decide +kernel
theorem dX9_placeOf_35 : decode cX9_placeOf 35 = .ok (.iconst (-1), 1) := by decide +kernel
theorem dX9_placeOf_36 : decode cX9_placeOf 36 = .ok (.ireturn, 1) := by decide +kernel
theorem dX9_strike_0 : decode cX9_strike 0 = .ok (.aload_n 0, 1) := by decide +kernel
theorem dX9_strike_1 : decode cX9_strike 1 = .ok (.getfield 40, 3) := by decide +kernel
theorem dX9_strike_4 : decode cX9_strike 4 = .ok (.iload_n 1, 1) := by decide +kernel
theorem dX9_strike_5 : decode cX9_strike 5 = .ok (.dup2, 1) := by decide +kernel
theorem dX9_strike_6 : decode cX9_strike 6 = .ok (.iaload, 1) := by decide +kernel
theorem dX9_strike_7 : decode cX9_strike 7 = .ok (.iconst 1, 1) := by decide +kernel
theorem dX9_strike_8 : decode cX9_strike 8 = .ok (.isub, 1) := by decide +kernel
theorem dX9_strike_9 : decode cX9_strike 9 = .ok (.iastore, 1) := by decide +kernel
theorem dX9_strike_10 : decode cX9_strike 10 = .ok (.bipush 10, 2) := by decide +kernel
theorem dX9_strike_12 : decode cX9_strike 12 = .ok (.iload_n 1, 1) := by decide +kernel
theorem dX9_strike_13 : decode cX9_strike 13 = .ok (.imul, 1) := by decide +kernel
theorem dX9_strike_14 : decode cX9_strike 14 = .ok (.iload_n 2, 1) := by decide +kernel
theorem dX9_strike_15 : decode cX9_strike 15 = .ok (.iadd, 1) := by decide +kernel
theorem dX9_strike_16 : decode cX9_strike 16 = .ok (.istore_n 3, 1) := by decide +kernel
theorem dX9_strike_17 : decode cX9_strike 17 = .ok (.iload_n 3, 1) := by decide +kernel
theorem dX9_strike_18 : decode cX9_strike 18 = .ok (.bipush 10, 2) := by decide +kernel
theorem dX9_strike_20 : decode cX9_strike 20 = .ok (.iload_n 1, 1) := by decide +kernel
theorem dX9_strike_21 : decode cX9_strike 21 = .ok (.imul, 1) := by decide +kernel
theorem dX9_strike_22 : decode cX9_strike 22 = .ok (.aload_n 0, 1) := by decide +kernel
theorem dX9_strike_23 : decode cX9_strike 23 = .ok (.getfield 40, 3) := by decide +kernel
theorem dX9_strike_26 : decode cX9_strike 26 = .ok (.iload_n 1, 1) := by decide +kernel
theorem dX9_strike_27 : decode cX9_strike 27 = .ok (.iaload, 1) := by decide +kernel
theorem dX9_strike_28 : decode cX9_strike 28 = .ok (.iadd, 1) := by decide +kernel
theorem dX9_strike_29 : decode cX9_strike 29 = .ok (.if_icmp .ge 23, 3) := by decide +kernel
theorem dX9_strike_32 : decode cX9_strike 32 = .ok (.aload_n 0, 1) := by decide +kernel
theorem dX9_strike_33 : decode cX9_strike 33 = .ok (.getfield 37, 3) := by decide +kernel
theorem dX9_strike_36 : decode cX9_strike 36 = .ok (.iload_n 3, 1) := by decide +kernel
theorem dX9_strike_37 : decode cX9_strike 37 = .ok (.aload_n 0, 1) := by decide +kernel
theorem dX9_strike_38 : decode cX9_strike 38 = .ok (.getfield 37, 3) := by decide +kernel
theorem dX9_strike_41 : decode cX9_strike 41 = .ok (.iload_n 3, 1) := by decide +kernel
theorem dX9_strike_42 : decode cX9_strike 42 = .ok (.iconst 1, 1) := by decide +kernel
theorem dX9_strike_43 : decode cX9_strike 43 = .ok (.iadd, 1) := by decide +kernel
theorem dX9_strike_44 : decode cX9_strike 44 = .ok (.iaload, 1) := by decide +kernel
theorem dX9_strike_45 : decode cX9_strike 45 = .ok (.iastore, 1) := by decide +kernel
theorem dX9_strike_46 : decode cX9_strike 46 = .ok (.iinc 3 1, 3) := by decide +kernel
theorem dX9_strike_49 : decode cX9_strike 49 = .ok (.goto (-32), 3) := by decide +kernel
theorem dX9_strike_52 : decode cX9_strike 52 = .ok (.return_, 1) := by decide +kernel
theorem dX9_pass_0 : decode cX9_pass 0 = .ok (.aload_n 0, 1) := by decide +kernel
theorem dX9_pass_1 : decode cX9_pass 1 = .ok (.getfield 65, 3) := by decide +kernel
theorem dX9_pass_4 : decode cX9_pass 4 = .ok (.istore_n 1, 1) := by decide +kernel
theorem dX9_pass_5 : decode cX9_pass 5 = .ok (.aload_n 0, 1) := by decide +kernel
theorem dX9_pass_6 : decode cX9_pass 6 = .ok (.getfield 3, 3) := by decide +kernel
theorem dX9_pass_9 : decode cX9_pass 9 = .ok (.getfield 99, 3) := by decide +kernel
theorem dX9_pass_12 : decode cX9_pass 12 = .ok (.aload_n 0, 1) := by decide +kernel
theorem dX9_pass_13 : decode cX9_pass 13 = .ok (.getfield 58, 3) := by decide +kernel
theorem dX9_pass_16 : decode cX9_pass 16 = .ok (.bipush 7, 2) := by decide +kernel
theorem dX9_pass_18 : decode cX9_pass 18 = .ok (.irem, 1) := by decide +kernel
theorem dX9_pass_19 : decode cX9_pass 19 = .ok (.iaload, 1) := by decide +kernel
theorem dX9_pass_20 : decode cX9_pass 20 = .ok (.istore_n 2, 1) := by decide +kernel
theorem dX9_pass_21 : decode cX9_pass 21 = .ok (.iconst 0, 1) := by decide +kernel
theorem dX9_pass_22 : decode cX9_pass 22 = .ok (.istore_n 3, 1) := by decide +kernel
theorem dX9_pass_23 : decode cX9_pass 23 = .ok (.iload_n 3, 1) := by decide +kernel
theorem dX9_pass_24 : decode cX9_pass 24 = .ok (.aload_n 0, 1) := by decide +kernel
theorem dX9_pass_25 : decode cX9_pass 25 = .ok (.getfield 3, 3) := by decide +kernel
theorem dX9_pass_28 : decode cX9_pass 28 = .ok (.getfield 82, 3) := by decide +kernel
theorem dX9_pass_31 : decode cX9_pass 31 = .ok (.if_icmp .ge 63, 3) := by decide +kernel
theorem dX9_pass_34 : decode cX9_pass 34 = .ok (.aload_n 0, 1) := by decide +kernel
theorem dX9_pass_35 : decode cX9_pass 35 = .ok (.getfield 15, 3) := by decide +kernel
theorem dX9_pass_38 : decode cX9_pass 38 = .ok (.iload_n 3, 1) := by decide +kernel
theorem dX9_pass_39 : decode cX9_pass 39 = .ok (.iload_n 2, 1) := by decide +kernel
theorem dX9_pass_40 : decode cX9_pass 40 = .ok (.ifCond .le 35, 3) := by decide +kernel
theorem dX9_pass_43 : decode cX9_pass 43 = .ok (.bipush 20, 2) := by decide +kernel
theorem dX9_pass_45 : decode cX9_pass 45 = .ok (.aload_n 0, 1) := by decide +kernel
theorem dX9_pass_46 : decode cX9_pass 46 = .ok (.getfield 15, 3) := by decide +kernel
theorem dX9_pass_49 : decode cX9_pass 49 = .ok (.iload_n 3, 1) := by decide +kernel
theorem dX9_pass_50 : decode cX9_pass 50 = .ok (.iaload, 1) := by decide +kernel
theorem dX9_pass_51 : decode cX9_pass 51 = .ok (.iload_n 2, 1) := by decide +kernel
theorem dX9_pass_52 : decode cX9_pass 52 = .ok (.aload_n 0, 1) := by decide +kernel
theorem dX9_pass_53 : decode cX9_pass 53 = .ok (.getfield 3, 3) := by decide +kernel
theorem dX9_pass_56 : decode cX9_pass 56 = .ok (.getfield 75, 3) := by decide +kernel
theorem dX9_pass_59 : decode cX9_pass 59 = .ok (.iconst 4, 1) := by decide +kernel
theorem dX9_pass_60 : decode cX9_pass 60 = .ok (.iload_n 3, 1) := by decide +kernel
theorem dX9_pass_61 : decode cX9_pass 61 = .ok (.imul, 1) := by decide +kernel
theorem dX9_pass_62 : decode cX9_pass 62 = .ok (.iconst 3, 1) := by decide +kernel
theorem dX9_pass_63 : decode cX9_pass 63 = .ok (.iadd, 1) := by decide +kernel
theorem dX9_pass_64 : decode cX9_pass 64 = .ok (.iaload, 1) := by decide +kernel
theorem dX9_pass_65 : decode cX9_pass 65 = .ok (.imul, 1) := by decide +kernel
theorem dX9_pass_66 : decode cX9_pass 66 = .ok (.iconst 4, 1) := by decide +kernel
theorem dX9_pass_67 : decode cX9_pass 67 = .ok (.idiv, 1) := by decide +kernel
theorem dX9_pass_68 : decode cX9_pass 68 = .ok (.iadd, 1) := by decide +kernel
theorem dX9_pass_69 : decode cX9_pass 69 = .ok (.invokestatic 102, 3) := by decide +kernel
theorem dX9_pass_72 : decode cX9_pass 72 = .ok (.goto 15, 3) := by decide +kernel
theorem dX9_pass_75 : decode cX9_pass 75 = .ok (.iconst 0, 1) := by decide +kernel
theorem dX9_pass_76 : decode cX9_pass 76 = .ok (.aload_n 0, 1) := by decide +kernel
theorem dX9_pass_77 : decode cX9_pass 77 = .ok (.getfield 15, 3) := by decide +kernel
theorem dX9_pass_80 : decode cX9_pass 80 = .ok (.iload_n 3, 1) := by decide +kernel
theorem dX9_pass_81 : decode cX9_pass 81 = .ok (.iaload, 1) := by decide +kernel
theorem dX9_pass_82 : decode cX9_pass 82 = .ok (.iconst 2, 1) := by decide +kernel
theorem dX9_pass_83 : decode cX9_pass 83 = .ok (.isub, 1) := by decide +kernel
theorem dX9_pass_84 : decode cX9_pass 84 = .ok (.invokestatic 108, 3) := by decide +kernel
theorem dX9_pass_87 : decode cX9_pass 87 = .ok (.iastore, 1) := by decide +kernel
theorem dX9_pass_88 : decode cX9_pass 88 = .ok (.iinc 3 1, 3) := by decide +kernel
theorem dX9_pass_91 : decode cX9_pass 91 = .ok (.goto (-68), 3) := by decide +kernel
theorem dX9_pass_94 : decode cX9_pass 94 = .ok (.aload_n 0, 1) := by decide +kernel
theorem dX9_pass_95 : decode cX9_pass 95 = .ok (.invokevirtual 111, 3) := by decide +kernel
theorem dX9_pass_98 : decode cX9_pass 98 = .ok (.iconst 0, 1) := by decide +kernel
theorem dX9_pass_99 : decode cX9_pass 99 = .ok (.istore_n 3, 1) := by decide +kernel
theorem dX9_pass_100 : decode cX9_pass 100 = .ok (.aload_n 0, 1) := by decide +kernel
theorem dX9_pass_101 : decode cX9_pass 101 = .ok (.iconst 0, 1) := by decide +kernel
theorem dX9_pass_102 : decode cX9_pass 102 = .ok (.putfield 62, 3) := by decide +kernel
theorem dX9_pass_105 : decode cX9_pass 105 = .ok (.iconst 0, 1) := by decide +kernel
theorem dX9_pass_106 : decode cX9_pass 106 = .ok (.istore 4, 2) := by decide +kernel
theorem dX9_pass_108 : decode cX9_pass 108 = .ok (.iload 4, 2) := by decide +kernel
theorem dX9_pass_110 : decode cX9_pass 110 = .ok (.aload_n 0, 1) := by decide +kernel
theorem dX9_pass_111 : decode cX9_pass 111 = .ok (.getfield 68, 3) := by decide +kernel
theorem dX9_pass_114 : decode cX9_pass 114 = .ok (.if_icmp .ge 117, 3) := by decide +kernel
theorem dX9_pass_117 : decode cX9_pass 117 = .ok (.aload_n 0, 1) := by decide +kernel
theorem dX9_pass_118 : decode cX9_pass 118 = .ok (.getfield 19, 3) := by decide +kernel
theorem dX9_pass_121 : decode cX9_pass 121 = .ok (.iload 4, 2) := by decide +kernel
theorem dX9_pass_123 : decode cX9_pass 123 = .ok (.iaload, 1) := by decide +kernel
theorem dX9_pass_124 : decode cX9_pass 124 = .ok (.istore 5, 2) := by decide +kernel
theorem dX9_pass_126 : decode cX9_pass 126 = .ok (.aload_n 0, 1) := by decide +kernel
theorem dX9_pass_127 : decode cX9_pass 127 = .ok (.getfield 62, 3) := by decide +kernel
theorem dX9_pass_130 : decode cX9_pass 130 = .ok (.aload_n 0, 1) := by decide +kernel
theorem dX9_pass_131 : decode cX9_pass 131 = .ok (.getfield 3, 3) := by decide +kernel
theorem dX9_pass_134 : decode cX9_pass 134 = .ok (.getfield 78, 3) := by decide +kernel
theorem dX9_pass_137 : decode cX9_pass 137 = .ok (.bipush 8, 2) := by decide +kernel
theorem dX9_pass_139 : decode cX9_pass 139 = .ok (.iload_n 3, 1) := by decide +kernel
theorem dX9_pass_140 : decode cX9_pass 140 = .ok (.imul, 1) := by decide +kernel
theorem dX9_pass_141 : decode cX9_pass 141 = .ok (.iload 5, 2) := by decide +kernel
theorem dX9_pass_143 : decode cX9_pass 143 = .ok (.iadd, 1) := by decide +kernel
theorem dX9_pass_144 : decode cX9_pass 144 = .ok (.iaload, 1) := by decide +kernel
theorem dX9_pass_145 : decode cX9_pass 145 = .ok (.iadd, 1) := by decide +kernel
theorem dX9_pass_146 : decode cX9_pass 146 = .ok (.iconst 5, 1) := by decide +kernel
theorem dX9_pass_147 : decode cX9_pass 147 = .ok (.iadd, 1) := by decide +kernel
theorem dX9_pass_148 : decode cX9_pass 148 = .ok (.aload_n 0, 1) := by decide +kernel
theorem dX9_pass_149 : decode cX9_pass 149 = .ok (.getfield 3, 3) := by decide +kernel
theorem dX9_pass_152 : decode cX9_pass 152 = .ok (.getfield 78, 3) := by decide +kernel
theorem dX9_pass_155 : decode cX9_pass 155 = .ok (.bipush 8, 2) := by decide +kernel
theorem dX9_pass_157 : decode cX9_pass 157 = .ok (.iload 5, 2) := by decide +kernel
theorem dX9_pass_159 : decode cX9_pass 159 = .ok (.imul, 1) := by decide +kernel
theorem dX9_pass_160 : decode cX9_pass 160 = .ok (.iaload, 1) := by decide +kernel
theorem dX9_pass_161 : decode cX9_pass 161 = .ok (.iadd, 1) := by decide +kernel
theorem dX9_pass_162 : decode cX9_pass 162 = .ok (.istore 6, 2) := by decide +kernel
theorem dX9_pass_164 : decode cX9_pass 164 = .ok (.iload 6, 2) := by decide +kernel
theorem dX9_pass_166 : decode cX9_pass 166 = .ok (.aload_n 0, 1) := by decide +kernel
theorem dX9_pass_167 : decode cX9_pass 167 = .ok (.getfield 3, 3) := by decide +kernel
theorem dX9_pass_170 : decode cX9_pass 170 = .ok (.getfield 114, 3) := by decide +kernel
theorem dX9_pass_173 : decode cX9_pass 173 = .ok (.if_icmp .le 17, 3) := by decide +kernel
theorem dX9_pass_176 : decode cX9_pass 176 = .ok (.aload_n 0, 1) := by decide +kernel
theorem dX9_pass_177 : decode cX9_pass 177 = .ok (.getfield 25, 3) := by decide +kernel
theorem dX9_pass_180 : decode cX9_pass 180 = .ok (.iload 5, 2) := by decide +kernel
theorem dX9_pass_182 : decode cX9_pass 182 = .ok (.dup2, 1) := by decide +kernel
theorem dX9_pass_183 : decode cX9_pass 183 = .ok (.iaload, 1) := by decide +kernel
theorem dX9_pass_184 : decode cX9_pass 184 = .ok (.iconst 1, 1) := by decide +kernel
theorem dX9_pass_185 : decode cX9_pass 185 = .ok (.iadd, 1) := by decide +kernel
theorem dX9_pass_186 : decode cX9_pass 186 = .ok (.iastore, 1) := by decide +kernel
theorem dX9_pass_187 : decode cX9_pass 187 = .ok (.goto 38, 3) := by decide +kernel
theorem dX9_pass_190 : decode cX9_pass 190 = .ok (.aload_n 0, 1) := by decide +kernel
theorem dX9_pass_191 : decode cX9_pass 191 = .ok (.dup, 1) := by decide +kernel
theorem dX9_pass_192 : decode cX9_pass 192 = .ok (.getfield 62, 3) := by decide +kernel
theorem dX9_pass_195 : decode cX9_pass 195 = .ok (.aload_n 0, 1) := by decide +kernel
theorem dX9_pass_196 : decode cX9_pass 196 = .ok (.getfield 3, 3) := by decide +kernel
theorem dX9_pass_199 : decode cX9_pass 199 = .ok (.getfield 78, 3) := by decide +kernel
theorem dX9_pass_202 : decode cX9_pass 202 = .ok (.bipush 8, 2) := by decide +kernel
theorem dX9_pass_204 : decode cX9_pass 204 = .ok (.iload_n 3, 1) := by decide +kernel
theorem dX9_pass_205 : decode cX9_pass 205 = .ok (.imul, 1) := by decide +kernel
theorem dX9_pass_206 : decode cX9_pass 206 = .ok (.iload 5, 2) := by decide +kernel
theorem dX9_pass_208 : decode cX9_pass 208 = .ok (.iadd, 1) := by decide +kernel
theorem dX9_pass_209 : decode cX9_pass 209 = .ok (.iaload, 1) := by decide +kernel
theorem dX9_pass_210 : decode cX9_pass 210 = .ok (.iconst 5, 1) := by decide +kernel
theorem dX9_pass_211 : decode cX9_pass 211 = .ok (.iadd, 1) := by decide +kernel
theorem dX9_pass_212 : decode cX9_pass 212 = .ok (.iadd, 1) := by decide +kernel
theorem dX9_pass_213 : decode cX9_pass 213 = .ok (.putfield 62, 3) := by decide +kernel
theorem dX9_pass_216 : decode cX9_pass 216 = .ok (.iload 5, 2) := by decide +kernel
theorem dX9_pass_218 : decode cX9_pass 218 = .ok (.istore_n 3, 1) := by decide +kernel
theorem dX9_pass_219 : decode cX9_pass 219 = .ok (.aload_n 0, 1) := by decide +kernel
theorem dX9_pass_220 : decode cX9_pass 220 = .ok (.iload 5, 2) := by decide +kernel
theorem dX9_pass_222 : decode cX9_pass 222 = .ok (.invokevirtual 117, 3) := by decide +kernel
theorem dX9_pass_225 : decode cX9_pass 225 = .ok (.iinc 4 1, 3) := by decide +kernel
theorem dX9_pass_228 : decode cX9_pass 228 = .ok (.goto (-120), 3) := by decide +kernel
theorem dX9_pass_231 : decode cX9_pass 231 = .ok (.aload_n 0, 1) := by decide +kernel
theorem dX9_pass_232 : decode cX9_pass 232 = .ok (.dup, 1) := by decide +kernel
theorem dX9_pass_233 : decode cX9_pass 233 = .ok (.getfield 62, 3) := by decide +kernel
theorem dX9_pass_236 : decode cX9_pass 236 = .ok (.aload_n 0, 1) := by decide +kernel
theorem dX9_pass_237 : decode cX9_pass 237 = .ok (.getfield 3, 3) := by decide +kernel
theorem dX9_pass_240 : decode cX9_pass 240 = .ok (.getfield 78, 3) := by decide +kernel
theorem dX9_pass_243 : decode cX9_pass 243 = .ok (.bipush 8, 2) := by decide +kernel
theorem dX9_pass_245 : decode cX9_pass 245 = .ok (.iload_n 3, 1) := by decide +kernel
theorem dX9_pass_246 : decode cX9_pass 246 = .ok (.imul, 1) := by decide +kernel
theorem dX9_pass_247 : decode cX9_pass 247 = .ok (.iaload, 1) := by decide +kernel
theorem dX9_pass_248 : decode cX9_pass 248 = .ok (.iadd, 1) := by decide +kernel
theorem dX9_pass_249 : decode cX9_pass 249 = .ok (.putfield 62, 3) := by decide +kernel
theorem dX9_pass_252 : decode cX9_pass 252 = .ok (.aload_n 0, 1) := by decide +kernel
theorem dX9_pass_253 : decode cX9_pass 253 = .ok (.dup, 1) := by decide +kernel
theorem dX9_pass_254 : decode cX9_pass 254 = .ok (.getfield 58, 3) := by decide +kernel
theorem dX9_pass_257 : decode cX9_pass 257 = .ok (.iconst 1, 1) := by decide +kernel
theorem dX9_pass_258 : decode cX9_pass 258 = .ok (.iadd, 1) := by decide +kernel
theorem dX9_pass_259 : decode cX9_pass 259 = .ok (.putfield 58, 3) := by decide +kernel
theorem dX9_pass_262 : decode cX9_pass 262 = .ok (.aload_n 0, 1) := by decide +kernel
theorem dX9_pass_263 : decode cX9_pass 263 = .ok (.getfield 65, 3) := by decide +kernel
theorem dX9_pass_266 : decode cX9_pass 266 = .ok (.iload_n 1, 1) := by decide +kernel
theorem dX9_pass_267 : decode cX9_pass 267 = .ok (.isub, 1) := by decide +kernel
theorem dX9_pass_268 : decode cX9_pass 268 = .ok (.ireturn, 1) := by decide +kernel
theorem dX9_serve_0 : decode cX9_serve 0 = .ok (.aload_n 0, 1) := by decide +kernel
theorem dX9_serve_1 : decode cX9_serve 1 = .ok (.getfield 22, 3) := by decide +kernel
theorem dX9_serve_4 : decode cX9_serve 4 = .ok (.iload_n 1, 1) := by decide +kernel
theorem dX9_serve_5 : decode cX9_serve 5 = .ok (.dup2, 1) := by decide +kernel
theorem dX9_serve_6 : decode cX9_serve 6 = .ok (.iaload, 1) := by decide +kernel
theorem dX9_serve_7 : decode cX9_serve 7 = .ok (.iconst 1, 1) := by decide +kernel
theorem dX9_serve_8 : decode cX9_serve 8 = .ok (.iadd, 1) := by decide +kernel
theorem dX9_serve_9 : decode cX9_serve 9 = .ok (.iastore, 1) := by decide +kernel
theorem dX9_serve_10 : decode cX9_serve 10 = .ok (.iconst 0, 1) := by decide +kernel
theorem dX9_serve_11 : decode cX9_serve 11 = .ok (.istore_n 2, 1) := by decide +kernel
theorem dX9_serve_12 : decode cX9_serve 12 = .ok (.iload_n 2, 1) := by decide +kernel
theorem dX9_serve_13 : decode cX9_serve 13 = .ok (.aload_n 0, 1) := by decide +kernel
theorem dX9_serve_14 : decode cX9_serve 14 = .ok (.getfield 3, 3) := by decide +kernel
theorem dX9_serve_17 : decode cX9_serve 17 = .ok (.getfield 121, 3) := by decide +kernel
theorem dX9_serve_20 : decode cX9_serve 20 = .ok (.if_icmp .ge 29, 3) := by decide +kernel
theorem dX9_serve_23 : decode cX9_serve 23 = .ok (.aload_n 0, 1) := by decide +kernel
theorem dX9_serve_24 : decode cX9_serve 24 = .ok (.getfield 3, 3) := by decide +kernel
theorem dX9_serve_27 : decode cX9_serve 27 = .ok (.getfield 124, 3) := by decide +kernel
theorem dX9_serve_30 : decode cX9_serve 30 = .ok (.iconst 3, 1) := by decide +kernel
theorem dX9_serve_31 : decode cX9_serve 31 = .ok (.iload_n 2, 1) := by decide +kernel
theorem dX9_serve_32 : decode cX9_serve 32 = .ok (.imul, 1) := by decide +kernel
theorem dX9_serve_33 : decode cX9_serve 33 = .ok (.iaload, 1) := by decide +kernel
theorem dX9_serve_34 : decode cX9_serve 34 = .ok (.iload_n 1, 1) := by decide +kernel
theorem dX9_serve_35 : decode cX9_serve 35 = .ok (.if_icmp .ne 8, 3) := by decide +kernel
theorem dX9_serve_38 : decode cX9_serve 38 = .ok (.aload_n 0, 1) := by decide +kernel
theorem dX9_serve_39 : decode cX9_serve 39 = .ok (.iload_n 2, 1) := by decide +kernel
theorem dX9_serve_40 : decode cX9_serve 40 = .ok (.invokevirtual 127, 3) := by decide +kernel
theorem dX9_serve_43 : decode cX9_serve 43 = .ok (.iinc 2 1, 3) := by decide +kernel
theorem dX9_serve_46 : decode cX9_serve 46 = .ok (.goto (-34), 3) := by decide +kernel
theorem dX9_serve_49 : decode cX9_serve 49 = .ok (.iconst 0, 1) := by decide +kernel
theorem dX9_serve_50 : decode cX9_serve 50 = .ok (.istore_n 2, 1) := by decide +kernel
theorem dX9_serve_51 : decode cX9_serve 51 = .ok (.iload_n 2, 1) := by decide +kernel
theorem dX9_serve_52 : decode cX9_serve 52 = .ok (.aload_n 0, 1) := by decide +kernel
theorem dX9_serve_53 : decode cX9_serve 53 = .ok (.getfield 3, 3) := by decide +kernel
theorem dX9_serve_56 : decode cX9_serve 56 = .ok (.getfield 121, 3) := by decide +kernel
theorem dX9_serve_59 : decode cX9_serve 59 = .ok (.if_icmp .ge 99, 3) := by decide +kernel
theorem dX9_serve_62 : decode cX9_serve 62 = .ok (.iconst 0, 1) := by decide +kernel
theorem dX9_serve_63 : decode cX9_serve 63 = .ok (.istore_n 3, 1) := by decide +kernel
theorem dX9_serve_64 : decode cX9_serve 64 = .ok (.iload_n 3, 1) := by decide +kernel
theorem dX9_serve_65 : decode cX9_serve 65 = .ok (.aload_n 0, 1) := by decide +kernel
theorem dX9_serve_66 : decode cX9_serve 66 = .ok (.getfield 3, 3) := by decide +kernel
theorem dX9_serve_69 : decode cX9_serve 69 = .ok (.getfield 96, 3) := by decide +kernel
theorem dX9_serve_72 : decode cX9_serve 72 = .ok (.if_icmp .ge 80, 3) := by decide +kernel
theorem dX9_serve_75 : decode cX9_serve 75 = .ok (.aload_n 0, 1) := by decide +kernel
theorem dX9_serve_76 : decode cX9_serve 76 = .ok (.getfield 3, 3) := by decide +kernel
theorem dX9_serve_79 : decode cX9_serve 79 = .ok (.getfield 124, 3) := by decide +kernel
theorem dX9_serve_82 : decode cX9_serve 82 = .ok (.iconst 3, 1) := by decide +kernel
theorem dX9_serve_83 : decode cX9_serve 83 = .ok (.iload_n 2, 1) := by decide +kernel
theorem dX9_serve_84 : decode cX9_serve 84 = .ok (.imul, 1) := by decide +kernel
theorem dX9_serve_85 : decode cX9_serve 85 = .ok (.iaload, 1) := by decide +kernel
theorem dX9_serve_86 : decode cX9_serve 86 = .ok (.iload_n 1, 1) := by decide +kernel
theorem dX9_serve_87 : decode cX9_serve 87 = .ok (.if_icmp .ne 65, 3) := by decide +kernel
theorem dX9_serve_90 : decode cX9_serve 90 = .ok (.aload_n 0, 1) := by decide +kernel
theorem dX9_serve_91 : decode cX9_serve 91 = .ok (.getfield 28, 3) := by decide +kernel
theorem dX9_serve_94 : decode cX9_serve 94 = .ok (.iload_n 3, 1) := by decide +kernel
theorem dX9_serve_95 : decode cX9_serve 95 = .ok (.iaload, 1) := by decide +kernel
theorem dX9_serve_96 : decode cX9_serve 96 = .ok (.iconst (-1), 1) := by decide +kernel
theorem dX9_serve_97 : decode cX9_serve 97 = .ok (.if_icmp .ne 49, 3) := by decide +kernel
theorem dX9_serve_100 : decode cX9_serve 100 = .ok (.aload_n 0, 1) := by decide +kernel
theorem dX9_serve_101 : decode cX9_serve 101 = .ok (.getfield 40, 3) := by decide +kernel
theorem dX9_serve_104 : decode cX9_serve 104 = .ok (.iload_n 3, 1) := by decide +kernel
theorem dX9_serve_105 : decode cX9_serve 105 = .ok (.iaload, 1) := by decide +kernel
theorem dX9_serve_106 : decode cX9_serve 106 = .ok (.ifCond .eq 40, 3) := by decide +kernel
theorem dX9_serve_109 : decode cX9_serve 109 = .ok (.aload_n 0, 1) := by decide +kernel
theorem dX9_serve_110 : decode cX9_serve 110 = .ok (.getfield 37, 3) := by decide +kernel
theorem dX9_serve_113 : decode cX9_serve 113 = .ok (.bipush 10, 2) := by decide +kernel
theorem dX9_serve_115 : decode cX9_serve 115 = .ok (.iload_n 3, 1) := by decide +kernel
theorem dX9_serve_116 : decode cX9_serve 116 = .ok (.imul, 1) := by decide +kernel
theorem dX9_serve_117 : decode cX9_serve 117 = .ok (.iaload, 1) := by decide +kernel
theorem dX9_serve_118 : decode cX9_serve 118 = .ok (.iload_n 2, 1) := by decide +kernel
theorem dX9_serve_119 : decode cX9_serve 119 = .ok (.if_icmp .ne 27, 3) := by decide +kernel
theorem dX9_serve_122 : decode cX9_serve 122 = .ok (.aload_n 0, 1) := by decide +kernel
theorem dX9_serve_123 : decode cX9_serve 123 = .ok (.iload_n 2, 1) := by decide +kernel
theorem dX9_serve_124 : decode cX9_serve 124 = .ok (.invokevirtual 130, 3) := by decide +kernel
theorem dX9_serve_127 : decode cX9_serve 127 = .ok (.iconst 3, 1) := by decide +kernel
theorem dX9_serve_128 : decode cX9_serve 128 = .ok (.if_icmp .ne 6, 3) := by decide +kernel
theorem dX9_serve_131 : decode cX9_serve 131 = .ok (.goto 15, 3) := by decide +kernel
theorem dX9_serve_134 : decode cX9_serve 134 = .ok (.aload_n 0, 1) := by decide +kernel
theorem dX9_serve_135 : decode cX9_serve 135 = .ok (.iload_n 3, 1) := by decide +kernel
theorem dX9_serve_136 : decode cX9_serve 136 = .ok (.iconst 0, 1) := by decide +kernel
theorem dX9_serve_137 : decode cX9_serve 137 = .ok (.invokevirtual 133, 3) := by decide +kernel
theorem dX9_serve_140 : decode cX9_serve 140 = .ok (.aload_n 0, 1) := by decide +kernel
theorem dX9_serve_141 : decode cX9_serve 141 = .ok (.iload_n 2, 1) := by decide +kernel
theorem dX9_serve_142 : decode cX9_serve 142 = .ok (.iload_n 3, 1) := by decide +kernel
theorem dX9_serve_143 : decode cX9_serve 143 = .ok (.invokevirtual 137, 3) := by decide +kernel
theorem dX9_serve_146 : decode cX9_serve 146 = .ok (.iinc 3 1, 3) := by decide +kernel
theorem dX9_serve_149 : decode cX9_serve 149 = .ok (.goto (-85), 3) := by decide +kernel
theorem dX9_serve_152 : decode cX9_serve 152 = .ok (.iinc 2 1, 3) := by decide +kernel
theorem dX9_serve_155 : decode cX9_serve 155 = .ok (.goto (-104), 3) := by decide +kernel
theorem dX9_serve_158 : decode cX9_serve 158 = .ok (.iconst 0, 1) := by decide +kernel
theorem dX9_serve_159 : decode cX9_serve 159 = .ok (.istore_n 2, 1) := by decide +kernel
theorem dX9_serve_160 : decode cX9_serve 160 = .ok (.iload_n 2, 1) := by decide +kernel
theorem dX9_serve_161 : decode cX9_serve 161 = .ok (.aload_n 0, 1) := by decide +kernel
theorem dX9_serve_162 : decode cX9_serve 162 = .ok (.getfield 3, 3) := by decide +kernel
theorem dX9_serve_165 : decode cX9_serve 165 = .ok (.getfield 121, 3) := by decide +kernel
theorem dX9_serve_168 : decode cX9_serve 168 = .ok (.if_icmp .ge 38, 3) := by decide +kernel
theorem dX9_serve_171 : decode cX9_serve 171 = .ok (.aload_n 0, 1) := by decide +kernel
theorem dX9_serve_172 : decode cX9_serve 172 = .ok (.getfield 3, 3) := by decide +kernel
theorem dX9_serve_175 : decode cX9_serve 175 = .ok (.getfield 124, 3) := by decide +kernel
theorem dX9_serve_178 : decode cX9_serve 178 = .ok (.iconst 3, 1) := by decide +kernel
theorem dX9_serve_179 : decode cX9_serve 179 = .ok (.iload_n 2, 1) := by decide +kernel
theorem dX9_serve_180 : decode cX9_serve 180 = .ok (.imul, 1) := by decide +kernel
theorem dX9_serve_181 : decode cX9_serve 181 = .ok (.iaload, 1) := by decide +kernel
theorem dX9_serve_182 : decode cX9_serve 182 = .ok (.iload_n 1, 1) := by decide +kernel
theorem dX9_serve_183 : decode cX9_serve 183 = .ok (.if_icmp .ne 17, 3) := by decide +kernel
theorem dX9_serve_186 : decode cX9_serve 186 = .ok (.aload_n 0, 1) := by decide +kernel
theorem dX9_serve_187 : decode cX9_serve 187 = .ok (.iload_n 2, 1) := by decide +kernel
theorem dX9_serve_188 : decode cX9_serve 188 = .ok (.invokevirtual 130, 3) := by decide +kernel
theorem dX9_serve_191 : decode cX9_serve 191 = .ok (.iconst 3, 1) := by decide +kernel
theorem dX9_serve_192 : decode cX9_serve 192 = .ok (.if_icmp .ge 8, 3) := by decide +kernel
theorem dX9_serve_195 : decode cX9_serve 195 = .ok (.aload_n 0, 1) := by decide +kernel
theorem dX9_serve_196 : decode cX9_serve 196 = .ok (.iload_n 2, 1) := by decide +kernel
theorem dX9_serve_197 : decode cX9_serve 197 = .ok (.invokevirtual 140, 3) := by decide +kernel
theorem dX9_serve_200 : decode cX9_serve 200 = .ok (.iinc 2 1, 3) := by decide +kernel
theorem dX9_serve_203 : decode cX9_serve 203 = .ok (.goto (-43), 3) := by decide +kernel
theorem dX9_serve_206 : decode cX9_serve 206 = .ok (.return_, 1) := by decide +kernel
theorem dX9_bringBack_0 : decode cX9_bringBack 0 = .ok (.iconst 0, 1) := by decide +kernel
theorem dX9_bringBack_1 : decode cX9_bringBack 1 = .ok (.istore_n 2, 1) := by decide +kernel
theorem dX9_bringBack_2 : decode cX9_bringBack 2 = .ok (.iload_n 2, 1) := by decide +kernel
theorem dX9_bringBack_3 : decode cX9_bringBack 3 = .ok (.aload_n 0, 1) := by decide +kernel
theorem dX9_bringBack_4 : decode cX9_bringBack 4 = .ok (.getfield 3, 3) := by decide +kernel
theorem dX9_bringBack_7 : decode cX9_bringBack 7 = .ok (.getfield 96, 3) := by decide +kernel
theorem dX9_bringBack_10 : decode cX9_bringBack 10 = .ok (.if_icmp .ge 75, 3) := by decide +kernel
theorem dX9_bringBack_13 : decode cX9_bringBack 13 = .ok (.aload_n 0, 1) := by decide +kernel
theorem dX9_bringBack_14 : decode cX9_bringBack 14 = .ok (.getfield 58, 3) := by decide +kernel
theorem dX9_bringBack_17 : decode cX9_bringBack 17 = .ok (.aload_n 0, 1) := by decide +kernel
theorem dX9_bringBack_18 : decode cX9_bringBack 18 = .ok (.getfield 31, 3) := by decide +kernel
theorem dX9_bringBack_21 : decode cX9_bringBack 21 = .ok (.iload_n 2, 1) := by decide +kernel
theorem dX9_bringBack_22 : decode cX9_bringBack 22 = .ok (.iaload, 1) := by decide +kernel
theorem dX9_bringBack_23 : decode cX9_bringBack 23 = .ok (.isub, 1) := by decide +kernel
theorem dX9_bringBack_24 : decode cX9_bringBack 24 = .ok (.istore_n 3, 1) := by decide +kernel
theorem dX9_bringBack_25 : decode cX9_bringBack 25 = .ok (.aload_n 0, 1) := by decide +kernel
theorem dX9_bringBack_26 : decode cX9_bringBack 26 = .ok (.getfield 28, 3) := by decide +kernel
theorem dX9_bringBack_29 : decode cX9_bringBack 29 = .ok (.iload_n 2, 1) := by decide +kernel
theorem dX9_bringBack_30 : decode cX9_bringBack 30 = .ok (.iaload, 1) := by decide +kernel
theorem dX9_bringBack_31 : decode cX9_bringBack 31 = .ok (.iload_n 1, 1) := by decide +kernel
theorem dX9_bringBack_32 : decode cX9_bringBack 32 = .ok (.if_icmp .ne 47, 3) := by decide +kernel
theorem dX9_bringBack_35 : decode cX9_bringBack 35 = .ok (.iload_n 3, 1) := by decide +kernel
theorem dX9_bringBack_36 : decode cX9_bringBack 36 = .ok (.aload_n 0, 1) := by decide +kernel
theorem dX9_bringBack_37 : decode cX9_bringBack 37 = .ok (.getfield 3, 3) := by decide +kernel
theorem dX9_bringBack_40 : decode cX9_bringBack 40 = .ok (.getfield 124, 3) := by decide +kernel
theorem dX9_bringBack_43 : decode cX9_bringBack 43 = .ok (.iconst 3, 1) := by decide +kernel
theorem dX9_bringBack_44 : decode cX9_bringBack 44 = .ok (.iload_n 1, 1) := by decide +kernel
theorem dX9_bringBack_45 : decode cX9_bringBack 45 = .ok (.imul, 1) := by decide +kernel
theorem dX9_bringBack_46 : decode cX9_bringBack 46 = .ok (.iconst 2, 1) := by decide +kernel
theorem dX9_bringBack_47 : decode cX9_bringBack 47 = .ok (.iadd, 1) := by decide +kernel
theorem dX9_bringBack_48 : decode cX9_bringBack 48 = .ok (.iaload, 1) := by decide +kernel
theorem dX9_bringBack_49 : decode cX9_bringBack 49 = .ok (.if_icmp .ge 6, 3) := by decide +kernel
theorem dX9_bringBack_52 : decode cX9_bringBack 52 = .ok (.goto 27, 3) := by decide +kernel
theorem dX9_bringBack_55 : decode cX9_bringBack 55 = .ok (.aload_n 0, 1) := by decide +kernel
theorem dX9_bringBack_56 : decode cX9_bringBack 56 = .ok (.getfield 28, 3) := by decide +kernel
theorem dX9_bringBack_59 : decode cX9_bringBack 59 = .ok (.iload_n 2, 1) := by decide +kernel
theorem dX9_bringBack_60 : decode cX9_bringBack 60 = .ok (.iconst (-1), 1) := by decide +kernel
theorem dX9_bringBack_61 : decode cX9_bringBack 61 = .ok (.iastore, 1) := by decide +kernel
theorem dX9_bringBack_62 : decode cX9_bringBack 62 = .ok (.aload_n 0, 1) := by decide +kernel
theorem dX9_bringBack_63 : decode cX9_bringBack 63 = .ok (.getfield 46, 3) := by decide +kernel
theorem dX9_bringBack_66 : decode cX9_bringBack 66 = .ok (.iload_n 1, 1) := by decide +kernel
theorem dX9_bringBack_67 : decode cX9_bringBack 67 = .ok (.dup2, 1) := by decide +kernel
theorem dX9_bringBack_68 : decode cX9_bringBack 68 = .ok (.iaload, 1) := by decide +kernel
theorem dX9_bringBack_69 : decode cX9_bringBack 69 = .ok (.iconst 0, 1) := by decide +kernel
theorem dX9_bringBack_70 : decode cX9_bringBack 70 = .ok (.iload_n 3, 1) := by decide +kernel
theorem dX9_bringBack_71 : decode cX9_bringBack 71 = .ok (.bipush 14, 2) := by decide +kernel
theorem dX9_bringBack_73 : decode cX9_bringBack 73 = .ok (.isub, 1) := by decide +kernel
theorem dX9_bringBack_74 : decode cX9_bringBack 74 = .ok (.invokestatic 108, 3) := by decide +kernel
theorem dX9_bringBack_77 : decode cX9_bringBack 77 = .ok (.iadd, 1) := by decide +kernel
theorem dX9_bringBack_78 : decode cX9_bringBack 78 = .ok (.iastore, 1) := by decide +kernel
theorem dX9_bringBack_79 : decode cX9_bringBack 79 = .ok (.iinc 2 1, 3) := by decide +kernel
theorem dX9_bringBack_82 : decode cX9_bringBack 82 = .ok (.goto (-80), 3) := by decide +kernel
theorem dX9_bringBack_85 : decode cX9_bringBack 85 = .ok (.return_, 1) := by decide +kernel
theorem dX9_lend_0 : decode cX9_lend 0 = .ok (.aload_n 0, 1) := by decide +kernel
theorem dX9_lend_1 : decode cX9_lend 1 = .ok (.getfield 28, 3) := by decide +kernel
theorem dX9_lend_4 : decode cX9_lend 4 = .ok (.iload_n 2, 1) := by decide +kernel
theorem dX9_lend_5 : decode cX9_lend 5 = .ok (.iload_n 1, 1) := by decide +kernel
theorem dX9_lend_6 : decode cX9_lend 6 = .ok (.iastore, 1) := by decide +kernel
theorem dX9_lend_7 : decode cX9_lend 7 = .ok (.aload_n 0, 1) := by decide +kernel
theorem dX9_lend_8 : decode cX9_lend 8 = .ok (.getfield 31, 3) := by decide +kernel
theorem dX9_lend_11 : decode cX9_lend 11 = .ok (.iload_n 2, 1) := by decide +kernel
theorem dX9_lend_12 : decode cX9_lend 12 = .ok (.aload_n 0, 1) := by decide +kernel
theorem dX9_lend_13 : decode cX9_lend 13 = .ok (.getfield 58, 3) := by decide +kernel
theorem dX9_lend_16 : decode cX9_lend 16 = .ok (.iastore, 1) := by decide +kernel
theorem dX9_lend_17 : decode cX9_lend 17 = .ok (.aload_n 0, 1) := by decide +kernel
theorem dX9_lend_18 : decode cX9_lend 18 = .ok (.getfield 34, 3) := by decide +kernel
theorem dX9_lend_21 : decode cX9_lend 21 = .ok (.iload_n 2, 1) := by decide +kernel
theorem dX9_lend_22 : decode cX9_lend 22 = .ok (.dup2, 1) := by decide +kernel
theorem dX9_lend_23 : decode cX9_lend 23 = .ok (.iaload, 1) := by decide +kernel
theorem dX9_lend_24 : decode cX9_lend 24 = .ok (.iconst 1, 1) := by decide +kernel
theorem dX9_lend_25 : decode cX9_lend 25 = .ok (.iadd, 1) := by decide +kernel
theorem dX9_lend_26 : decode cX9_lend 26 = .ok (.iastore, 1) := by decide +kernel
theorem dX9_lend_27 : decode cX9_lend 27 = .ok (.aload_n 0, 1) := by decide +kernel
theorem dX9_lend_28 : decode cX9_lend 28 = .ok (.getfield 49, 3) := by decide +kernel
theorem dX9_lend_31 : decode cX9_lend 31 = .ok (.iload_n 1, 1) := by decide +kernel
theorem dX9_lend_32 : decode cX9_lend 32 = .ok (.dup2, 1) := by decide +kernel
theorem dX9_lend_33 : decode cX9_lend 33 = .ok (.iaload, 1) := by decide +kernel
theorem dX9_lend_34 : decode cX9_lend 34 = .ok (.iconst 1, 1) := by decide +kernel
theorem dX9_lend_35 : decode cX9_lend 35 = .ok (.iadd, 1) := by decide +kernel
theorem dX9_lend_36 : decode cX9_lend 36 = .ok (.iastore, 1) := by decide +kernel
theorem dX9_lend_37 : decode cX9_lend 37 = .ok (.aload_n 0, 1) := by decide +kernel
theorem dX9_lend_38 : decode cX9_lend 38 = .ok (.getfield 43, 3) := by decide +kernel
theorem dX9_lend_41 : decode cX9_lend 41 = .ok (.iload_n 1, 1) := by decide +kernel
theorem dX9_lend_42 : decode cX9_lend 42 = .ok (.dup2, 1) := by decide +kernel
theorem dX9_lend_43 : decode cX9_lend 43 = .ok (.iaload, 1) := by decide +kernel
theorem dX9_lend_44 : decode cX9_lend 44 = .ok (.iconst 1, 1) := by decide +kernel
theorem dX9_lend_45 : decode cX9_lend 45 = .ok (.iload_n 2, 1) := by decide +kernel
theorem dX9_lend_46 : decode cX9_lend 46 = .ok (.ishl, 1) := by decide +kernel
theorem dX9_lend_47 : decode cX9_lend 47 = .ok (.ior, 1) := by decide +kernel
theorem dX9_lend_48 : decode cX9_lend 48 = .ok (.iastore, 1) := by decide +kernel
theorem dX9_lend_49 : decode cX9_lend 49 = .ok (.aload_n 0, 1) := by decide +kernel
theorem dX9_lend_50 : decode cX9_lend 50 = .ok (.dup, 1) := by decide +kernel
theorem dX9_lend_51 : decode cX9_lend 51 = .ok (.getfield 65, 3) := by decide +kernel
theorem dX9_lend_54 : decode cX9_lend 54 = .ok (.iconst 1, 1) := by decide +kernel
theorem dX9_lend_55 : decode cX9_lend 55 = .ok (.iadd, 1) := by decide +kernel
theorem dX9_lend_56 : decode cX9_lend 56 = .ok (.putfield 65, 3) := by decide +kernel
theorem dX9_lend_59 : decode cX9_lend 59 = .ok (.return_, 1) := by decide +kernel
theorem dX9_choose_0 : decode cX9_choose 0 = .ok (.iconst 0, 1) := by decide +kernel
theorem dX9_choose_1 : decode cX9_choose 1 = .ok (.istore_n 2, 1) := by decide +kernel
theorem dX9_choose_2 : decode cX9_choose 2 = .ok (.iload_n 2, 1) := by decide +kernel
theorem dX9_choose_3 : decode cX9_choose 3 = .ok (.aload_n 0, 1) := by decide +kernel
theorem dX9_choose_4 : decode cX9_choose 4 = .ok (.getfield 3, 3) := by decide +kernel
theorem dX9_choose_7 : decode cX9_choose 7 = .ok (.getfield 96, 3) := by decide +kernel
theorem dX9_choose_10 : decode cX9_choose 10 = .ok (.if_icmp .ge 77, 3) := by decide +kernel
theorem dX9_choose_13 : decode cX9_choose 13 = .ok (.aload_n 0, 1) := by decide +kernel
theorem dX9_choose_14 : decode cX9_choose 14 = .ok (.getfield 28, 3) := by decide +kernel
theorem dX9_choose_17 : decode cX9_choose 17 = .ok (.iload_n 2, 1) := by decide +kernel
theorem dX9_choose_18 : decode cX9_choose 18 = .ok (.iaload, 1) := by decide +kernel
theorem dX9_choose_19 : decode cX9_choose 19 = .ok (.iconst (-1), 1) := by decide +kernel
theorem dX9_choose_20 : decode cX9_choose 20 = .ok (.if_icmp .ne 61, 3) := by decide +kernel
theorem dX9_choose_23 : decode cX9_choose 23 = .ok (.aload_n 0, 1) := by decide +kernel
theorem dX9_choose_24 : decode cX9_choose 24 = .ok (.getfield 3, 3) := by decide +kernel
theorem dX9_choose_27 : decode cX9_choose 27 = .ok (.getfield 143, 3) := by decide +kernel
theorem dX9_choose_30 : decode cX9_choose 30 = .ok (.iload_n 2, 1) := by decide +kernel
theorem dX9_choose_31 : decode cX9_choose 31 = .ok (.iaload, 1) := by decide +kernel
theorem dX9_choose_32 : decode cX9_choose 32 = .ok (.aload_n 0, 1) := by decide +kernel
theorem dX9_choose_33 : decode cX9_choose 33 = .ok (.getfield 3, 3) := by decide +kernel
theorem dX9_choose_36 : decode cX9_choose 36 = .ok (.getfield 124, 3) := by decide +kernel
theorem dX9_choose_39 : decode cX9_choose 39 = .ok (.iconst 3, 1) := by decide +kernel
theorem dX9_choose_40 : decode cX9_choose 40 = .ok (.iload_n 1, 1) := by decide +kernel
theorem dX9_choose_41 : decode cX9_choose 41 = .ok (.imul, 1) := by decide +kernel
theorem dX9_choose_42 : decode cX9_choose 42 = .ok (.iconst 1, 1) := by decide +kernel
theorem dX9_choose_43 : decode cX9_choose 43 = .ok (.iadd, 1) := by decide +kernel
theorem dX9_choose_44 : decode cX9_choose 44 = .ok (.iaload, 1) := by decide +kernel
theorem dX9_choose_45 : decode cX9_choose 45 = .ok (.if_icmp .ne 36, 3) := by decide +kernel
theorem dX9_choose_48 : decode cX9_choose 48 = .ok (.aload_n 0, 1) := by decide +kernel
theorem dX9_choose_49 : decode cX9_choose 49 = .ok (.getfield 40, 3) := by decide +kernel
theorem dX9_choose_52 : decode cX9_choose 52 = .ok (.iload_n 2, 1) := by decide +kernel
theorem dX9_choose_53 : decode cX9_choose 53 = .ok (.iaload, 1) := by decide +kernel
theorem dX9_choose_54 : decode cX9_choose 54 = .ok (.ifCond .gt 27, 3) := by decide +kernel
theorem dX9_choose_57 : decode cX9_choose 57 = .ok (.aload_n 0, 1) := by decide +kernel
theorem dX9_choose_58 : decode cX9_choose 58 = .ok (.getfield 43, 3) := by decide +kernel
theorem dX9_choose_61 : decode cX9_choose 61 = .ok (.iload_n 1, 1) := by decide +kernel
theorem dX9_choose_62 : decode cX9_choose 62 = .ok (.iaload, 1) := by decide +kernel
theorem dX9_choose_63 : decode cX9_choose 63 = .ok (.iload_n 2, 1) := by decide +kernel
theorem dX9_choose_64 : decode cX9_choose 64 = .ok (.ishr, 1) := by decide +kernel
theorem dX9_choose_65 : decode cX9_choose 65 = .ok (.iconst 1, 1) := by decide +kernel
theorem dX9_choose_66 : decode cX9_choose 66 = .ok (.iand, 1) := by decide +kernel
theorem dX9_choose_67 : decode cX9_choose 67 = .ok (.iconst 1, 1) := by decide +kernel
theorem dX9_choose_68 : decode cX9_choose 68 = .ok (.if_icmp .ne 6, 3) := by decide +kernel
theorem dX9_choose_71 : decode cX9_choose 71 = .ok (.goto 10, 3) := by decide +kernel
theorem dX9_choose_74 : decode cX9_choose 74 = .ok (.aload_n 0, 1) := by decide +kernel
theorem dX9_choose_75 : decode cX9_choose 75 = .ok (.iload_n 1, 1) := by decide +kernel
theorem dX9_choose_76 : decode cX9_choose 76 = .ok (.iload_n 2, 1) := by decide +kernel
theorem dX9_choose_77 : decode cX9_choose 77 = .ok (.invokevirtual 137, 3) := by decide +kernel
theorem dX9_choose_80 : decode cX9_choose 80 = .ok (.return_, 1) := by decide +kernel
theorem dX9_choose_81 : decode cX9_choose 81 = .ok (.iinc 2 1, 3) := by decide +kernel
theorem dX9_choose_84 : decode cX9_choose 84 = .ok (.goto (-82), 3) := by decide +kernel
theorem dX9_choose_87 : decode cX9_choose 87 = .ok (.return_, 1) := by decide +kernel
theorem dX9_owed_0 : decode cX9_owed 0 = .ok (.iconst 0, 1) := by decide +kernel
theorem dX9_owed_1 : decode cX9_owed 1 = .ok (.istore_n 1, 1) := by decide +kernel
theorem dX9_owed_2 : decode cX9_owed 2 = .ok (.iconst 0, 1) := by decide +kernel
theorem dX9_owed_3 : decode cX9_owed 3 = .ok (.istore_n 2, 1) := by decide +kernel
theorem dX9_owed_4 : decode cX9_owed 4 = .ok (.iload_n 2, 1) := by decide +kernel
theorem dX9_owed_5 : decode cX9_owed 5 = .ok (.aload_n 0, 1) := by decide +kernel
theorem dX9_owed_6 : decode cX9_owed 6 = .ok (.getfield 3, 3) := by decide +kernel
theorem dX9_owed_9 : decode cX9_owed 9 = .ok (.getfield 121, 3) := by decide +kernel
theorem dX9_owed_12 : decode cX9_owed 12 = .ok (.if_icmp .ge 18, 3) := by decide +kernel
theorem dX9_owed_15 : decode cX9_owed 15 = .ok (.iload_n 1, 1) := by decide +kernel
theorem dX9_owed_16 : decode cX9_owed 16 = .ok (.aload_n 0, 1) := by decide +kernel
theorem dX9_owed_17 : decode cX9_owed 17 = .ok (.getfield 46, 3) := by decide +kernel
theorem dX9_owed_20 : decode cX9_owed 20 = .ok (.iload_n 2, 1) := by decide +kernel
theorem dX9_owed_21 : decode cX9_owed 21 = .ok (.iaload, 1) := by decide +kernel
theorem dX9_owed_22 : decode cX9_owed 22 = .ok (.iadd, 1) := by decide +kernel
theorem dX9_owed_23 : decode cX9_owed 23 = .ok (.istore_n 1, 1) := by decide +kernel
theorem dX9_owed_24 : decode cX9_owed 24 = .ok (.iinc 2 1, 3) := by decide +kernel
theorem dX9_owed_27 : decode cX9_owed 27 = .ok (.goto (-23), 3) := by decide +kernel
theorem dX9_owed_30 : decode cX9_owed 30 = .ok (.iload_n 1, 1) := by decide +kernel
theorem dX9_owed_31 : decode cX9_owed 31 = .ok (.ireturn, 1) := by decide +kernel
theorem dX9_missedOnes_0 : decode cX9_missedOnes 0 = .ok (.iconst 0, 1) := by decide +kernel
theorem dX9_missedOnes_1 : decode cX9_missedOnes 1 = .ok (.istore_n 1, 1) := by decide +kernel
theorem dX9_missedOnes_2 : decode cX9_missedOnes 2 = .ok (.iconst 0, 1) := by decide +kernel
theorem dX9_missedOnes_3 : decode cX9_missedOnes 3 = .ok (.istore_n 2, 1) := by decide +kernel
theorem dX9_missedOnes_4 : decode cX9_missedOnes 4 = .ok (.iload_n 2, 1) := by decide +kernel
theorem dX9_missedOnes_5 : decode cX9_missedOnes 5 = .ok (.aload_n 0, 1) := by decide +kernel
theorem dX9_missedOnes_6 : decode cX9_missedOnes 6 = .ok (.getfield 3, 3) := by decide +kernel
theorem dX9_missedOnes_9 : decode cX9_missedOnes 9 = .ok (.getfield 93, 3) := by decide +kernel
theorem dX9_missedOnes_12 : decode cX9_missedOnes 12 = .ok (.if_icmp .ge 18, 3) := by decide +kernel
theorem dX9_missedOnes_15 : decode cX9_missedOnes 15 = .ok (.iload_n 1, 1) := by decide +kernel
theorem dX9_missedOnes_16 : decode cX9_missedOnes 16 = .ok (.aload_n 0, 1) := by decide +kernel
theorem dX9_missedOnes_17 : decode cX9_missedOnes 17 = .ok (.getfield 25, 3) := by decide +kernel
theorem dX9_missedOnes_20 : decode cX9_missedOnes 20 = .ok (.iload_n 2, 1) := by decide +kernel
theorem dX9_missedOnes_21 : decode cX9_missedOnes 21 = .ok (.iaload, 1) := by decide +kernel
theorem dX9_missedOnes_22 : decode cX9_missedOnes 22 = .ok (.iadd, 1) := by decide +kernel
theorem dX9_missedOnes_23 : decode cX9_missedOnes 23 = .ok (.istore_n 1, 1) := by decide +kernel
theorem dX9_missedOnes_24 : decode cX9_missedOnes 24 = .ok (.iinc 2 1, 3) := by decide +kernel
theorem dX9_missedOnes_27 : decode cX9_missedOnes 27 = .ok (.goto (-23), 3) := by decide +kernel
theorem dX9_missedOnes_30 : decode cX9_missedOnes 30 = .ok (.iload_n 1, 1) := by decide +kernel
theorem dX9_missedOnes_31 : decode cX9_missedOnes 31 = .ok (.ireturn, 1) := by decide +kernel
