theorem dX0_init_0 : decode cX0_init 0 = .ok (.aload_n 0, 1) := by decide +kernel
theorem dX0_init_1 : decode cX0_init 1 = .ok (.invokespecial 3, 3) := by decide +kernel
theorem dX0_init_4 : decode cX0_init 4 = .ok (.aload_n 0, 1) := by decide +kernel
theorem dX0_init_5 : decode cX0_init 5 = .ok (.new 9, 3) := by decide +kernel
theorem dX0_init_8 : decode cX0_init 8 = .ok (.dup, 1) := by decide +kernel
theorem dX0_init_9 : decode cX0_init 9 = .ok (.invokespecial 11, 3) := by decide +kernel
theorem dX0_init_12 : decode cX0_init 12 = .ok (.putfield 12, 3) := by decide +kernel
theorem dX0_init_15 : decode cX0_init 15 = .ok (.aload_n 0, 1) := by decide +kernel
theorem dX0_init_16 : decode cX0_init 16 = .ok (.iconst (-1), 1) := by decide +kernel
theorem dX0_init_17 : decode cX0_init 17 = .ok (.putfield 18, 3) := by decide +kernel
theorem dX0_init_20 : decode cX0_init 20 = .ok (.aload_n 0, 1) := by decide +kernel
theorem dX0_init_21 : decode cX0_init 21 = .ok (.iconst (-1), 1) := by decide +kernel
theorem dX0_init_22 : decode cX0_init 22 = .ok (.putfield 22, 3) := by decide +kernel
theorem dX0_init_25 : decode cX0_init 25 = .ok (.aload_n 0, 1) := by decide +kernel
theorem dX0_init_26 : decode cX0_init 26 = .ok (.iload_n 1, 1) := by decide +kernel
theorem dX0_init_27 : decode cX0_init 27 = .ok (.putfield 25, 3) := by decide +kernel
theorem dX0_init_30 : decode cX0_init 30 = .ok (.aload_n 0, 1) := by decide +kernel
theorem dX0_init_31 : decode cX0_init 31 = .ok (.iload_n 2, 1) := by decide +kernel
theorem dX0_init_32 : decode cX0_init 32 = .ok (.putfield 28, 3) := by decide +kernel
theorem dX0_init_35 : decode cX0_init 35 = .ok (.return_, 1) := by decide +kernel
theorem dX0_isOnVan_0 : decode cX0_isOnVan 0 = .ok (.aload_n 0, 1) := by decide +kernel
theorem dX0_isOnVan_1 : decode cX0_isOnVan 1 = .ok (.getfield 18, 3) := by decide +kernel
theorem dX0_isOnVan_4 : decode cX0_isOnVan 4 = .ok (.iconst (-1), 1) := by decide +kernel
theorem dX0_isOnVan_5 : decode cX0_isOnVan 5 = .ok (.if_icmp .ne 7, 3) := by decide +kernel
theorem dX0_isOnVan_8 : decode cX0_isOnVan 8 = .ok (.iconst 1, 1) := by decide +kernel
theorem dX0_isOnVan_9 : decode cX0_isOnVan 9 = .ok (.goto 4, 3) := by decide +kernel
theorem dX0_isOnVan_12 : decode cX0_isOnVan 12 = .ok (.iconst 0, 1) := by decide +kernel
theorem dX0_isOnVan_13 : decode cX0_isOnVan 13 = .ok (.ireturn, 1) := by decide +kernel
theorem dX0_lendTo_0 : decode cX0_lendTo 0 = .ok (.aload_n 0, 1) := by decide +kernel
theorem dX0_lendTo_1 : decode cX0_lendTo 1 = .ok (.aload_n 1, 1) := by decide +kernel
theorem dX0_lendTo_2 : decode cX0_lendTo 2 = .ok (.getfield 31, 3) := by decide +kernel
theorem dX0_lendTo_5 : decode cX0_lendTo 5 = .ok (.putfield 18, 3) := by decide +kernel
theorem dX0_lendTo_8 : decode cX0_lendTo 8 = .ok (.aload_n 0, 1) := by decide +kernel
theorem dX0_lendTo_9 : decode cX0_lendTo 9 = .ok (.iload_n 2, 1) := by decide +kernel
theorem dX0_lendTo_10 : decode cX0_lendTo 10 = .ok (.putfield 22, 3) := by decide +kernel
theorem dX0_lendTo_13 : decode cX0_lendTo 13 = .ok (.aload_n 0, 1) := by decide +kernel
theorem dX0_lendTo_14 : decode cX0_lendTo 14 = .ok (.dup, 1) := by decide +kernel
theorem dX0_lendTo_15 : decode cX0_lendTo 15 = .ok (.getfield 34, 3) := by decide +kernel
theorem dX0_lendTo_18 : decode cX0_lendTo 18 = .ok (.iconst 1, 1) := by decide +kernel
theorem dX0_lendTo_19 : decode cX0_lendTo 19 = .ok (.iadd, 1) := by decide +kernel
theorem dX0_lendTo_20 : decode cX0_lendTo 20 = .ok (.putfield 34, 3) := by decide +kernel
theorem dX0_lendTo_23 : decode cX0_lendTo 23 = .ok (.aload_n 1, 1) := by decide +kernel
theorem dX0_lendTo_24 : decode cX0_lendTo 24 = .ok (.dup, 1) := by decide +kernel
theorem dX0_lendTo_25 : decode cX0_lendTo 25 = .ok (.getfield 37, 3) := by decide +kernel
theorem dX0_lendTo_28 : decode cX0_lendTo 28 = .ok (.iconst 1, 1) := by decide +kernel
theorem dX0_lendTo_29 : decode cX0_lendTo 29 = .ok (.iadd, 1) := by decide +kernel
theorem dX0_lendTo_30 : decode cX0_lendTo 30 = .ok (.putfield 37, 3) := by decide +kernel
theorem dX0_lendTo_33 : decode cX0_lendTo 33 = .ok (.aload_n 1, 1) := by decide +kernel
theorem dX0_lendTo_34 : decode cX0_lendTo 34 = .ok (.dup, 1) := by decide +kernel
theorem dX0_lendTo_35 : decode cX0_lendTo 35 = .ok (.getfield 40, 3) := by decide +kernel
theorem dX0_lendTo_38 : decode cX0_lendTo 38 = .ok (.iconst 1, 1) := by decide +kernel
theorem dX0_lendTo_39 : decode cX0_lendTo 39 = .ok (.aload_n 0, 1) := by decide +kernel
theorem dX0_lendTo_40 : decode cX0_lendTo 40 = .ok (.getfield 25, 3) := by decide +kernel
theorem dX0_lendTo_43 : decode cX0_lendTo 43 = .ok (.ishl, 1) := by decide +kernel
theorem dX0_lendTo_44 : decode cX0_lendTo 44 = .ok (.ior, 1) := by decide +kernel
theorem dX0_lendTo_45 : decode cX0_lendTo 45 = .ok (.putfield 40, 3) := by decide +kernel
theorem dX0_lendTo_48 : decode cX0_lendTo 48 = .ok (.aload_n 1, 1) := by decide +kernel
theorem dX0_lendTo_49 : decode cX0_lendTo 49 = .ok (.dup, 1) := by decide +kernel
theorem dX0_lendTo_50 : decode cX0_lendTo 50 = .ok (.getfield 43, 3) := by decide +kernel
theorem dX0_lendTo_53 : decode cX0_lendTo 53 = .ok (.iconst 1, 1) := by decide +kernel
theorem dX0_lendTo_54 : decode cX0_lendTo 54 = .ok (.iadd, 1) := by decide +kernel
theorem dX0_lendTo_55 : decode cX0_lendTo 55 = .ok (.putfield 43, 3) := by decide +kernel
theorem dX0_lendTo_58 : decode cX0_lendTo 58 = .ok (.return_, 1) := by decide +kernel
theorem dX0_comeBackFrom_0 : decode cX0_comeBackFrom 0 = .ok (.aload_n 0, 1) := by decide +kernel
theorem dX0_comeBackFrom_1 : decode cX0_comeBackFrom 1 = .ok (.iconst (-1), 1) := by decide +kernel
theorem dX0_comeBackFrom_2 : decode cX0_comeBackFrom 2 = .ok (.putfield 18, 3) := by decide +kernel
theorem dX0_comeBackFrom_5 : decode cX0_comeBackFrom 5 = .ok (.aload_n 0, 1) := by decide +kernel
theorem dX0_comeBackFrom_6 : decode cX0_comeBackFrom 6 = .ok (.iconst (-1), 1) := by decide +kernel
theorem dX0_comeBackFrom_7 : decode cX0_comeBackFrom 7 = .ok (.putfield 22, 3) := by decide +kernel
theorem dX0_comeBackFrom_10 : decode cX0_comeBackFrom 10 = .ok (.aload_n 1, 1) := by decide +kernel
theorem dX0_comeBackFrom_11 : decode cX0_comeBackFrom 11 = .ok (.dup, 1) := by decide +kernel
theorem dX0_comeBackFrom_12 : decode cX0_comeBackFrom 12 = .ok (.getfield 37, 3) := by decide +kernel
theorem dX0_comeBackFrom_15 : decode cX0_comeBackFrom 15 = .ok (.iconst 1, 1) := by decide +kernel
theorem dX0_comeBackFrom_16 : decode cX0_comeBackFrom 16 = .ok (.isub, 1) := by decide +kernel
theorem dX0_comeBackFrom_17 : decode cX0_comeBackFrom 17 = .ok (.putfield 37, 3) := by decide +kernel
theorem dX0_comeBackFrom_20 : decode cX0_comeBackFrom 20 = .ok (.iload_n 2, 1) := by decide +kernel
theorem dX0_comeBackFrom_21 : decode cX0_comeBackFrom 21 = .ok (.bipush 14, 2) := by decide +kernel
theorem dX0_comeBackFrom_23 : decode cX0_comeBackFrom 23 = .ok (.if_icmp .le 16, 3) := by decide +kernel
theorem dX0_comeBackFrom_26 : decode cX0_comeBackFrom 26 = .ok (.aload_n 1, 1) := by decide +kernel
theorem dX0_comeBackFrom_27 : decode cX0_comeBackFrom 27 = .ok (.dup, 1) := by decide +kernel
theorem dX0_comeBackFrom_28 : decode cX0_comeBackFrom 28 = .ok (.getfield 44, 3) := by decide +kernel
theorem dX0_comeBackFrom_31 : decode cX0_comeBackFrom 31 = .ok (.iload_n 2, 1) := by decide +kernel
theorem dX0_comeBackFrom_32 : decode cX0_comeBackFrom 32 = .ok (.bipush 14, 2) := by decide +kernel
theorem dX0_comeBackFrom_34 : decode cX0_comeBackFrom 34 = .ok (.isub, 1) := by decide +kernel
theorem dX0_comeBackFrom_35 : decode cX0_comeBackFrom 35 = .ok (.iadd, 1) := by decide +kernel
theorem dX0_comeBackFrom_36 : decode cX0_comeBackFrom 36 = .ok (.putfield 44, 3) := by decide +kernel
theorem dX0_comeBackFrom_39 : decode cX0_comeBackFrom 39 = .ok (.return_, 1) := by decide +kernel
theorem dX0_copyFrom_0 : decode cX0_copyFrom 0 = .ok (.aload_n 0, 1) := by decide +kernel
theorem dX0_copyFrom_1 : decode cX0_copyFrom 1 = .ok (.getfield 12, 3) := by decide +kernel
theorem dX0_copyFrom_4 : decode cX0_copyFrom 4 = .ok (.aload_n 1, 1) := by decide +kernel
theorem dX0_copyFrom_5 : decode cX0_copyFrom 5 = .ok (.getfield 12, 3) := by decide +kernel
theorem dX0_copyFrom_8 : decode cX0_copyFrom 8 = .ok (.invokevirtual 47, 3) := by decide +kernel
theorem dX0_copyFrom_11 : decode cX0_copyFrom 11 = .ok (.aload_n 0, 1) := by decide +kernel
theorem dX0_copyFrom_12 : decode cX0_copyFrom 12 = .ok (.aload_n 1, 1) := by decide +kernel
theorem dX0_copyFrom_13 : decode cX0_copyFrom 13 = .ok (.getfield 18, 3) := by decide +kernel
theorem dX0_copyFrom_16 : decode cX0_copyFrom 16 = .ok (.putfield 18, 3) := by decide +kernel
theorem dX0_copyFrom_19 : decode cX0_copyFrom 19 = .ok (.aload_n 0, 1) := by decide +kernel
theorem dX0_copyFrom_20 : decode cX0_copyFrom 20 = .ok (.aload_n 1, 1) := by decide +kernel
theorem dX0_copyFrom_21 : decode cX0_copyFrom 21 = .ok (.getfield 22, 3) := by decide +kernel
theorem dX0_copyFrom_24 : decode cX0_copyFrom 24 = .ok (.putfield 22, 3) := by decide +kernel
theorem dX0_copyFrom_27 : decode cX0_copyFrom 27 = .ok (.aload_n 0, 1) := by decide +kernel
theorem dX0_copyFrom_28 : decode cX0_copyFrom 28 = .ok (.aload_n 1, 1) := by decide +kernel
theorem dX0_copyFrom_29 : decode cX0_copyFrom 29 = .ok (.getfield 34, 3) := by decide +kernel
theorem dX0_copyFrom_32 : decode cX0_copyFrom 32 = .ok (.putfield 34, 3) := by decide +kernel
theorem dX0_copyFrom_35 : decode cX0_copyFrom 35 = .ok (.return_, 1) := by decide +kernel
theorem dX1_init_0 : decode cX1_init 0 = .ok (.aload_n 0, 1) := by decide +kernel
theorem dX1_init_1 : decode cX1_init 1 = .ok (.invokespecial 1, 3) := by decide +kernel
theorem dX1_init_4 : decode cX1_init 4 = .ok (.return_, 1) := by decide +kernel
theorem dX1_copyFrom_0 : decode cX1_copyFrom 0 = .ok (.aload_n 0, 1) := by decide +kernel
theorem dX1_copyFrom_1 : decode cX1_copyFrom 1 = .ok (.aload_n 1, 1) := by decide +kernel
theorem dX1_copyFrom_2 : decode cX1_copyFrom 2 = .ok (.getfield 7, 3) := by decide +kernel
theorem dX1_copyFrom_5 : decode cX1_copyFrom 5 = .ok (.putfield 7, 3) := by decide +kernel
theorem dX1_copyFrom_8 : decode cX1_copyFrom 8 = .ok (.aload_n 0, 1) := by decide +kernel
theorem dX1_copyFrom_9 : decode cX1_copyFrom 9 = .ok (.aload_n 1, 1) := by decide +kernel
theorem dX1_copyFrom_10 : decode cX1_copyFrom 10 = .ok (.getfield 13, 3) := by decide +kernel
theorem dX1_copyFrom_13 : decode cX1_copyFrom 13 = .ok (.putfield 13, 3) := by decide +kernel
theorem dX1_copyFrom_16 : decode cX1_copyFrom 16 = .ok (.return_, 1) := by decide +kernel
theorem dX2_init_0 : decode cX2_init 0 = .ok (.aload_n 0, 1) := by decide +kernel
theorem dX2_init_1 : decode cX2_init 1 = .ok (.invokespecial 3, 3) := by decide +kernel
theorem dX2_init_4 : decode cX2_init 4 = .ok (.aload_n 0, 1) := by decide +kernel
theorem dX2_init_5 : decode cX2_init 5 = .ok (.iload_n 1, 1) := by decide +kernel
theorem dX2_init_6 : decode cX2_init 6 = .ok (.putfield 9, 3) := by decide +kernel
theorem dX2_init_9 : decode cX2_init 9 = .ok (.aload_n 0, 1) := by decide +kernel
theorem dX2_init_10 : decode cX2_init 10 = .ok (.iload_n 2, 1) := by decide +kernel
theorem dX2_init_11 : decode cX2_init 11 = .ok (.putfield 15, 3) := by decide +kernel
theorem dX2_init_14 : decode cX2_init 14 = .ok (.aload_n 0, 1) := by decide +kernel
theorem dX2_init_15 : decode cX2_init 15 = .ok (.iload_n 3, 1) := by decide +kernel
theorem dX2_init_16 : decode cX2_init 16 = .ok (.putfield 18, 3) := by decide +kernel
theorem dX2_init_19 : decode cX2_init 19 = .ok (.aload_n 0, 1) := by decide +kernel
theorem dX2_init_20 : decode cX2_init 20 = .ok (.iload 4, 2) := by decide +kernel
theorem dX2_init_22 : decode cX2_init 22 = .ok (.putfield 21, 3) := by decide +kernel
theorem dX2_init_25 : decode cX2_init 25 = .ok (.return_, 1) := by decide +kernel
theorem dX2_isUsable_0 : decode cX2_isUsable 0 = .ok (.aload_n 0, 1) := by decide +kernel
theorem dX2_isUsable_1 : decode cX2_isUsable 1 = .ok (.getfield 24, 3) := by decide +kernel
theorem dX2_isUsable_4 : decode cX2_isUsable 4 = .ok (.bipush 12, 2) := by decide +kernel
theorem dX2_isUsable_6 : decode cX2_isUsable 6 = .ok (.if_icmp .gt 7, 3) := by decide +kernel
theorem dX2_isUsable_9 : decode cX2_isUsable 9 = .ok (.iconst 1, 1) := by decide +kernel
theorem dX2_isUsable_10 : decode cX2_isUsable 10 = .ok (.goto 4, 3) := by decide +kernel
theorem dX2_isUsable_13 : decode cX2_isUsable 13 = .ok (.iconst 0, 1) := by decide +kernel
theorem dX2_isUsable_14 : decode cX2_isUsable 14 = .ok (.ireturn, 1) := by decide +kernel
theorem dX2_minutes_0 : decode cX2_minutes 0 = .ok (.aload_n 0, 1) := by decide +kernel
theorem dX2_minutes_1 : decode cX2_minutes 1 = .ok (.getfield 18, 3) := by decide +kernel
theorem dX2_minutes_4 : decode cX2_minutes 4 = .ok (.aload_n 0, 1) := by decide +kernel
theorem dX2_minutes_5 : decode cX2_minutes 5 = .ok (.getfield 24, 3) := by decide +kernel
theorem dX2_minutes_8 : decode cX2_minutes 8 = .ok (.iconst 2, 1) := by decide +kernel
theorem dX2_minutes_9 : decode cX2_minutes 9 = .ok (.idiv, 1) := by decide +kernel
theorem dX2_minutes_10 : decode cX2_minutes 10 = .ok (.iadd, 1) := by decide +kernel
theorem dX2_minutes_11 : decode cX2_minutes 11 = .ok (.ireturn, 1) := by decide +kernel
theorem dX2_weather_0 : decode cX2_weather 0 = .ok (.aload_n 0, 1) := by decide +kernel
theorem dX2_weather_1 : decode cX2_weather 1 = .ok (.iload_n 1, 1) := by decide +kernel
theorem dX2_weather_2 : decode cX2_weather 2 = .ok (.ifCond .le 24, 3) := by decide +kernel
theorem dX2_weather_5 : decode cX2_weather 5 = .ok (.bipush 20, 2) := by decide +kernel
theorem dX2_weather_7 : decode cX2_weather 7 = .ok (.aload_n 0, 1) := by decide +kernel
theorem dX2_weather_8 : decode cX2_weather 8 = .ok (.getfield 24, 3) := by decide +kernel
theorem dX2_weather_11 : decode cX2_weather 11 = .ok (.iload_n 1, 1) := by decide +kernel
theorem dX2_weather_12 : decode cX2_weather 12 = .ok (.aload_n 0, 1) := by decide +kernel
theorem dX2_weather_13 : decode cX2_weather 13 = .ok (.getfield 21, 3) := by decide +kernel
theorem dX2_weather_16 : decode cX2_weather 16 = .ok (.imul, 1) := by decide +kernel
theorem dX2_weather_17 : decode cX2_weather 17 = .ok (.iconst 4, 1) := by decide +kernel
theorem dX2_weather_18 : decode cX2_weather 18 = .ok (.idiv, 1) := by decide +kernel
theorem dX2_weather_19 : decode cX2_weather 19 = .ok (.iadd, 1) := by decide +kernel
theorem dX2_weather_20 : decode cX2_weather 20 = .ok (.invokestatic 27, 3) := by decide +kernel
theorem dX2_weather_23 : decode cX2_weather 23 = .ok (.goto 13, 3) := by decide +kernel
theorem dX2_weather_26 : decode cX2_weather 26 = .ok (.iconst 0, 1) := by decide +kernel
theorem dX2_weather_27 : decode cX2_weather 27 = .ok (.aload_n 0, 1) := by decide +kernel
theorem dX2_weather_28 : decode cX2_weather 28 = .ok (.getfield 24, 3) := by decide +kernel
theorem dX2_weather_31 : decode cX2_weather 31 = .ok (.iconst 2, 1) := by decide +kernel
theorem dX2_weather_32 : decode cX2_weather 32 = .ok (.isub, 1) := by decide +kernel
theorem dX2_weather_33 : decode cX2_weather 33 = .ok (.invokestatic 33, 3) := by decide +kernel
theorem dX2_weather_36 : decode cX2_weather 36 = .ok (.putfield 24, 3) := by decide +kernel
theorem dX2_weather_39 : decode cX2_weather 39 = .ok (.return_, 1) := by decide +kernel
theorem dX2_copyFrom_0 : decode cX2_copyFrom 0 = .ok (.aload_n 0, 1) := by decide +kernel
theorem dX2_copyFrom_1 : decode cX2_copyFrom 1 = .ok (.aload_n 1, 1) := by decide +kernel
theorem dX2_copyFrom_2 : decode cX2_copyFrom 2 = .ok (.getfield 24, 3) := by decide +kernel
theorem dX2_copyFrom_5 : decode cX2_copyFrom 5 = .ok (.putfield 24, 3) := by decide +kernel
theorem dX2_copyFrom_8 : decode cX2_copyFrom 8 = .ok (.return_, 1) := by decide +kernel
theorem dX3_init_0 : decode cX3_init 0 = .ok (.aload_n 0, 1) := by decide +kernel
theorem dX3_init_1 : decode cX3_init 1 = .ok (.invokespecial 3, 3) := by decide +kernel
theorem dX3_init_4 : decode cX3_init 4 = .ok (.aload_n 0, 1) := by decide +kernel
theorem dX3_init_5 : decode cX3_init 5 = .ok (.bipush 10, 2) := by decide +kernel
theorem dX3_init_7 : decode cX3_init 7 = .ok (.newarray .int, 2) := by decide +kernel
theorem dX3_init_9 : decode cX3_init 9 = .ok (.putfield 9, 3) := by decide +kernel
theorem dX3_init_12 : decode cX3_init 12 = .ok (.return_, 1) := by decide +kernel
theorem dX3_size_0 : decode cX3_size 0 = .ok (.aload_n 0, 1) := by decide +kernel
theorem dX3_size_1 : decode cX3_size 1 = .ok (.getfield 15, 3) := by decide +kernel
theorem dX3_size_4 : decode cX3_size 4 = .ok (.ireturn, 1) := by decide +kernel
theorem dX3_readerAt_0 : decode cX3_readerAt 0 = .ok (.iload_n 1, 1) := by decide +kernel
theorem dX3_readerAt_1 : decode cX3_readerAt 1 = .ok (.ifCond .lt 29, 3) := by decide +kernel
theorem dX3_readerAt_4 : decode cX3_readerAt 4 = .ok (.iload_n 1, 1) := by decide +kernel
theorem dX3_readerAt_5 : decode cX3_readerAt 5 = .ok (.aload_n 0, 1) := by decide +kernel
theorem dX3_readerAt_6 : decode cX3_readerAt 6 = .ok (.getfield 15, 3) := by decide +kernel
theorem dX3_readerAt_9 : decode cX3_readerAt 9 = .ok (.if_icmp .ge 21, 3) := by decide +kernel
theorem dX3_readerAt_12 : decode cX3_readerAt 12 = .ok (.iload_n 1, 1) := by decide +kernel
theorem dX3_readerAt_13 : decode cX3_readerAt 13 = .ok (.aload_n 0, 1) := by decide +kernel
theorem dX3_readerAt_14 : decode cX3_readerAt 14 = .ok (.getfield 9, 3) := by decide +kernel
theorem dX3_readerAt_17 : decode cX3_readerAt 17 = .ok (.arraylength, 1) := by decide +kernel
theorem dX3_readerAt_18 : decode cX3_readerAt 18 = .ok (.if_icmp .ge 12, 3) := by decide +kernel
theorem dX3_readerAt_21 : decode cX3_readerAt 21 = .ok (.aload_n 0, 1) := by decide +kernel
theorem dX3_readerAt_22 : decode cX3_readerAt 22 = .ok (.getfield 9, 3) := by decide +kernel
theorem dX3_readerAt_25 : decode cX3_readerAt 25 = .ok (.iload_n 1, 1) := by decide +kernel
theorem dX3_readerAt_26 : decode cX3_readerAt 26 = .ok (.iaload, 1) := by decide +kernel
theorem dX3_readerAt_27 : decode cX3_readerAt 27 = .ok (.goto 4, 3) := by decide +kernel
theorem dX3_readerAt_30 : decode cX3_readerAt 30 = .ok (.iconst (-1), 1) := by decide +kernel
theorem dX3_readerAt_31 : decode cX3_readerAt 31 = .ok (.ireturn, 1) := by decide +kernel
theorem dX3_first_0 : decode cX3_first 0 = .ok (.aload_n 0, 1) := by decide +kernel
theorem dX3_first_1 : decode cX3_first 1 = .ok (.getfield 15, 3) := by decide +kernel
theorem dX3_first_4 : decode cX3_first 4 = .ok (.ifCond .le 20, 3) := by decide +kernel
theorem dX3_first_7 : decode cX3_first 7 = .ok (.aload_n 0, 1) := by decide +kernel
theorem dX3_first_8 : decode cX3_first 8 = .ok (.getfield 9, 3) := by decide +kernel
theorem dX3_first_11 : decode cX3_first 11 = .ok (.arraylength, 1) := by decide +kernel
theorem dX3_first_12 : decode cX3_first 12 = .ok (.ifCond .le 12, 3) := by decide +kernel
theorem dX3_first_15 : decode cX3_first 15 = .ok (.aload_n 0, 1) := by decide +kernel
theorem dX3_first_16 : decode cX3_first 16 = .ok (.getfield 9, 3) := by decide +kernel
theorem dX3_first_19 : decode cX3_first 19 = .ok (.iconst 0, 1) := by decide +kernel
theorem dX3_first_20 : decode cX3_first 20 = .ok (.iaload, 1) := by decide +kernel
theorem dX3_first_21 : decode cX3_first 21 = .ok (.goto 4, 3) := by decide +kernel
theorem dX3_first_24 : decode cX3_first 24 = .ok (.iconst (-1), 1) := by decide +kernel
theorem dX3_first_25 : decode cX3_first 25 = .ok (.ireturn, 1) := by decide +kernel
theorem dX3_placeOf_0 : decode cX3_placeOf 0 = .ok (.iconst 0, 1) := by decide +kernel
theorem dX3_placeOf_1 : decode cX3_placeOf 1 = .ok (.istore_n 2, 1) := by decide +kernel
theorem dX3_placeOf_2 : decode cX3_placeOf 2 = .ok (.iload_n 2, 1) := by decide +kernel
theorem dX3_placeOf_3 : decode cX3_placeOf 3 = .ok (.aload_n 0, 1) := by decide +kernel
theorem dX3_placeOf_4 : decode cX3_placeOf 4 = .ok (.getfield 15, 3) := by decide +kernel
theorem dX3_placeOf_7 : decode cX3_placeOf 7 = .ok (.if_icmp .ge 30, 3) := by decide +kernel
theorem dX3_placeOf_10 : decode cX3_placeOf 10 = .ok (.iload_n 2, 1) := by decide +kernel
theorem dX3_placeOf_11 : decode cX3_placeOf 11 = .ok (.aload_n 0, 1) := by decide +kernel
theorem dX3_placeOf_12 : decode cX3_placeOf 12 = .ok (.getfield 9, 3) := by decide +kernel
theorem dX3_placeOf_15 : decode cX3_placeOf 15 = .ok (.arraylength, 1) := by decide +kernel
theorem dX3_placeOf_16 : decode cX3_placeOf 16 = .ok (.if_icmp .ge 21, 3) := by decide +kernel
theorem dX3_placeOf_19 : decode cX3_placeOf 19 = .ok (.aload_n 0, 1) := by decide +kernel
theorem dX3_placeOf_20 : decode cX3_placeOf 20 = .ok (.getfield 9, 3) := by decide +kernel
theorem dX3_placeOf_23 : decode cX3_placeOf 23 = .ok (.iload_n 2, 1) := by decide +kernel
theorem dX3_placeOf_24 : decode cX3_placeOf 24 = .ok (.iaload, 1) := by decide +kernel
theorem dX3_placeOf_25 : decode cX3_placeOf 25 = .ok (.iload_n 1, 1) := by decide +kernel
theorem dX3_placeOf_26 : decode cX3_placeOf 26 = .ok (.if_icmp .ne 5, 3) := by decide +kernel
theorem dX3_placeOf_29 : decode cX3_placeOf 29 = .ok (.iload_n 2, 1) := by decide +kernel
theorem dX3_placeOf_30 : decode cX3_placeOf 30 = .ok (.ireturn, 1) := by decide +kernel
theorem dX3_placeOf_31 : decode cX3_placeOf 31 = .ok (.iinc 2 1, 3) := by decide +kernel
theorem dX3_placeOf_34 : decode cX3_placeOf 34 = .ok (.goto (-32), 3) := by decide +kernel
theorem dX3_placeOf_37 : decode cX3_placeOf 37 = .ok (.iconst (-1), 1) := by decide +kernel
theorem dX3_placeOf_38 : decode cX3_placeOf 38 = .ok (.ireturn, 1) := by decide +kernel
theorem dX3_join_0 : decode cX3_join 0 = .ok (.aload_n 0, 1) := by decide +kernel
theorem dX3_join_1 : decode cX3_join 1 = .ok (.getfield 15, 3) := by decide +kernel
theorem dX3_join_4 : decode cX3_join 4 = .ok (.ifCond .lt 35, 3) := by decide +kernel
theorem dX3_join_7 : decode cX3_join 7 = .ok (.aload_n 0, 1) := by decide +kernel
theorem dX3_join_8 : decode cX3_join 8 = .ok (.getfield 15, 3) := by decide +kernel
theorem dX3_join_11 : decode cX3_join 11 = .ok (.aload_n 0, 1) := by decide +kernel
theorem dX3_join_12 : decode cX3_join 12 = .ok (.getfield 9, 3) := by decide +kernel
theorem dX3_join_15 : decode cX3_join 15 = .ok (.arraylength, 1) := by decide +kernel
theorem dX3_join_16 : decode cX3_join 16 = .ok (.if_icmp .ge 23, 3) := by decide +kernel
theorem dX3_join_19 : decode cX3_join 19 = .ok (.aload_n 0, 1) := by decide +kernel
theorem dX3_join_20 : decode cX3_join 20 = .ok (.getfield 9, 3) := by decide +kernel
theorem dX3_join_23 : decode cX3_join 23 = .ok (.aload_n 0, 1) := by decide +kernel
theorem dX3_join_24 : decode cX3_join 24 = .ok (.getfield 15, 3) := by decide +kernel
theorem dX3_join_27 : decode cX3_join 27 = .ok (.iload_n 1, 1) := by decide +kernel
theorem dX3_join_28 : decode cX3_join 28 = .ok (.iastore, 1) := by decide +kernel
theorem dX3_join_29 : decode cX3_join 29 = .ok (.aload_n 0, 1) := by decide +kernel
theorem dX3_join_30 : decode cX3_join 30 = .ok (.dup, 1) := by decide +kernel
theorem dX3_join_31 : decode cX3_join 31 = .ok (.getfield 15, 3) := by decide +kernel
theorem dX3_join_34 : decode cX3_join 34 = .ok (.iconst 1, 1) := by decide +kernel
theorem dX3_join_35 : decode cX3_join 35 = .ok (.iadd, 1) := by decide +kernel
theorem dX3_join_36 : decode cX3_join 36 = .ok (.putfield 15, 3) := by decide +kernel
theorem dX3_join_39 : decode cX3_join 39 = .ok (.return_, 1) := by decide +kernel
theorem dX3_dropPlace_0 : decode cX3_dropPlace 0 = .ok (.iload_n 1, 1) := by decide +kernel
theorem dX3_dropPlace_1 : decode cX3_dropPlace 1 = .ok (.ifCond .lt 11, 3) := by decide +kernel
theorem dX3_dropPlace_4 : decode cX3_dropPlace 4 = .ok (.iload_n 1, 1) := by decide +kernel
theorem dX3_dropPlace_5 : decode cX3_dropPlace 5 = .ok (.aload_n 0, 1) := by decide +kernel
theorem dX3_dropPlace_6 : decode cX3_dropPlace 6 = .ok (.getfield 15, 3) := by decide +kernel
theorem dX3_dropPlace_9 : decode cX3_dropPlace 9 = .ok (.if_icmp .lt 4, 3) := by decide +kernel
theorem dX3_dropPlace_12 : decode cX3_dropPlace 12 = .ok (.return_, 1) := by decide +kernel
theorem dX3_dropPlace_13 : decode cX3_dropPlace 13 = .ok (.iload_n 1, 1) := by decide +kernel
theorem dX3_dropPlace_14 : decode cX3_dropPlace 14 = .ok (.istore_n 2, 1) := by decide +kernel
theorem dX3_dropPlace_15 : decode cX3_dropPlace 15 = .ok (.iload_n 2, 1) := by decide +kernel
theorem dX3_dropPlace_16 : decode cX3_dropPlace 16 = .ok (.iconst 1, 1) := by decide +kernel
theorem dX3_dropPlace_17 : decode cX3_dropPlace 17 = .ok (.iadd, 1) := by decide +kernel
theorem dX3_dropPlace_18 : decode cX3_dropPlace 18 = .ok (.aload_n 0, 1) := by decide +kernel
theorem dX3_dropPlace_19 : decode cX3_dropPlace 19 = .ok (.getfield 15, 3) := by decide +kernel
theorem dX3_dropPlace_22 : decode cX3_dropPlace 22 = .ok (.if_icmp .ge 34, 3) := by decide +kernel
theorem dX3_dropPlace_25 : decode cX3_dropPlace 25 = .ok (.iload_n 2, 1) := by decide +kernel
theorem dX3_dropPlace_26 : decode cX3_dropPlace 26 = .ok (.iconst 1, 1) := by decide +kernel
theorem dX3_dropPlace_27 : decode cX3_dropPlace 27 = .ok (.iadd, 1) := by decide +kernel
theorem dX3_dropPlace_28 : decode cX3_dropPlace 28 = .ok (.aload_n 0, 1) := by decide +kernel
theorem dX3_dropPlace_29 : decode cX3_dropPlace 29 = .ok (.getfield 9, 3) := by decide +kernel
theorem dX3_dropPlace_32 : decode cX3_dropPlace 32 = .ok (.arraylength, 1) := by decide +kernel
theorem dX3_dropPlace_33 : decode cX3_dropPlace 33 = .ok (.if_icmp .ge 23, 3) := by decide +kernel
theorem dX3_dropPlace_36 : decode cX3_dropPlace 36 = .ok (.aload_n 0, 1) := by decide +kernel
theorem dX3_dropPlace_37 : decode cX3_dropPlace 37 = .ok (.getfield 9, 3) := by decide +kernel
theorem dX3_dropPlace_40 : decode cX3_dropPlace 40 = .ok (.iload_n 2, 1) := by decide +kernel
theorem dX3_dropPlace_41 : decode cX3_dropPlace 41 = .ok (.aload_n 0, 1) := by decide +kernel
theorem dX3_dropPlace_42 : decode cX3_dropPlace 42 = .ok (.getfield 9, 3) := by decide +kernel
theorem dX3_dropPlace_45 : decode cX3_dropPlace 45 = .ok (.iload_n 2, 1) := by decide +kernel
theorem dX3_dropPlace_46 : decode cX3_dropPlace 46 = .ok (.iconst 1, 1) := by decide +kernel
theorem dX3_dropPlace_47 : decode cX3_dropPlace 47 = .ok (.iadd, 1) := by decide +kernel
theorem dX3_dropPlace_48 : decode cX3_dropPlace 48 = .ok (.iaload, 1) := by decide +kernel
theorem dX3_dropPlace_49 : decode cX3_dropPlace 49 = .ok (.iastore, 1) := by decide +kernel
theorem dX3_dropPlace_50 : decode cX3_dropPlace 50 = .ok (.iinc 2 1, 3) := by decide +kernel
theorem dX3_dropPlace_53 : decode cX3_dropPlace 53 = .ok (.goto (-38), 3) := by decide +kernel
theorem dX3_dropPlace_56 : decode cX3_dropPlace 56 = .ok (.aload_n 0, 1) := by decide +kernel
theorem dX3_dropPlace_57 : decode cX3_dropPlace 57 = .ok (.dup, 1) := by decide +kernel
theorem dX3_dropPlace_58 : decode cX3_dropPlace 58 = .ok (.getfield 15, 3) := by decide +kernel
theorem dX3_dropPlace_61 : decode cX3_dropPlace 61 = .ok (.iconst 1, 1) := by decide +kernel
theorem dX3_dropPlace_62 : decode cX3_dropPlace 62 = .ok (.isub, 1) := by decide +kernel
theorem dX3_dropPlace_63 : decode cX3_dropPlace 63 = .ok (.putfield 15, 3) := by decide +kernel
theorem dX3_dropPlace_66 : decode cX3_dropPlace 66 = .ok (.return_, 1) := by decide +kernel
theorem dX3_copyFrom_0 : decode cX3_copyFrom 0 = .ok (.aload_n 1, 1) := by decide +kernel
theorem dX3_copyFrom_1 : decode cX3_copyFrom 1 = .ok (.getfield 9, 3) := by decide +kernel
theorem dX3_copyFrom_4 : decode cX3_copyFrom 4 = .ok (.aload_n 0, 1) := by decide +kernel
theorem dX3_copyFrom_5 : decode cX3_copyFrom 5 = .ok (.getfield 9, 3) := by decide +kernel
theorem dX3_copyFrom_8 : decode cX3_copyFrom 8 = .ok (.invokestatic 19, 3) := by decide +kernel
theorem dX3_copyFrom_11 : decode cX3_copyFrom 11 = .ok (.aload_n 0, 1) := by decide +kernel
theorem dX3_copyFrom_12 : decode cX3_copyFrom 12 = .ok (.aload_n 1, 1) := by decide +kernel
theorem dX3_copyFrom_13 : decode cX3_copyFrom 13 = .ok (.getfield 15, 3) := by decide +kernel
theorem dX3_copyFrom_16 : decode cX3_copyFrom 16 = .ok (.putfield 15, 3) := by decide +kernel
theorem dX3_copyFrom_19 : decode cX3_copyFrom 19 = .ok (.return_, 1) := by decide +kernel
theorem dX4_init_0 : decode cX4_init 0 = .ok (.aload_n 0, 1) := by decide +kernel
theorem dX4_init_1 : decode cX4_init 1 = .ok (.invokespecial 3, 3) := by decide +kernel
theorem dX4_init_4 : decode cX4_init 4 = .ok (.aload_n 0, 1) := by decide +kernel
theorem dX4_init_5 : decode cX4_init 5 = .ok (.iload_n 1, 1) := by decide +kernel
theorem dX4_init_6 : decode cX4_init 6 = .ok (.putfield 9, 3) := by decide +kernel
theorem dX4_init_9 : decode cX4_init 9 = .ok (.aload_n 0, 1) := by decide +kernel
theorem dX4_init_10 : decode cX4_init 10 = .ok (.iload_n 2, 1) := by decide +kernel
theorem dX4_init_11 : decode cX4_init 11 = .ok (.putfield 15, 3) := by decide +kernel
theorem dX4_init_14 : decode cX4_init 14 = .ok (.aload_n 0, 1) := by decide +kernel
theorem dX4_init_15 : decode cX4_init 15 = .ok (.iload_n 3, 1) := by decide +kernel
theorem dX4_init_16 : decode cX4_init 16 = .ok (.putfield 18, 3) := by decide +kernel
theorem dX4_init_19 : decode cX4_init 19 = .ok (.aload_n 0, 1) := by decide +kernel
theorem dX4_init_20 : decode cX4_init 20 = .ok (.iload 4, 2) := by decide +kernel
theorem dX4_init_22 : decode cX4_init 22 = .ok (.putfield 21, 3) := by decide +kernel
theorem dX4_init_25 : decode cX4_init 25 = .ok (.return_, 1) := by decide +kernel
theorem dX4_takesMore_0 : decode cX4_takesMore 0 = .ok (.aload_n 0, 1) := by decide +kernel
theorem dX4_takesMore_1 : decode cX4_takesMore 1 = .ok (.getfield 24, 3) := by decide +kernel
theorem dX4_takesMore_4 : decode cX4_takesMore 4 = .ok (.iconst 3, 1) := by decide +kernel
theorem dX4_takesMore_5 : decode cX4_takesMore 5 = .ok (.if_icmp .ge 7, 3) := by decide +kernel
theorem dX4_takesMore_8 : decode cX4_takesMore 8 = .ok (.iconst 1, 1) := by decide +kernel
theorem dX4_takesMore_9 : decode cX4_takesMore 9 = .ok (.goto 4, 3) := by decide +kernel
theorem dX4_takesMore_12 : decode cX4_takesMore 12 = .ok (.iconst 0, 1) := by decide +kernel
theorem dX4_takesMore_13 : decode cX4_takesMore 13 = .ok (.ireturn, 1) := by decide +kernel
theorem dX4_hasRead_0 : decode cX4_hasRead 0 = .ok (.aload_n 0, 1) := by decide +kernel
theorem dX4_hasRead_1 : decode cX4_hasRead 1 = .ok (.getfield 27, 3) := by decide +kernel
theorem dX4_hasRead_4 : decode cX4_hasRead 4 = .ok (.iload_n 1, 1) := by decide +kernel
theorem dX4_hasRead_5 : decode cX4_hasRead 5 = .ok (.ishr, 1) := by decide +kernel
theorem dX4_hasRead_6 : decode cX4_hasRead 6 = .ok (.iconst 1, 1) := by decide +kernel
theorem dX4_hasRead_7 : decode cX4_hasRead 7 = .ok (.iand, 1) := by decide +kernel
theorem dX4_hasRead_8 : decode cX4_hasRead 8 = .ok (.iconst 1, 1) := by decide +kernel
theorem dX4_hasRead_9 : decode cX4_hasRead 9 = .ok (.if_icmp .ne 7, 3) := by decide +kernel
theorem dX4_hasRead_12 : decode cX4_hasRead 12 = .ok (.iconst 1, 1) := by decide +kernel
theorem dX4_hasRead_13 : decode cX4_hasRead 13 = .ok (.goto 4, 3) := by decide +kernel
theorem dX4_hasRead_16 : decode cX4_hasRead 16 = .ok (.iconst 0, 1) := by decide +kernel
theorem dX4_hasRead_17 : decode cX4_hasRead 17 = .ok (.ireturn, 1) := by decide +kernel
theorem dX4_copyFrom_0 : decode cX4_copyFrom 0 = .ok (.aload_n 0, 1) := by decide +kernel
theorem dX4_copyFrom_1 : decode cX4_copyFrom 1 = .ok (.aload_n 1, 1) := by decide +kernel
theorem dX4_copyFrom_2 : decode cX4_copyFrom 2 = .ok (.getfield 24, 3) := by decide +kernel
theorem dX4_copyFrom_5 : decode cX4_copyFrom 5 = .ok (.putfield 24, 3) := by decide +kernel
theorem dX4_copyFrom_8 : decode cX4_copyFrom 8 = .ok (.aload_n 0, 1) := by decide +kernel
theorem dX4_copyFrom_9 : decode cX4_copyFrom 9 = .ok (.aload_n 1, 1) := by decide +kernel
theorem dX4_copyFrom_10 : decode cX4_copyFrom 10 = .ok (.getfield 27, 3) := by decide +kernel
theorem dX4_copyFrom_13 : decode cX4_copyFrom 13 = .ok (.putfield 27, 3) := by decide +kernel
theorem dX4_copyFrom_16 : decode cX4_copyFrom 16 = .ok (.aload_n 0, 1) := by decide +kernel
theorem dX4_copyFrom_17 : decode cX4_copyFrom 17 = .ok (.aload_n 1, 1) := by decide +kernel
theorem dX4_copyFrom_18 : decode cX4_copyFrom 18 = .ok (.getfield 30, 3) := by decide +kernel
theorem dX4_copyFrom_21 : decode cX4_copyFrom 21 = .ok (.putfield 30, 3) := by decide +kernel
theorem dX4_copyFrom_24 : decode cX4_copyFrom 24 = .ok (.aload_n 0, 1) := by decide +kernel
theorem dX4_copyFrom_25 : decode cX4_copyFrom 25 = .ok (.aload_n 1, 1) := by decide +kernel
theorem dX4_copyFrom_26 : decode cX4_copyFrom 26 = .ok (.getfield 33, 3) := by decide +kernel
theorem dX4_copyFrom_29 : decode cX4_copyFrom 29 = .ok (.putfield 33, 3) := by decide +kernel
theorem dX4_copyFrom_32 : decode cX4_copyFrom 32 = .ok (.return_, 1) := by decide +kernel
theorem dX5_init_0 : decode cX5_init 0 = .ok (.aload_n 0, 1) := by decide +kernel
theorem dX5_init_1 : decode cX5_init 1 = .ok (.invokespecial 3, 3) := by decide +kernel
theorem dX5_init_4 : decode cX5_init 4 = .ok (.aload_n 0, 1) := by decide +kernel
theorem dX5_init_5 : decode cX5_init 5 = .ok (.bipush 8, 2) := by decide +kernel
theorem dX5_init_7 : decode cX5_init 7 = .ok (.newarray .int, 2) := by decide +kernel
theorem dX5_init_9 : decode cX5_init 9 = .ok (.putfield 9, 3) := by decide +kernel
theorem dX5_init_12 : decode cX5_init 12 = .ok (.aload_n 0, 1) := by decide +kernel
theorem dX5_init_13 : decode cX5_init 13 = .ok (.bipush 120, 2) := by decide +kernel
theorem dX5_init_15 : decode cX5_init 15 = .ok (.putfield 15, 3) := by decide +kernel
theorem dX5_init_18 : decode cX5_init 18 = .ok (.return_, 1) := by decide +kernel
theorem dX5_size_0 : decode cX5_size 0 = .ok (.aload_n 0, 1) := by decide +kernel
theorem dX5_size_1 : decode cX5_size 1 = .ok (.getfield 19, 3) := by decide +kernel
theorem dX5_size_4 : decode cX5_size 4 = .ok (.ireturn, 1) := by decide +kernel
theorem dX5_haltAt_0 : decode cX5_haltAt 0 = .ok (.iload_n 1, 1) := by decide +kernel
theorem dX5_haltAt_1 : decode cX5_haltAt 1 = .ok (.ifCond .lt 21, 3) := by decide +kernel
theorem dX5_haltAt_4 : decode cX5_haltAt 4 = .ok (.iload_n 1, 1) := by decide +kernel
theorem dX5_haltAt_5 : decode cX5_haltAt 5 = .ok (.aload_n 0, 1) := by decide +kernel
theorem dX5_haltAt_6 : decode cX5_haltAt 6 = .ok (.getfield 9, 3) := by decide +kernel
theorem dX5_haltAt_9 : decode cX5_haltAt 9 = .ok (.arraylength, 1) := by decide +kernel
theorem dX5_haltAt_10 : decode cX5_haltAt 10 = .ok (.if_icmp .ge 12, 3) := by decide +kernel
theorem dX5_haltAt_13 : decode cX5_haltAt 13 = .ok (.aload_n 0, 1) := by decide +kernel
theorem dX5_haltAt_14 : decode cX5_haltAt 14 = .ok (.getfield 9, 3) := by decide +kernel
theorem dX5_haltAt_17 : decode cX5_haltAt 17 = .ok (.iload_n 1, 1) := by decide +kernel
theorem dX5_haltAt_18 : decode cX5_haltAt 18 = .ok (.iaload, 1) := by decide +kernel
theorem dX5_haltAt_19 : decode cX5_haltAt 19 = .ok (.goto 4, 3) := by decide +kernel
theorem dX5_haltAt_22 : decode cX5_haltAt 22 = .ok (.iconst (-1), 1) := by decide +kernel
theorem dX5_haltAt_23 : decode cX5_haltAt 23 = .ok (.ireturn, 1) := by decide +kernel
theorem dX5_append_0 : decode cX5_append 0 = .ok (.aload_n 0, 1) := by decide +kernel
theorem dX5_append_1 : decode cX5_append 1 = .ok (.getfield 19, 3) := by decide +kernel
theorem dX5_append_4 : decode cX5_append 4 = .ok (.ifCond .lt 35, 3) := by decide +kernel
theorem dX5_append_7 : decode cX5_append 7 = .ok (.aload_n 0, 1) := by decide +kernel
theorem dX5_append_8 : decode cX5_append 8 = .ok (.getfield 19, 3) := by decide +kernel
theorem dX5_append_11 : decode cX5_append 11 = .ok (.aload_n 0, 1) := by decide +kernel
theorem dX5_append_12 : decode cX5_append 12 = .ok (.getfield 9, 3) := by decide +kernel
theorem dX5_append_15 : decode cX5_append 15 = .ok (.arraylength, 1) := by decide +kernel
theorem dX5_append_16 : decode cX5_append 16 = .ok (.if_icmp .ge 23, 3) := by decide +kernel
theorem dX5_append_19 : decode cX5_append 19 = .ok (.aload_n 0, 1) := by decide +kernel
theorem dX5_append_20 : decode cX5_append 20 = .ok (.getfield 9, 3) := by decide +kernel
theorem dX5_append_23 : decode cX5_append 23 = .ok (.aload_n 0, 1) := by decide +kernel
theorem dX5_append_24 : decode cX5_append 24 = .ok (.getfield 19, 3) := by decide +kernel
theorem dX5_append_27 : decode cX5_append 27 = .ok (.iload_n 1, 1) := by decide +kernel
theorem dX5_append_28 : decode cX5_append 28 = .ok (.iastore, 1) := by decide +kernel
theorem dX5_append_29 : decode cX5_append 29 = .ok (.aload_n 0, 1) := by decide +kernel
theorem dX5_append_30 : decode cX5_append 30 = .ok (.dup, 1) := by decide +kernel
theorem dX5_append_31 : decode cX5_append 31 = .ok (.getfield 19, 3) := by decide +kernel
theorem dX5_append_34 : decode cX5_append 34 = .ok (.iconst 1, 1) := by decide +kernel
theorem dX5_append_35 : decode cX5_append 35 = .ok (.iadd, 1) := by decide +kernel
theorem dX5_append_36 : decode cX5_append 36 = .ok (.putfield 19, 3) := by decide +kernel
theorem dX5_append_39 : decode cX5_append 39 = .ok (.return_, 1) := by decide +kernel
theorem dX5_tellAnew_0 : decode cX5_tellAnew 0 = .ok (.aload_n 0, 1) := by decide +kernel
theorem dX5_tellAnew_1 : decode cX5_tellAnew 1 = .ok (.iload_n 2, 1) := by decide +kernel
theorem dX5_tellAnew_2 : decode cX5_tellAnew 2 = .ok (.putfield 15, 3) := by decide +kernel
theorem dX5_tellAnew_5 : decode cX5_tellAnew 5 = .ok (.aload_n 0, 1) := by decide +kernel
theorem dX5_tellAnew_6 : decode cX5_tellAnew 6 = .ok (.iconst 0, 1) := by decide +kernel
theorem dX5_tellAnew_7 : decode cX5_tellAnew 7 = .ok (.putfield 19, 3) := by decide +kernel
theorem dX5_tellAnew_10 : decode cX5_tellAnew 10 = .ok (.ldc 22, 2) := by decide +kernel
theorem dX5_tellAnew_12 : decode cX5_tellAnew 12 = .ok (.istore_n 3, 1) := by decide +kernel
theorem dX5_tellAnew_13 : decode cX5_tellAnew 13 = .ok (.iload_n 3, 1) := by decide +kernel
theorem dX5_tellAnew_14 : decode cX5_tellAnew 14 = .ok (.ifCond .le 32, 3) := by decide +kernel
theorem dX5_tellAnew_17 : decode cX5_tellAnew 17 = .ok (.iload_n 1, 1) := by decide +kernel
theorem dX5_tellAnew_18 : decode cX5_tellAnew 18 = .ok (.iload_n 3, 1) := by decide +kernel
theorem dX5_tellAnew_19 : decode cX5_tellAnew 19 = .ok (.idiv, 1) := by decide +kernel
theorem dX5_tellAnew_20 : decode cX5_tellAnew 20 = .ok (.bipush 10, 2) := by decide +kernel
theorem dX5_tellAnew_22 : decode cX5_tellAnew 22 = .ok (.irem, 1) := by decide +kernel
theorem dX5_tellAnew_23 : decode cX5_tellAnew 23 = .ok (.istore 4, 2) := by decide +kernel
theorem dX5_tellAnew_25 : decode cX5_tellAnew 25 = .ok (.iload 4, 2) := by decide +kernel
theorem dX5_tellAnew_27 : decode cX5_tellAnew 27 = .ok (.ifCond .le 11, 3) := by decide +kernel
theorem dX5_tellAnew_30 : decode cX5_tellAnew 30 = .ok (.aload_n 0, 1) := by decide +kernel
theorem dX5_tellAnew_31 : decode cX5_tellAnew 31 = .ok (.iload 4, 2) := by decide +kernel
theorem dX5_tellAnew_33 : decode cX5_tellAnew 33 = .ok (.iconst 1, 1) := by decide +kernel
theorem dX5_tellAnew_34 : decode cX5_tellAnew 34 = .ok (.isub, 1) := by decide +kernel
theorem dX5_tellAnew_35 : decode cX5_tellAnew 35 = .ok (.invokevirtual 23, 3) := by decide +kernel
theorem dX5_tellAnew_38 : decode cX5_tellAnew 38 = .ok (.iload_n 3, 1) := by decide +kernel
theorem dX5_tellAnew_39 : decode cX5_tellAnew 39 = .ok (.bipush 10, 2) := by decide +kernel
theorem dX5_tellAnew_41 : decode cX5_tellAnew 41 = .ok (.idiv, 1) := by decide +kernel
theorem dX5_tellAnew_42 : decode cX5_tellAnew 42 = .ok (.istore_n 3, 1) := by decide +kernel
theorem dX5_tellAnew_43 : decode cX5_tellAnew 43 = .ok (.goto (-30), 3) := by decide +kernel
theorem dX5_tellAnew_46 : decode cX5_tellAnew 46 = .ok (.return_, 1) := by decide +kernel
theorem dX5_timesOf_0 : decode cX5_timesOf 0 = .ok (.iconst 0, 1) := by decide +kernel
theorem dX5_timesOf_1 : decode cX5_timesOf 1 = .ok (.istore_n 2, 1) := by decide +kernel
theorem dX5_timesOf_2 : decode cX5_timesOf 2 = .ok (.iconst 0, 1) := by decide +kernel
theorem dX5_timesOf_3 : decode cX5_timesOf 3 = .ok (.istore_n 3, 1) := by decide +kernel
theorem dX5_timesOf_4 : decode cX5_timesOf 4 = .ok (.iload_n 3, 1) := by decide +kernel
theorem dX5_timesOf_5 : decode cX5_timesOf 5 = .ok (.aload_n 0, 1) := by decide +kernel
theorem dX5_timesOf_6 : decode cX5_timesOf 6 = .ok (.getfield 19, 3) := by decide +kernel
theorem dX5_timesOf_9 : decode cX5_timesOf 9 = .ok (.if_icmp .ge 21, 3) := by decide +kernel
theorem dX5_timesOf_12 : decode cX5_timesOf 12 = .ok (.aload_n 0, 1) := by decide +kernel
theorem dX5_timesOf_13 : decode cX5_timesOf 13 = .ok (.iload_n 3, 1) := by decide +kernel
theorem dX5_timesOf_14 : decode cX5_timesOf 14 = .ok (.invokevirtual 27, 3) := by decide +kernel
theorem dX5_timesOf_17 : decode cX5_timesOf 17 = .ok (.iload_n 1, 1) := by decide +kernel
theorem dX5_timesOf_18 : decode cX5_timesOf 18 = .ok (.if_icmp .ne 6, 3) := by decide +kernel
theorem dX5_timesOf_21 : decode cX5_timesOf 21 = .ok (.iinc 2 1, 3) := by decide +kernel
theorem dX5_timesOf_24 : decode cX5_timesOf 24 = .ok (.iinc 3 1, 3) := by decide +kernel
theorem dX5_timesOf_27 : decode cX5_timesOf 27 = .ok (.goto (-23), 3) := by decide +kernel
theorem dX5_timesOf_30 : decode cX5_timesOf 30 = .ok (.iload_n 2, 1) := by decide +kernel
theorem dX5_timesOf_31 : decode cX5_timesOf 31 = .ok (.ireturn, 1) := by decide +kernel
theorem dX5_copyFrom_0 : decode cX5_copyFrom 0 = .ok (.aload_n 1, 1) := by decide +kernel
theorem dX5_copyFrom_1 : decode cX5_copyFrom 1 = .ok (.getfield 9, 3) := by decide +kernel
theorem dX5_copyFrom_4 : decode cX5_copyFrom 4 = .ok (.aload_n 0, 1) := by decide +kernel
theorem dX5_copyFrom_5 : decode cX5_copyFrom 5 = .ok (.getfield 9, 3) := by decide +kernel
theorem dX5_copyFrom_8 : decode cX5_copyFrom 8 = .ok (.invokestatic 31, 3) := by decide +kernel
theorem dX5_copyFrom_11 : decode cX5_copyFrom 11 = .ok (.aload_n 0, 1) := by decide +kernel
theorem dX5_copyFrom_12 : decode cX5_copyFrom 12 = .ok (.aload_n 1, 1) := by decide +kernel
theorem dX5_copyFrom_13 : decode cX5_copyFrom 13 = .ok (.getfield 19, 3) := by decide +kernel
theorem dX5_copyFrom_16 : decode cX5_copyFrom 16 = .ok (.putfield 19, 3) := by decide +kernel
theorem dX5_copyFrom_19 : decode cX5_copyFrom 19 = .ok (.aload_n 0, 1) := by decide +kernel
theorem dX5_copyFrom_20 : decode cX5_copyFrom 20 = .ok (.aload_n 1, 1) := by decide +kernel
theorem dX5_copyFrom_21 : decode cX5_copyFrom 21 = .ok (.getfield 15, 3) := by decide +kernel
theorem dX5_copyFrom_24 : decode cX5_copyFrom 24 = .ok (.putfield 15, 3) := by decide +kernel
theorem dX5_copyFrom_27 : decode cX5_copyFrom 27 = .ok (.return_, 1) := by decide +kernel
theorem dX6_init_0 : decode cX6_init 0 = .ok (.aload_n 0, 1) := by decide +kernel
theorem dX6_init_1 : decode cX6_init 1 = .ok (.invokespecial 3, 3) := by decide +kernel
theorem dX6_init_4 : decode cX6_init 4 = .ok (.aload_n 0, 1) := by decide +kernel
theorem dX6_init_5 : decode cX6_init 5 = .ok (.bipush 64, 2) := by decide +kernel
theorem dX6_init_7 : decode cX6_init 7 = .ok (.newarray .int, 2) := by decide +kernel
theorem dX6_init_9 : decode cX6_init 9 = .ok (.putfield 9, 3) := by decide +kernel
theorem dX6_init_12 : decode cX6_init 12 = .ok (.return_, 1) := by decide +kernel
theorem dX6_measure_0 : decode cX6_measure 0 = .ok (.iconst 0, 1) := by decide +kernel
theorem dX6_measure_1 : decode cX6_measure 1 = .ok (.istore_n 3, 1) := by decide +kernel
theorem dX6_measure_2 : decode cX6_measure 2 = .ok (.iload_n 3, 1) := by decide +kernel
theorem dX6_measure_3 : decode cX6_measure 3 = .ok (.aload_n 0, 1) := by decide +kernel
theorem dX6_measure_4 : decode cX6_measure 4 = .ok (.getfield 9, 3) := by decide +kernel
theorem dX6_measure_7 : decode cX6_measure 7 = .ok (.arraylength, 1) := by decide +kernel
theorem dX6_measure_8 : decode cX6_measure 8 = .ok (.if_icmp .ge 17, 3) := by decide +kernel
theorem dX6_measure_11 : decode cX6_measure 11 = .ok (.aload_n 0, 1) := by decide +kernel
theorem dX6_measure_12 : decode cX6_measure 12 = .ok (.getfield 9, 3) := by decide +kernel
theorem dX6_measure_15 : decode cX6_measure 15 = .ok (.iload_n 3, 1) := by decide +kernel
theorem dX6_measure_16 : decode cX6_measure 16 = .ok (.ldc 15, 2) := by decide +kernel
theorem dX6_measure_18 : decode cX6_measure 18 = .ok (.iastore, 1) := by decide +kernel
theorem dX6_measure_19 : decode cX6_measure 19 = .ok (.iinc 3 1, 3) := by decide +kernel
theorem dX6_measure_22 : decode cX6_measure 22 = .ok (.goto (-20), 3) := by decide +kernel
theorem dX6_measure_25 : decode cX6_measure 25 = .ok (.iconst 0, 1) := by decide +kernel
theorem dX6_measure_26 : decode cX6_measure 26 = .ok (.istore_n 3, 1) := by decide +kernel
theorem dX6_measure_27 : decode cX6_measure 27 = .ok (.iload_n 3, 1) := by decide +kernel
theorem dX6_measure_28 : decode cX6_measure 28 = .ok (.aload_n 2, 1) := by decide +kernel
theorem dX6_measure_29 : decode cX6_measure 29 = .ok (.invokevirtual 16, 3) := by decide +kernel
theorem dX6_measure_32 : decode cX6_measure 32 = .ok (.if_icmp .ge 46, 3) := by decide +kernel
theorem dX6_measure_35 : decode cX6_measure 35 = .ok (.aload_n 2, 1) := by decide +kernel
theorem dX6_measure_36 : decode cX6_measure 36 = .ok (.iload_n 3, 1) := by decide +kernel
theorem dX6_measure_37 : decode cX6_measure 37 = .ok (.invokevirtual 22, 3) := by decide +kernel
theorem dX6_measure_40 : decode cX6_measure 40 = .ok (.checkcast 26, 3) := by decide +kernel
theorem dX6_measure_43 : decode cX6_measure 43 = .ok (.astore 4, 2) := by decide +kernel
theorem dX6_measure_45 : decode cX6_measure 45 = .ok (.aload 4, 2) := by decide +kernel
theorem dX6_measure_47 : decode cX6_measure 47 = .ok (.invokevirtual 28, 3) := by decide +kernel
theorem dX6_measure_50 : decode cX6_measure 50 = .ok (.ifCond .eq 22, 3) := by decide +kernel
theorem dX6_measure_53 : decode cX6_measure 53 = .ok (.aload_n 0, 1) := by decide +kernel
theorem dX6_measure_54 : decode cX6_measure 54 = .ok (.aload 4, 2) := by decide +kernel
theorem dX6_measure_56 : decode cX6_measure 56 = .ok (.getfield 32, 3) := by decide +kernel
theorem dX6_measure_59 : decode cX6_measure 59 = .ok (.aload 4, 2) := by decide +kernel
theorem dX6_measure_61 : decode cX6_measure 61 = .ok (.getfield 36, 3) := by decide +kernel
theorem dX6_measure_64 : decode cX6_measure 64 = .ok (.aload 4, 2) := by decide +kernel
theorem dX6_measure_66 : decode cX6_measure 66 = .ok (.invokevirtual 39, 3) := by decide +kernel
theorem dX6_measure_69 : decode cX6_measure 69 = .ok (.invokevirtual 42, 3) := by decide +kernel
theorem dX6_measure_72 : decode cX6_measure 72 = .ok (.iinc 3 1, 3) := by decide +kernel
theorem dX6_measure_75 : decode cX6_measure 75 = .ok (.goto (-48), 3) := by decide +kernel
theorem dX6_measure_78 : decode cX6_measure 78 = .ok (.iconst 0, 1) := by decide +kernel
theorem dX6_measure_79 : decode cX6_measure 79 = .ok (.istore_n 3, 1) := by decide +kernel
theorem dX6_measure_80 : decode cX6_measure 80 = .ok (.iload_n 3, 1) := by decide +kernel
theorem dX6_measure_81 : decode cX6_measure 81 = .ok (.iload_n 1, 1) := by decide +kernel
theorem dX6_measure_82 : decode cX6_measure 82 = .ok (.if_icmp .ge 74, 3) := by decide +kernel
theorem dX6_measure_85 : decode cX6_measure 85 = .ok (.iconst 0, 1) := by decide +kernel
theorem dX6_measure_86 : decode cX6_measure 86 = .ok (.istore 4, 2) := by decide +kernel
theorem dX6_measure_88 : decode cX6_measure 88 = .ok (.iload 4, 2) := by decide +kernel
theorem dX6_measure_90 : decode cX6_measure 90 = .ok (.iload_n 1, 1) := by decide +kernel
theorem dX6_measure_91 : decode cX6_measure 91 = .ok (.if_icmp .ge 59, 3) := by decide +kernel
theorem dX6_measure_94 : decode cX6_measure 94 = .ok (.aload_n 0, 1) := by decide +kernel
theorem dX6_measure_95 : decode cX6_measure 95 = .ok (.iload 4, 2) := by decide +kernel
theorem dX6_measure_97 : decode cX6_measure 97 = .ok (.iload_n 3, 1) := by decide +kernel
theorem dX6_measure_98 : decode cX6_measure 98 = .ok (.invokevirtual 46, 3) := by decide +kernel
theorem dX6_measure_101 : decode cX6_measure 101 = .ok (.istore 5, 2) := by decide +kernel
theorem dX6_measure_103 : decode cX6_measure 103 = .ok (.iconst 0, 1) := by decide +kernel
theorem dX6_measure_104 : decode cX6_measure 104 = .ok (.istore 6, 2) := by decide +kernel
theorem dX6_measure_106 : decode cX6_measure 106 = .ok (.iload 5, 2) := by decide +kernel
theorem dX6_measure_108 : decode cX6_measure 108 = .ok (.ldc 15, 2) := by decide +kernel
theorem dX6_measure_110 : decode cX6_measure 110 = .ok (.if_icmp .ge 34, 3) := by decide +kernel
theorem dX6_measure_113 : decode cX6_measure 113 = .ok (.iload 6, 2) := by decide +kernel
theorem dX6_measure_115 : decode cX6_measure 115 = .ok (.iload 4, 2) := by decide +kernel
theorem dX6_measure_117 : decode cX6_measure 117 = .ok (.if_icmp .ge 27, 3) := by decide +kernel
theorem dX6_measure_120 : decode cX6_measure 120 = .ok (.aload_n 0, 1) := by decide +kernel
theorem dX6_measure_121 : decode cX6_measure 121 = .ok (.iload 4, 2) := by decide +kernel
theorem dX6_measure_123 : decode cX6_measure 123 = .ok (.iload 6, 2) := by decide +kernel
theorem dX6_measure_125 : decode cX6_measure 125 = .ok (.iload 5, 2) := by decide +kernel
theorem dX6_measure_127 : decode cX6_measure 127 = .ok (.aload_n 0, 1) := by decide +kernel
theorem dX6_measure_128 : decode cX6_measure 128 = .ok (.iload_n 3, 1) := by decide +kernel
theorem dX6_measure_129 : decode cX6_measure 129 = .ok (.iload 6, 2) := by decide +kernel
theorem dX6_measure_131 : decode cX6_measure 131 = .ok (.invokevirtual 46, 3) := by decide +kernel
theorem dX6_measure_134 : decode cX6_measure 134 = .ok (.iadd, 1) := by decide +kernel
theorem dX6_measure_135 : decode cX6_measure 135 = .ok (.invokevirtual 42, 3) := by decide +kernel
theorem dX6_measure_138 : decode cX6_measure 138 = .ok (.iinc 6 1, 3) := by decide +kernel
theorem dX6_measure_141 : decode cX6_measure 141 = .ok (.goto (-35), 3) := by decide +kernel
theorem dX6_measure_144 : decode cX6_measure 144 = .ok (.iinc 4 1, 3) := by decide +kernel
theorem dX6_measure_147 : decode cX6_measure 147 = .ok (.goto (-59), 3) := by decide +kernel
theorem dX6_measure_150 : decode cX6_measure 150 = .ok (.iinc 3 1, 3) := by decide +kernel
theorem dX6_measure_153 : decode cX6_measure 153 = .ok (.goto (-73), 3) := by decide +kernel
theorem dX6_measure_156 : decode cX6_measure 156 = .ok (.return_, 1) := by decide +kernel
theorem dX6_time_0 : decode cX6_time 0 = .ok (.iload_n 1, 1) := by decide +kernel
theorem dX6_time_1 : decode cX6_time 1 = .ok (.iload_n 2, 1) := by decide +kernel
theorem dX6_time_2 : decode cX6_time 2 = .ok (.if_icmp .ne 5, 3) := by decide +kernel
theorem dX6_time_5 : decode cX6_time 5 = .ok (.iconst 0, 1) := by decide +kernel
theorem dX6_time_6 : decode cX6_time 6 = .ok (.ireturn, 1) := by decide +kernel
theorem dX6_time_7 : decode cX6_time 7 = .ok (.iload_n 1, 1) := by decide +kernel
theorem dX6_time_8 : decode cX6_time 8 = .ok (.iload_n 2, 1) := by decide +kernel
theorem dX6_time_9 : decode cX6_time 9 = .ok (.if_icmp .le 12, 3) := by decide +kernel
theorem dX6_time_12 : decode cX6_time 12 = .ok (.iload_n 1, 1) := by decide +kernel
theorem dX6_time_13 : decode cX6_time 13 = .ok (.bipush 8, 2) := by decide +kernel
theorem dX6_time_15 : decode cX6_time 15 = .ok (.imul, 1) := by decide +kernel
theorem dX6_time_16 : decode cX6_time 16 = .ok (.iload_n 2, 1) := by decide +kernel
theorem dX6_time_17 : decode cX6_time 17 = .ok (.iadd, 1) := by decide +kernel
theorem dX6_time_18 : decode cX6_time 18 = .ok (.goto 9, 3) := by decide +kernel
theorem dX6_time_21 : decode cX6_time 21 = .ok (.iload_n 2, 1) := by decide +kernel
theorem dX6_time_22 : decode cX6_time 22 = .ok (.bipush 8, 2) := by decide +kernel
theorem dX6_time_24 : decode cX6_time 24 = .ok (.imul, 1) := by decide +kernel
theorem dX6_time_25 : decode cX6_time 25 = .ok (.iload_n 1, 1) := by decide +kernel
theorem dX6_time_26 : decode cX6_time 26 = .ok (.iadd, 1) := by decide +kernel
theorem dX6_time_27 : decode cX6_time 27 = .ok (.istore_n 3, 1) := by decide +kernel
theorem dX6_time_28 : decode cX6_time 28 = .ok (.iload_n 3, 1) := by decide +kernel
theorem dX6_time_29 : decode cX6_time 29 = .ok (.ifCond .lt 21, 3) := by decide +kernel
theorem dX6_time_32 : decode cX6_time 32 = .ok (.iload_n 3, 1) := by decide +kernel
theorem dX6_time_33 : decode cX6_time 33 = .ok (.aload_n 0, 1) := by decide +kernel
theorem dX6_time_34 : decode cX6_time 34 = .ok (.getfield 9, 3) := by decide +kernel
theorem dX6_time_37 : decode cX6_time 37 = .ok (.arraylength, 1) := by decide +kernel
theorem dX6_time_38 : decode cX6_time 38 = .ok (.if_icmp .ge 12, 3) := by decide +kernel
theorem dX6_time_41 : decode cX6_time 41 = .ok (.aload_n 0, 1) := by decide +kernel
theorem dX6_time_42 : decode cX6_time 42 = .ok (.getfield 9, 3) := by decide +kernel
theorem dX6_time_45 : decode cX6_time 45 = .ok (.iload_n 3, 1) := by decide +kernel
theorem dX6_time_46 : decode cX6_time 46 = .ok (.iaload, 1) := by decide +kernel
theorem dX6_time_47 : decode cX6_time 47 = .ok (.goto 5, 3) := by decide +kernel
theorem dX6_time_50 : decode cX6_time 50 = .ok (.ldc 15, 2) := by decide +kernel
theorem dX6_time_52 : decode cX6_time 52 = .ok (.ireturn, 1) := by decide +kernel
theorem dX6_shorten_0 : decode cX6_shorten 0 = .ok (.iload_n 1, 1) := by decide +kernel
theorem dX6_shorten_1 : decode cX6_shorten 1 = .ok (.iload_n 2, 1) := by decide +kernel
theorem dX6_shorten_2 : decode cX6_shorten 2 = .ok (.if_icmp .le 12, 3) := by decide +kernel
theorem dX6_shorten_5 : decode cX6_shorten 5 = .ok (.iload_n 1, 1) := by decide +kernel
theorem dX6_shorten_6 : decode cX6_shorten 6 = .ok (.bipush 8, 2) := by decide +kernel
theorem dX6_shorten_8 : decode cX6_shorten 8 = .ok (.imul, 1) := by decide +kernel
theorem dX6_shorten_9 : decode cX6_shorten 9 = .ok (.iload_n 2, 1) := by decide +kernel
theorem dX6_shorten_10 : decode cX6_shorten 10 = .ok (.iadd, 1) := by decide +kernel
theorem dX6_shorten_11 : decode cX6_shorten 11 = .ok (.goto 9, 3) := by decide +kernel
theorem dX6_shorten_14 : decode cX6_shorten 14 = .ok (.iload_n 2, 1) := by decide +kernel
theorem dX6_shorten_15 : decode cX6_shorten 15 = .ok (.bipush 8, 2) := by decide +kernel
theorem dX6_shorten_17 : decode cX6_shorten 17 = .ok (.imul, 1) := by decide +kernel
theorem dX6_shorten_18 : decode cX6_shorten 18 = .ok (.iload_n 1, 1) := by decide +kernel
theorem dX6_shorten_19 : decode cX6_shorten 19 = .ok (.iadd, 1) := by decide +kernel
theorem dX6_shorten_20 : decode cX6_shorten 20 = .ok (.istore 4, 2) := by decide +kernel
theorem dX6_shorten_22 : decode cX6_shorten 22 = .ok (.iload 4, 2) := by decide +kernel
theorem dX6_shorten_24 : decode cX6_shorten 24 = .ok (.ifCond .lt 32, 3) := by decide +kernel
theorem dX6_shorten_27 : decode cX6_shorten 27 = .ok (.iload 4, 2) := by decide +kernel
theorem dX6_shorten_29 : decode cX6_shorten 29 = .ok (.aload_n 0, 1) := by decide +kernel
theorem dX6_shorten_30 : decode cX6_shorten 30 = .ok (.getfield 9, 3) := by decide +kernel
theorem dX6_shorten_33 : decode cX6_shorten 33 = .ok (.arraylength, 1) := by decide +kernel
theorem dX6_shorten_34 : decode cX6_shorten 34 = .ok (.if_icmp .ge 22, 3) := by decide +kernel
theorem dX6_shorten_37 : decode cX6_shorten 37 = .ok (.iload_n 3, 1) := by decide +kernel
theorem dX6_shorten_38 : decode cX6_shorten 38 = .ok (.aload_n 0, 1) := by decide +kernel
theorem dX6_shorten_39 : decode cX6_shorten 39 = .ok (.getfield 9, 3) := by decide +kernel
theorem dX6_shorten_42 : decode cX6_shorten 42 = .ok (.iload 4, 2) := by decide +kernel
theorem dX6_shorten_44 : decode cX6_shorten 44 = .ok (.iaload, 1) := by decide +kernel
theorem dX6_shorten_45 : decode cX6_shorten 45 = .ok (.if_icmp .ge 11, 3) := by decide +kernel
theorem dX6_shorten_48 : decode cX6_shorten 48 = .ok (.aload_n 0, 1) := by decide +kernel
theorem dX6_shorten_49 : decode cX6_shorten 49 = .ok (.getfield 9, 3) := by decide +kernel
theorem dX6_shorten_52 : decode cX6_shorten 52 = .ok (.iload 4, 2) := by decide +kernel
theorem dX6_shorten_54 : decode cX6_shorten 54 = .ok (.iload_n 3, 1) := by decide +kernel
theorem dX6_shorten_55 : decode cX6_shorten 55 = .ok (.iastore, 1) := by decide +kernel
theorem dX6_shorten_56 : decode cX6_shorten 56 = .ok (.return_, 1) := by decide +kernel
