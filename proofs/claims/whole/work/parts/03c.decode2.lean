theorem dX11_up_4 : decode cX11_up 4 = .ok (.iconst 3, 1) := by decide +kernel
theorem dX11_up_5 : decode cX11_up 5 = .ok (.iload_n 1, 1) := by decide +kernel
theorem dX11_up_6 : decode cX11_up 6 = .ok (.iadd, 1) := by decide +kernel
theorem dX11_up_7 : decode cX11_up 7 = .ok (.iaload, 1) := by decide +kernel
theorem dX11_up_8 : decode cX11_up 8 = .ok (.ireturn, 1) := by decide +kernel
theorem dX11_down_0 : decode cX11_down 0 = .ok (.aload_n 0, 1) := by decide +kernel
theorem dX11_down_1 : decode cX11_down 1 = .ok (.getfield 7, 3) := by decide +kernel
theorem dX11_down_4 : decode cX11_down 4 = .ok (.bipush 9, 2) := by decide +kernel
theorem dX11_down_6 : decode cX11_down 6 = .ok (.iload_n 1, 1) := by decide +kernel
theorem dX11_down_7 : decode cX11_down 7 = .ok (.iadd, 1) := by decide +kernel
theorem dX11_down_8 : decode cX11_down 8 = .ok (.iaload, 1) := by decide +kernel
theorem dX11_down_9 : decode cX11_down 9 = .ok (.ireturn, 1) := by decide +kernel
theorem dX11_wholeOf_0 : decode cX11_wholeOf 0 = .ok (.aload_n 0, 1) := by decide +kernel
theorem dX11_wholeOf_1 : decode cX11_wholeOf 1 = .ok (.iload_n 1, 1) := by decide +kernel
theorem dX11_wholeOf_2 : decode cX11_wholeOf 2 = .ok (.invokevirtual 46, 3) := by decide +kernel
theorem dX11_wholeOf_5 : decode cX11_wholeOf 5 = .ok (.aload_n 0, 1) := by decide +kernel
theorem dX11_wholeOf_6 : decode cX11_wholeOf 6 = .ok (.iload_n 1, 1) := by decide +kernel
theorem dX11_wholeOf_7 : decode cX11_wholeOf 7 = .ok (.invokevirtual 50, 3) := by decide +kernel
theorem dX11_wholeOf_10 : decode cX11_wholeOf 10 = .ok (.idiv, 1) := by decide +kernel
theorem dX11_wholeOf_11 : decode cX11_wholeOf 11 = .ok (.ireturn, 1) := by decide +kernel
theorem dX11_records_0 : decode cX11_records 0 = .ok (.aload_n 0, 1) := by decide +kernel
theorem dX11_records_1 : decode cX11_records 1 = .ok (.getfield 53, 3) := by decide +kernel
theorem dX11_records_4 : decode cX11_records 4 = .ok (.bipush 6, 2) := by decide +kernel
theorem dX11_records_6 : decode cX11_records 6 = .ok (.if_icmp .ne 42, 3) := by decide +kernel
theorem dX11_records_9 : decode cX11_records 9 = .ok (.iconst 0, 1) := by decide +kernel
theorem dX11_records_10 : decode cX11_records 10 = .ok (.istore_n 1, 1) := by decide +kernel
theorem dX11_records_11 : decode cX11_records 11 = .ok (.iload_n 1, 1) := by decide +kernel
theorem dX11_records_12 : decode cX11_records 12 = .ok (.bipush 75, 2) := by decide +kernel
theorem dX11_records_14 : decode cX11_records 14 = .ok (.if_icmp .ge 24, 3) := by decide +kernel
theorem dX11_records_17 : decode cX11_records 17 = .ok (.aload_n 0, 1) := by decide +kernel
theorem dX11_records_18 : decode cX11_records 18 = .ok (.getfield 13, 3) := by decide +kernel
theorem dX11_records_21 : decode cX11_records 21 = .ok (.iload_n 1, 1) := by decide +kernel
theorem dX11_records_22 : decode cX11_records 22 = .ok (.aload_n 0, 1) := by decide +kernel
theorem dX11_records_23 : decode cX11_records 23 = .ok (.getfield 13, 3) := by decide +kernel
theorem dX11_records_26 : decode cX11_records 26 = .ok (.iload_n 1, 1) := by decide +kernel
theorem dX11_records_27 : decode cX11_records 27 = .ok (.bipush 15, 2) := by decide +kernel
theorem dX11_records_29 : decode cX11_records 29 = .ok (.iadd, 1) := by decide +kernel
theorem dX11_records_30 : decode cX11_records 30 = .ok (.iaload, 1) := by decide +kernel
theorem dX11_records_31 : decode cX11_records 31 = .ok (.iastore, 1) := by decide +kernel
theorem dX11_records_32 : decode cX11_records 32 = .ok (.iinc 1 1, 3) := by decide +kernel
theorem dX11_records_35 : decode cX11_records 35 = .ok (.goto (-24), 3) := by decide +kernel
theorem dX11_records_38 : decode cX11_records 38 = .ok (.aload_n 0, 1) := by decide +kernel
theorem dX11_records_39 : decode cX11_records 39 = .ok (.dup, 1) := by decide +kernel
theorem dX11_records_40 : decode cX11_records 40 = .ok (.getfield 53, 3) := by decide +kernel
theorem dX11_records_43 : decode cX11_records 43 = .ok (.iconst 1, 1) := by decide +kernel
theorem dX11_records_44 : decode cX11_records 44 = .ok (.isub, 1) := by decide +kernel
theorem dX11_records_45 : decode cX11_records 45 = .ok (.putfield 53, 3) := by decide +kernel
theorem dX11_records_48 : decode cX11_records 48 = .ok (.iconst 0, 1) := by decide +kernel
theorem dX11_records_49 : decode cX11_records 49 = .ok (.istore_n 1, 1) := by decide +kernel
theorem dX11_records_50 : decode cX11_records 50 = .ok (.iload_n 1, 1) := by decide +kernel
theorem dX11_records_51 : decode cX11_records 51 = .ok (.bipush 15, 2) := by decide +kernel
theorem dX11_records_53 : decode cX11_records 53 = .ok (.if_icmp .ge 29, 3) := by decide +kernel
theorem dX11_records_56 : decode cX11_records 56 = .ok (.aload_n 0, 1) := by decide +kernel
theorem dX11_records_57 : decode cX11_records 57 = .ok (.getfield 13, 3) := by decide +kernel
theorem dX11_records_60 : decode cX11_records 60 = .ok (.bipush 15, 2) := by decide +kernel
theorem dX11_records_62 : decode cX11_records 62 = .ok (.aload_n 0, 1) := by decide +kernel
theorem dX11_records_63 : decode cX11_records 63 = .ok (.getfield 53, 3) := by decide +kernel
theorem dX11_records_66 : decode cX11_records 66 = .ok (.imul, 1) := by decide +kernel
theorem dX11_records_67 : decode cX11_records 67 = .ok (.iload_n 1, 1) := by decide +kernel
theorem dX11_records_68 : decode cX11_records 68 = .ok (.iadd, 1) := by decide +kernel
theorem dX11_records_69 : decode cX11_records 69 = .ok (.aload_n 0, 1) := by decide +kernel
theorem dX11_records_70 : decode cX11_records 70 = .ok (.getfield 7, 3) := by decide +kernel
theorem dX11_records_73 : decode cX11_records 73 = .ok (.iload_n 1, 1) := by decide +kernel
theorem dX11_records_74 : decode cX11_records 74 = .ok (.iaload, 1) := by decide +kernel
theorem dX11_records_75 : decode cX11_records 75 = .ok (.iastore, 1) := by decide +kernel
theorem dX11_records_76 : decode cX11_records 76 = .ok (.iinc 1 1, 3) := by decide +kernel
theorem dX11_records_79 : decode cX11_records 79 = .ok (.goto (-29), 3) := by decide +kernel
theorem dX11_records_82 : decode cX11_records 82 = .ok (.aload_n 0, 1) := by decide +kernel
theorem dX11_records_83 : decode cX11_records 83 = .ok (.dup, 1) := by decide +kernel
theorem dX11_records_84 : decode cX11_records 84 = .ok (.getfield 53, 3) := by decide +kernel
theorem dX11_records_87 : decode cX11_records 87 = .ok (.iconst 1, 1) := by decide +kernel
theorem dX11_records_88 : decode cX11_records 88 = .ok (.iadd, 1) := by decide +kernel
theorem dX11_records_89 : decode cX11_records 89 = .ok (.putfield 53, 3) := by decide +kernel
theorem dX11_records_92 : decode cX11_records 92 = .ok (.return_, 1) := by decide +kernel
theorem dX11_factor_0 : decode cX11_factor 0 = .ok (.lload_n 0, 1) := by decide +kernel
theorem dX11_factor_1 : decode cX11_factor 1 = .ok (.lstore 4, 2) := by decide +kernel
theorem dX11_factor_3 : decode cX11_factor 3 = .ok (.lload_n 2, 1) := by decide +kernel
theorem dX11_factor_4 : decode cX11_factor 4 = .ok (.lstore 6, 2) := by decide +kernel
theorem dX11_factor_6 : decode cX11_factor 6 = .ok (.lload 6, 2) := by decide +kernel
theorem dX11_factor_8 : decode cX11_factor 8 = .ok (.lconst 0, 1) := by decide +kernel
theorem dX11_factor_9 : decode cX11_factor 9 = .ok (.lcmp, 1) := by decide +kernel
theorem dX11_factor_10 : decode cX11_factor 10 = .ok (.ifCond .eq 21, 3) := by decide +kernel
theorem dX11_factor_13 : decode cX11_factor 13 = .ok (.lload 4, 2) := by decide +kernel
theorem dX11_factor_15 : decode cX11_factor 15 = .ok (.lload 6, 2) := by decide +kernel
theorem dX11_factor_17 : decode cX11_factor 17 = .ok (.lrem, 1) := by decide +kernel
theorem dX11_factor_18 : decode cX11_factor 18 = .ok (.lstore 8, 2) := by decide +kernel
theorem dX11_factor_20 : decode cX11_factor 20 = .ok (.lload 6, 2) := by decide +kernel
theorem dX11_factor_22 : decode cX11_factor 22 = .ok (.lstore 4, 2) := by decide +kernel
theorem dX11_factor_24 : decode cX11_factor 24 = .ok (.lload 8, 2) := by decide +kernel
theorem dX11_factor_26 : decode cX11_factor 26 = .ok (.lstore 6, 2) := by decide +kernel
theorem dX11_factor_28 : decode cX11_factor 28 = .ok (.goto (-22), 3) := by decide +kernel
theorem dX11_factor_31 : decode cX11_factor 31 = .ok (.lload 4, 2) := by decide +kernel
theorem dX11_factor_33 : decode cX11_factor 33 = .ok (.lconst 0, 1) := by decide +kernel
theorem dX11_factor_34 : decode cX11_factor 34 = .ok (.lcmp, 1) := by decide +kernel
theorem dX11_factor_35 : decode cX11_factor 35 = .ok (.ifCond .ge 9, 3) := by decide +kernel
theorem dX11_factor_38 : decode cX11_factor 38 = .ok (.lload 4, 2) := by decide +kernel
theorem dX11_factor_40 : decode cX11_factor 40 = .ok (.lneg, 1) := by decide +kernel
theorem dX11_factor_41 : decode cX11_factor 41 = .ok (.goto 5, 3) := by decide +kernel
theorem dX11_factor_44 : decode cX11_factor 44 = .ok (.lload 4, 2) := by decide +kernel
theorem dX11_factor_46 : decode cX11_factor 46 = .ok (.lreturn, 1) := by decide +kernel
theorem dX11_makes_0 : decode cX11_makes 0 = .ok (.lload_n 1, 1) := by decide +kernel
theorem dX11_makes_1 : decode cX11_makes 1 = .ok (.lload_n 3, 1) := by decide +kernel
theorem dX11_makes_2 : decode cX11_makes 2 = .ok (.invokestatic 56, 3) := by decide +kernel
theorem dX11_makes_5 : decode cX11_makes 5 = .ok (.lstore 5, 2) := by decide +kernel
theorem dX11_makes_7 : decode cX11_makes 7 = .ok (.aload_n 0, 1) := by decide +kernel
theorem dX11_makes_8 : decode cX11_makes 8 = .ok (.lload_n 1, 1) := by decide +kernel
theorem dX11_makes_9 : decode cX11_makes 9 = .ok (.lload 5, 2) := by decide +kernel
theorem dX11_makes_11 : decode cX11_makes 11 = .ok (.ldiv, 1) := by decide +kernel
theorem dX11_makes_12 : decode cX11_makes 12 = .ok (.putfield 60, 3) := by decide +kernel
theorem dX11_makes_15 : decode cX11_makes 15 = .ok (.aload_n 0, 1) := by decide +kernel
theorem dX11_makes_16 : decode cX11_makes 16 = .ok (.lload_n 3, 1) := by decide +kernel
theorem dX11_makes_17 : decode cX11_makes 17 = .ok (.lload 5, 2) := by decide +kernel
theorem dX11_makes_19 : decode cX11_makes 19 = .ok (.ldiv, 1) := by decide +kernel
theorem dX11_makes_20 : decode cX11_makes 20 = .ok (.putfield 64, 3) := by decide +kernel
theorem dX11_makes_23 : decode cX11_makes 23 = .ok (.aload_n 0, 1) := by decide +kernel
theorem dX11_makes_24 : decode cX11_makes 24 = .ok (.getfield 60, 3) := by decide +kernel
theorem dX11_makes_27 : decode cX11_makes 27 = .ok (.ldc2_w 67, 3) := by decide +kernel
theorem dX11_makes_30 : decode cX11_makes 30 = .ok (.lcmp, 1) := by decide +kernel
theorem dX11_makes_31 : decode cX11_makes 31 = .ok (.ifCond .le 7, 3) := by decide +kernel
theorem dX11_makes_34 : decode cX11_makes 34 = .ok (.iconst 1, 1) := by decide +kernel
theorem dX11_makes_35 : decode cX11_makes 35 = .ok (.goto 19, 3) := by decide +kernel
theorem dX11_makes_38 : decode cX11_makes 38 = .ok (.aload_n 0, 1) := by decide +kernel
theorem dX11_makes_39 : decode cX11_makes 39 = .ok (.getfield 64, 3) := by decide +kernel
theorem dX11_makes_42 : decode cX11_makes 42 = .ok (.ldc2_w 69, 3) := by decide +kernel
theorem dX11_makes_45 : decode cX11_makes 45 = .ok (.lcmp, 1) := by decide +kernel
theorem dX11_makes_46 : decode cX11_makes 46 = .ok (.ifCond .le 7, 3) := by decide +kernel
theorem dX11_makes_49 : decode cX11_makes 49 = .ok (.iconst 2, 1) := by decide +kernel
theorem dX11_makes_50 : decode cX11_makes 50 = .ok (.goto 4, 3) := by decide +kernel
theorem dX11_makes_53 : decode cX11_makes 53 = .ok (.iconst 0, 1) := by decide +kernel
theorem dX11_makes_54 : decode cX11_makes 54 = .ok (.ireturn, 1) := by decide +kernel
theorem dX11_makesSum_0 : decode cX11_makesSum 0 = .ok (.aload_n 0, 1) := by decide +kernel
theorem dX11_makesSum_1 : decode cX11_makesSum 1 = .ok (.aload_n 0, 1) := by decide +kernel
theorem dX11_makesSum_2 : decode cX11_makesSum 2 = .ok (.iload_n 1, 1) := by decide +kernel
theorem dX11_makesSum_3 : decode cX11_makesSum 3 = .ok (.invokevirtual 46, 3) := by decide +kernel
theorem dX11_makesSum_6 : decode cX11_makesSum 6 = .ok (.i2l, 1) := by decide +kernel
theorem dX11_makesSum_7 : decode cX11_makesSum 7 = .ok (.aload_n 0, 1) := by decide +kernel
theorem dX11_makesSum_8 : decode cX11_makesSum 8 = .ok (.iload_n 2, 1) := by decide +kernel
theorem dX11_makesSum_9 : decode cX11_makesSum 9 = .ok (.invokevirtual 50, 3) := by decide +kernel
theorem dX11_makesSum_12 : decode cX11_makesSum 12 = .ok (.i2l, 1) := by decide +kernel
theorem dX11_makesSum_13 : decode cX11_makesSum 13 = .ok (.lmul, 1) := by decide +kernel
theorem dX11_makesSum_14 : decode cX11_makesSum 14 = .ok (.iload_n 3, 1) := by decide +kernel
theorem dX11_makesSum_15 : decode cX11_makesSum 15 = .ok (.i2l, 1) := by decide +kernel
theorem dX11_makesSum_16 : decode cX11_makesSum 16 = .ok (.aload_n 0, 1) := by decide +kernel
theorem dX11_makesSum_17 : decode cX11_makesSum 17 = .ok (.iload_n 2, 1) := by decide +kernel
theorem dX11_makesSum_18 : decode cX11_makesSum 18 = .ok (.invokevirtual 46, 3) := by decide +kernel
theorem dX11_makesSum_21 : decode cX11_makesSum 21 = .ok (.i2l, 1) := by decide +kernel
theorem dX11_makesSum_22 : decode cX11_makesSum 22 = .ok (.lmul, 1) := by decide +kernel
theorem dX11_makesSum_23 : decode cX11_makesSum 23 = .ok (.aload_n 0, 1) := by decide +kernel
theorem dX11_makesSum_24 : decode cX11_makesSum 24 = .ok (.iload_n 1, 1) := by decide +kernel
theorem dX11_makesSum_25 : decode cX11_makesSum 25 = .ok (.invokevirtual 50, 3) := by decide +kernel
theorem dX11_makesSum_28 : decode cX11_makesSum 28 = .ok (.i2l, 1) := by decide +kernel
theorem dX11_makesSum_29 : decode cX11_makesSum 29 = .ok (.lmul, 1) := by decide +kernel
theorem dX11_makesSum_30 : decode cX11_makesSum 30 = .ok (.ladd, 1) := by decide +kernel
theorem dX11_makesSum_31 : decode cX11_makesSum 31 = .ok (.aload_n 0, 1) := by decide +kernel
theorem dX11_makesSum_32 : decode cX11_makesSum 32 = .ok (.iload_n 1, 1) := by decide +kernel
theorem dX11_makesSum_33 : decode cX11_makesSum 33 = .ok (.invokevirtual 50, 3) := by decide +kernel
theorem dX11_makesSum_36 : decode cX11_makesSum 36 = .ok (.i2l, 1) := by decide +kernel
theorem dX11_makesSum_37 : decode cX11_makesSum 37 = .ok (.aload_n 0, 1) := by decide +kernel
theorem dX11_makesSum_38 : decode cX11_makesSum 38 = .ok (.iload_n 2, 1) := by decide +kernel
theorem dX11_makesSum_39 : decode cX11_makesSum 39 = .ok (.invokevirtual 50, 3) := by decide +kernel
theorem dX11_makesSum_42 : decode cX11_makesSum 42 = .ok (.i2l, 1) := by decide +kernel
theorem dX11_makesSum_43 : decode cX11_makesSum 43 = .ok (.lmul, 1) := by decide +kernel
theorem dX11_makesSum_44 : decode cX11_makesSum 44 = .ok (.invokevirtual 71, 3) := by decide +kernel
theorem dX11_makesSum_47 : decode cX11_makesSum 47 = .ok (.ireturn, 1) := by decide +kernel
theorem dX11_makesMore_0 : decode cX11_makesMore 0 = .ok (.aload_n 0, 1) := by decide +kernel
theorem dX11_makesMore_1 : decode cX11_makesMore 1 = .ok (.aload_n 0, 1) := by decide +kernel
theorem dX11_makesMore_2 : decode cX11_makesMore 2 = .ok (.iload_n 1, 1) := by decide +kernel
theorem dX11_makesMore_3 : decode cX11_makesMore 3 = .ok (.invokevirtual 46, 3) := by decide +kernel
theorem dX11_makesMore_6 : decode cX11_makesMore 6 = .ok (.i2l, 1) := by decide +kernel
theorem dX11_makesMore_7 : decode cX11_makesMore 7 = .ok (.iload_n 2, 1) := by decide +kernel
theorem dX11_makesMore_8 : decode cX11_makesMore 8 = .ok (.i2l, 1) := by decide +kernel
theorem dX11_makesMore_9 : decode cX11_makesMore 9 = .ok (.aload_n 0, 1) := by decide +kernel
theorem dX11_makesMore_10 : decode cX11_makesMore 10 = .ok (.iload_n 1, 1) := by decide +kernel
theorem dX11_makesMore_11 : decode cX11_makesMore 11 = .ok (.invokevirtual 50, 3) := by decide +kernel
theorem dX11_makesMore_14 : decode cX11_makesMore 14 = .ok (.i2l, 1) := by decide +kernel
theorem dX11_makesMore_15 : decode cX11_makesMore 15 = .ok (.lmul, 1) := by decide +kernel
theorem dX11_makesMore_16 : decode cX11_makesMore 16 = .ok (.ladd, 1) := by decide +kernel
theorem dX11_makesMore_17 : decode cX11_makesMore 17 = .ok (.aload_n 0, 1) := by decide +kernel
theorem dX11_makesMore_18 : decode cX11_makesMore 18 = .ok (.iload_n 1, 1) := by decide +kernel
theorem dX11_makesMore_19 : decode cX11_makesMore 19 = .ok (.invokevirtual 50, 3) := by decide +kernel
theorem dX11_makesMore_22 : decode cX11_makesMore 22 = .ok (.i2l, 1) := by decide +kernel
theorem dX11_makesMore_23 : decode cX11_makesMore 23 = .ok (.invokevirtual 71, 3) := by decide +kernel
theorem dX11_makesMore_26 : decode cX11_makesMore 26 = .ok (.ireturn, 1) := by decide +kernel
theorem dX11_power_0 : decode cX11_power 0 = .ok (.iconst 1, 1) := by decide +kernel
theorem dX11_power_1 : decode cX11_power 1 = .ok (.istore_n 2, 1) := by decide +kernel
theorem dX11_power_2 : decode cX11_power 2 = .ok (.iconst 0, 1) := by decide +kernel
theorem dX11_power_3 : decode cX11_power 3 = .ok (.istore_n 3, 1) := by decide +kernel
theorem dX11_power_4 : decode cX11_power 4 = .ok (.iload_n 3, 1) := by decide +kernel
theorem dX11_power_5 : decode cX11_power 5 = .ok (.iload_n 1, 1) := by decide +kernel
theorem dX11_power_6 : decode cX11_power 6 = .ok (.if_icmp .ge 18, 3) := by decide +kernel
theorem dX11_power_9 : decode cX11_power 9 = .ok (.iload_n 2, 1) := by decide +kernel
theorem dX11_power_10 : decode cX11_power 10 = .ok (.aload_n 0, 1) := by decide +kernel
theorem dX11_power_11 : decode cX11_power 11 = .ok (.getfield 7, 3) := by decide +kernel
theorem dX11_power_14 : decode cX11_power 14 = .ok (.iconst 0, 1) := by decide +kernel
theorem dX11_power_15 : decode cX11_power 15 = .ok (.iaload, 1) := by decide +kernel
theorem dX11_power_16 : decode cX11_power 16 = .ok (.imul, 1) := by decide +kernel
theorem dX11_power_17 : decode cX11_power 17 = .ok (.istore_n 2, 1) := by decide +kernel
theorem dX11_power_18 : decode cX11_power 18 = .ok (.iinc 3 1, 3) := by decide +kernel
theorem dX11_power_21 : decode cX11_power 21 = .ok (.goto (-17), 3) := by decide +kernel
theorem dX11_power_24 : decode cX11_power 24 = .ok (.iload_n 2, 1) := by decide +kernel
theorem dX11_power_25 : decode cX11_power 25 = .ok (.ireturn, 1) := by decide +kernel
theorem dX11_makesShift_0 : decode cX11_makesShift 0 = .ok (.iload_n 2, 1) := by decide +kernel
theorem dX11_makesShift_1 : decode cX11_makesShift 1 = .ok (.ifCond .ge 30, 3) := by decide +kernel
theorem dX11_makesShift_4 : decode cX11_makesShift 4 = .ok (.aload_n 0, 1) := by decide +kernel
theorem dX11_makesShift_5 : decode cX11_makesShift 5 = .ok (.aload_n 0, 1) := by decide +kernel
theorem dX11_makesShift_6 : decode cX11_makesShift 6 = .ok (.iload_n 1, 1) := by decide +kernel
theorem dX11_makesShift_7 : decode cX11_makesShift 7 = .ok (.invokevirtual 46, 3) := by decide +kernel
theorem dX11_makesShift_10 : decode cX11_makesShift 10 = .ok (.i2l, 1) := by decide +kernel
theorem dX11_makesShift_11 : decode cX11_makesShift 11 = .ok (.aload_n 0, 1) := by decide +kernel
theorem dX11_makesShift_12 : decode cX11_makesShift 12 = .ok (.iload_n 1, 1) := by decide +kernel
theorem dX11_makesShift_13 : decode cX11_makesShift 13 = .ok (.invokevirtual 50, 3) := by decide +kernel
theorem dX11_makesShift_16 : decode cX11_makesShift 16 = .ok (.i2l, 1) := by decide +kernel
theorem dX11_makesShift_17 : decode cX11_makesShift 17 = .ok (.aload_n 0, 1) := by decide +kernel
theorem dX11_makesShift_18 : decode cX11_makesShift 18 = .ok (.iload_n 2, 1) := by decide +kernel
theorem dX11_makesShift_19 : decode cX11_makesShift 19 = .ok (.ineg, 1) := by decide +kernel
theorem dX11_makesShift_20 : decode cX11_makesShift 20 = .ok (.invokevirtual 75, 3) := by decide +kernel
theorem dX11_makesShift_23 : decode cX11_makesShift 23 = .ok (.i2l, 1) := by decide +kernel
theorem dX11_makesShift_24 : decode cX11_makesShift 24 = .ok (.lmul, 1) := by decide +kernel
theorem dX11_makesShift_25 : decode cX11_makesShift 25 = .ok (.invokevirtual 71, 3) := by decide +kernel
theorem dX11_makesShift_28 : decode cX11_makesShift 28 = .ok (.goto 26, 3) := by decide +kernel
theorem dX11_makesShift_31 : decode cX11_makesShift 31 = .ok (.aload_n 0, 1) := by decide +kernel
theorem dX11_makesShift_32 : decode cX11_makesShift 32 = .ok (.aload_n 0, 1) := by decide +kernel
theorem dX11_makesShift_33 : decode cX11_makesShift 33 = .ok (.iload_n 1, 1) := by decide +kernel
theorem dX11_makesShift_34 : decode cX11_makesShift 34 = .ok (.invokevirtual 46, 3) := by decide +kernel
theorem dX11_makesShift_37 : decode cX11_makesShift 37 = .ok (.i2l, 1) := by decide +kernel
theorem dX11_makesShift_38 : decode cX11_makesShift 38 = .ok (.aload_n 0, 1) := by decide +kernel
theorem dX11_makesShift_39 : decode cX11_makesShift 39 = .ok (.iload_n 2, 1) := by decide +kernel
theorem dX11_makesShift_40 : decode cX11_makesShift 40 = .ok (.invokevirtual 75, 3) := by decide +kernel
theorem dX11_makesShift_43 : decode cX11_makesShift 43 = .ok (.i2l, 1) := by decide +kernel
theorem dX11_makesShift_44 : decode cX11_makesShift 44 = .ok (.lmul, 1) := by decide +kernel
theorem dX11_makesShift_45 : decode cX11_makesShift 45 = .ok (.aload_n 0, 1) := by decide +kernel
theorem dX11_makesShift_46 : decode cX11_makesShift 46 = .ok (.iload_n 1, 1) := by decide +kernel
theorem dX11_makesShift_47 : decode cX11_makesShift 47 = .ok (.invokevirtual 50, 3) := by decide +kernel
theorem dX11_makesShift_50 : decode cX11_makesShift 50 = .ok (.i2l, 1) := by decide +kernel
theorem dX11_makesShift_51 : decode cX11_makesShift 51 = .ok (.invokevirtual 71, 3) := by decide +kernel
theorem dX11_makesShift_54 : decode cX11_makesShift 54 = .ok (.ireturn, 1) := by decide +kernel
theorem dX11_puts_0 : decode cX11_puts 0 = .ok (.aload_n 0, 1) := by decide +kernel
theorem dX11_puts_1 : decode cX11_puts 1 = .ok (.getfield 7, 3) := by decide +kernel
theorem dX11_puts_4 : decode cX11_puts 4 = .ok (.iconst 3, 1) := by decide +kernel
theorem dX11_puts_5 : decode cX11_puts 5 = .ok (.iload_n 1, 1) := by decide +kernel
theorem dX11_puts_6 : decode cX11_puts 6 = .ok (.iadd, 1) := by decide +kernel
theorem dX11_puts_7 : decode cX11_puts 7 = .ok (.aload_n 0, 1) := by decide +kernel
theorem dX11_puts_8 : decode cX11_puts 8 = .ok (.getfield 60, 3) := by decide +kernel
theorem dX11_puts_11 : decode cX11_puts 11 = .ok (.l2i, 1) := by decide +kernel
theorem dX11_puts_12 : decode cX11_puts 12 = .ok (.iastore, 1) := by decide +kernel
theorem dX11_puts_13 : decode cX11_puts 13 = .ok (.aload_n 0, 1) := by decide +kernel
theorem dX11_puts_14 : decode cX11_puts 14 = .ok (.getfield 7, 3) := by decide +kernel
theorem dX11_puts_17 : decode cX11_puts 17 = .ok (.bipush 9, 2) := by decide +kernel
theorem dX11_puts_19 : decode cX11_puts 19 = .ok (.iload_n 1, 1) := by decide +kernel
theorem dX11_puts_20 : decode cX11_puts 20 = .ok (.iadd, 1) := by decide +kernel
theorem dX11_puts_21 : decode cX11_puts 21 = .ok (.aload_n 0, 1) := by decide +kernel
theorem dX11_puts_22 : decode cX11_puts 22 = .ok (.getfield 64, 3) := by decide +kernel
theorem dX11_puts_25 : decode cX11_puts 25 = .ok (.l2i, 1) := by decide +kernel
theorem dX11_puts_26 : decode cX11_puts 26 = .ok (.iastore, 1) := by decide +kernel
theorem dX11_puts_27 : decode cX11_puts 27 = .ok (.return_, 1) := by decide +kernel
theorem dX11_holds_0 : decode cX11_holds 0 = .ok (.aload_n 0, 1) := by decide +kernel
theorem dX11_holds_1 : decode cX11_holds 1 = .ok (.iload_n 1, 1) := by decide +kernel
theorem dX11_holds_2 : decode cX11_holds 2 = .ok (.invokevirtual 46, 3) := by decide +kernel
theorem dX11_holds_5 : decode cX11_holds 5 = .ok (.i2l, 1) := by decide +kernel
theorem dX11_holds_6 : decode cX11_holds 6 = .ok (.aload_n 0, 1) := by decide +kernel
theorem dX11_holds_7 : decode cX11_holds 7 = .ok (.iload_n 2, 1) := by decide +kernel
theorem dX11_holds_8 : decode cX11_holds 8 = .ok (.invokevirtual 50, 3) := by decide +kernel
theorem dX11_holds_11 : decode cX11_holds 11 = .ok (.i2l, 1) := by decide +kernel
theorem dX11_holds_12 : decode cX11_holds 12 = .ok (.lmul, 1) := by decide +kernel
theorem dX11_holds_13 : decode cX11_holds 13 = .ok (.aload_n 0, 1) := by decide +kernel
theorem dX11_holds_14 : decode cX11_holds 14 = .ok (.iload_n 2, 1) := by decide +kernel
theorem dX11_holds_15 : decode cX11_holds 15 = .ok (.invokevirtual 46, 3) := by decide +kernel
theorem dX11_holds_18 : decode cX11_holds 18 = .ok (.i2l, 1) := by decide +kernel
theorem dX11_holds_19 : decode cX11_holds 19 = .ok (.aload_n 0, 1) := by decide +kernel
theorem dX11_holds_20 : decode cX11_holds 20 = .ok (.iload_n 1, 1) := by decide +kernel
theorem dX11_holds_21 : decode cX11_holds 21 = .ok (.invokevirtual 50, 3) := by decide +kernel
theorem dX11_holds_24 : decode cX11_holds 24 = .ok (.i2l, 1) := by decide +kernel
theorem dX11_holds_25 : decode cX11_holds 25 = .ok (.lmul, 1) := by decide +kernel
theorem dX11_holds_26 : decode cX11_holds 26 = .ok (.lsub, 1) := by decide +kernel
theorem dX11_holds_27 : decode cX11_holds 27 = .ok (.lstore_n 3, 1) := by decide +kernel
theorem dX11_holds_28 : decode cX11_holds 28 = .ok (.lload_n 3, 1) := by decide +kernel
theorem dX11_holds_29 : decode cX11_holds 29 = .ok (.lconst 0, 1) := by decide +kernel
theorem dX11_holds_30 : decode cX11_holds 30 = .ok (.lcmp, 1) := by decide +kernel
theorem dX11_holds_31 : decode cX11_holds 31 = .ok (.ifCond .ge 7, 3) := by decide +kernel
theorem dX11_holds_34 : decode cX11_holds 34 = .ok (.iconst (-1), 1) := by decide +kernel
theorem dX11_holds_35 : decode cX11_holds 35 = .ok (.goto 14, 3) := by decide +kernel
theorem dX11_holds_38 : decode cX11_holds 38 = .ok (.lload_n 3, 1) := by decide +kernel
theorem dX11_holds_39 : decode cX11_holds 39 = .ok (.lconst 0, 1) := by decide +kernel
theorem dX11_holds_40 : decode cX11_holds 40 = .ok (.lcmp, 1) := by decide +kernel
theorem dX11_holds_41 : decode cX11_holds 41 = .ok (.ifCond .le 7, 3) := by decide +kernel
theorem dX11_holds_44 : decode cX11_holds 44 = .ok (.iconst 1, 1) := by decide +kernel
theorem dX11_holds_45 : decode cX11_holds 45 = .ok (.goto 4, 3) := by decide +kernel
theorem dX11_holds_48 : decode cX11_holds 48 = .ok (.iconst 0, 1) := by decide +kernel
theorem dX11_holds_49 : decode cX11_holds 49 = .ok (.ireturn, 1) := by decide +kernel
theorem dX11_greatest_0 : decode cX11_greatest 0 = .ok (.iconst 0, 1) := by decide +kernel
theorem dX11_greatest_1 : decode cX11_greatest 1 = .ok (.istore_n 1, 1) := by decide +kernel
theorem dX11_greatest_2 : decode cX11_greatest 2 = .ok (.iconst 1, 1) := by decide +kernel
theorem dX11_greatest_3 : decode cX11_greatest 3 = .ok (.istore_n 2, 1) := by decide +kernel
theorem dX11_greatest_4 : decode cX11_greatest 4 = .ok (.iload_n 2, 1) := by decide +kernel
theorem dX11_greatest_5 : decode cX11_greatest 5 = .ok (.bipush 6, 2) := by decide +kernel
theorem dX11_greatest_7 : decode cX11_greatest 7 = .ok (.if_icmp .ge 24, 3) := by decide +kernel
theorem dX11_greatest_10 : decode cX11_greatest 10 = .ok (.aload_n 0, 1) := by decide +kernel
theorem dX11_greatest_11 : decode cX11_greatest 11 = .ok (.iload_n 2, 1) := by decide +kernel
theorem dX11_greatest_12 : decode cX11_greatest 12 = .ok (.iload_n 1, 1) := by decide +kernel
theorem dX11_greatest_13 : decode cX11_greatest 13 = .ok (.invokevirtual 78, 3) := by decide +kernel
theorem dX11_greatest_16 : decode cX11_greatest 16 = .ok (.ifCond .le 7, 3) := by decide +kernel
theorem dX11_greatest_19 : decode cX11_greatest 19 = .ok (.iload_n 2, 1) := by decide +kernel
theorem dX11_greatest_20 : decode cX11_greatest 20 = .ok (.goto 4, 3) := by decide +kernel
theorem dX11_greatest_23 : decode cX11_greatest 23 = .ok (.iload_n 1, 1) := by decide +kernel
theorem dX11_greatest_24 : decode cX11_greatest 24 = .ok (.istore_n 1, 1) := by decide +kernel
theorem dX11_greatest_25 : decode cX11_greatest 25 = .ok (.iinc 2 1, 3) := by decide +kernel
theorem dX11_greatest_28 : decode cX11_greatest 28 = .ok (.goto (-24), 3) := by decide +kernel
theorem dX11_greatest_31 : decode cX11_greatest 31 = .ok (.iload_n 1, 1) := by decide +kernel
theorem dX11_greatest_32 : decode cX11_greatest 32 = .ok (.ireturn, 1) := by decide +kernel
theorem dX11_tellsDigits_0 : decode cX11_tellsDigits 0 = .ok (.aload_n 0, 1) := by decide +kernel
theorem dX11_tellsDigits_1 : decode cX11_tellsDigits 1 = .ok (.iload_n 1, 1) := by decide +kernel
theorem dX11_tellsDigits_2 : decode cX11_tellsDigits 2 = .ok (.invokevirtual 82, 3) := by decide +kernel
theorem dX11_tellsDigits_5 : decode cX11_tellsDigits 5 = .ok (.istore_n 2, 1) := by decide +kernel
theorem dX11_tellsDigits_6 : decode cX11_tellsDigits 6 = .ok (.aload_n 0, 1) := by decide +kernel
theorem dX11_tellsDigits_7 : decode cX11_tellsDigits 7 = .ok (.iconst 0, 1) := by decide +kernel
theorem dX11_tellsDigits_8 : decode cX11_tellsDigits 8 = .ok (.putfield 85, 3) := by decide +kernel
theorem dX11_tellsDigits_11 : decode cX11_tellsDigits 11 = .ok (.iload_n 2, 1) := by decide +kernel
theorem dX11_tellsDigits_12 : decode cX11_tellsDigits 12 = .ok (.ifCond .gt 10, 3) := by decide +kernel
theorem dX11_tellsDigits_15 : decode cX11_tellsDigits 15 = .ok (.aload_n 0, 1) := by decide +kernel
theorem dX11_tellsDigits_16 : decode cX11_tellsDigits 16 = .ok (.getfield 85, 3) := by decide +kernel
theorem dX11_tellsDigits_19 : decode cX11_tellsDigits 19 = .ok (.ifCond .ne 42, 3) := by decide +kernel
theorem dX11_tellsDigits_22 : decode cX11_tellsDigits 22 = .ok (.aload_n 0, 1) := by decide +kernel
theorem dX11_tellsDigits_23 : decode cX11_tellsDigits 23 = .ok (.getfield 25, 3) := by decide +kernel
theorem dX11_tellsDigits_26 : decode cX11_tellsDigits 26 = .ok (.aload_n 0, 1) := by decide +kernel
theorem dX11_tellsDigits_27 : decode cX11_tellsDigits 27 = .ok (.getfield 85, 3) := by decide +kernel
theorem dX11_tellsDigits_30 : decode cX11_tellsDigits 30 = .ok (.iload_n 2, 1) := by decide +kernel
theorem dX11_tellsDigits_31 : decode cX11_tellsDigits 31 = .ok (.aload_n 0, 1) := by decide +kernel
theorem dX11_tellsDigits_32 : decode cX11_tellsDigits 32 = .ok (.getfield 7, 3) := by decide +kernel
theorem dX11_tellsDigits_35 : decode cX11_tellsDigits 35 = .ok (.iconst 0, 1) := by decide +kernel
theorem dX11_tellsDigits_36 : decode cX11_tellsDigits 36 = .ok (.iaload, 1) := by decide +kernel
theorem dX11_tellsDigits_37 : decode cX11_tellsDigits 37 = .ok (.irem, 1) := by decide +kernel
theorem dX11_tellsDigits_38 : decode cX11_tellsDigits 38 = .ok (.iastore, 1) := by decide +kernel
theorem dX11_tellsDigits_39 : decode cX11_tellsDigits 39 = .ok (.iload_n 2, 1) := by decide +kernel
theorem dX11_tellsDigits_40 : decode cX11_tellsDigits 40 = .ok (.aload_n 0, 1) := by decide +kernel
theorem dX11_tellsDigits_41 : decode cX11_tellsDigits 41 = .ok (.getfield 7, 3) := by decide +kernel
theorem dX11_tellsDigits_44 : decode cX11_tellsDigits 44 = .ok (.iconst 0, 1) := by decide +kernel
theorem dX11_tellsDigits_45 : decode cX11_tellsDigits 45 = .ok (.iaload, 1) := by decide +kernel
theorem dX11_tellsDigits_46 : decode cX11_tellsDigits 46 = .ok (.idiv, 1) := by decide +kernel
theorem dX11_tellsDigits_47 : decode cX11_tellsDigits 47 = .ok (.istore_n 2, 1) := by decide +kernel
theorem dX11_tellsDigits_48 : decode cX11_tellsDigits 48 = .ok (.aload_n 0, 1) := by decide +kernel
theorem dX11_tellsDigits_49 : decode cX11_tellsDigits 49 = .ok (.dup, 1) := by decide +kernel
theorem dX11_tellsDigits_50 : decode cX11_tellsDigits 50 = .ok (.getfield 85, 3) := by decide +kernel
theorem dX11_tellsDigits_53 : decode cX11_tellsDigits 53 = .ok (.iconst 1, 1) := by decide +kernel
theorem dX11_tellsDigits_54 : decode cX11_tellsDigits 54 = .ok (.iadd, 1) := by decide +kernel
theorem dX11_tellsDigits_55 : decode cX11_tellsDigits 55 = .ok (.putfield 85, 3) := by decide +kernel
theorem dX11_tellsDigits_58 : decode cX11_tellsDigits 58 = .ok (.goto (-47), 3) := by decide +kernel
theorem dX11_tellsDigits_61 : decode cX11_tellsDigits 61 = .ok (.return_, 1) := by decide +kernel
theorem dX11_sumOf_0 : decode cX11_sumOf 0 = .ok (.iconst 0, 1) := by decide +kernel
theorem dX11_sumOf_1 : decode cX11_sumOf 1 = .ok (.istore_n 2, 1) := by decide +kernel
theorem dX11_sumOf_2 : decode cX11_sumOf 2 = .ok (.aload_n 0, 1) := by decide +kernel
theorem dX11_sumOf_3 : decode cX11_sumOf 3 = .ok (.iload_n 1, 1) := by decide +kernel
theorem dX11_sumOf_4 : decode cX11_sumOf 4 = .ok (.invokevirtual 88, 3) := by decide +kernel
theorem dX11_sumOf_7 : decode cX11_sumOf 7 = .ok (.iconst 0, 1) := by decide +kernel
theorem dX11_sumOf_8 : decode cX11_sumOf 8 = .ok (.istore_n 3, 1) := by decide +kernel
theorem dX11_sumOf_9 : decode cX11_sumOf 9 = .ok (.iload_n 3, 1) := by decide +kernel
theorem dX11_sumOf_10 : decode cX11_sumOf 10 = .ok (.aload_n 0, 1) := by decide +kernel
theorem dX11_sumOf_11 : decode cX11_sumOf 11 = .ok (.getfield 85, 3) := by decide +kernel
theorem dX11_sumOf_14 : decode cX11_sumOf 14 = .ok (.if_icmp .ge 18, 3) := by decide +kernel
theorem dX11_sumOf_17 : decode cX11_sumOf 17 = .ok (.iload_n 2, 1) := by decide +kernel
theorem dX11_sumOf_18 : decode cX11_sumOf 18 = .ok (.aload_n 0, 1) := by decide +kernel
theorem dX11_sumOf_19 : decode cX11_sumOf 19 = .ok (.getfield 25, 3) := by decide +kernel
theorem dX11_sumOf_22 : decode cX11_sumOf 22 = .ok (.iload_n 3, 1) := by decide +kernel
theorem dX11_sumOf_23 : decode cX11_sumOf 23 = .ok (.iaload, 1) := by decide +kernel
theorem dX11_sumOf_24 : decode cX11_sumOf 24 = .ok (.iadd, 1) := by decide +kernel
theorem dX11_sumOf_25 : decode cX11_sumOf 25 = .ok (.istore_n 2, 1) := by decide +kernel
theorem dX11_sumOf_26 : decode cX11_sumOf 26 = .ok (.iinc 3 1, 3) := by decide +kernel
theorem dX11_sumOf_29 : decode cX11_sumOf 29 = .ok (.goto (-20), 3) := by decide +kernel
theorem dX11_sumOf_32 : decode cX11_sumOf 32 = .ok (.iload_n 2, 1) := by decide +kernel
theorem dX11_sumOf_33 : decode cX11_sumOf 33 = .ok (.ireturn, 1) := by decide +kernel
theorem dX11_headOf_0 : decode cX11_headOf 0 = .ok (.iconst 0, 1) := by decide +kernel
theorem dX11_headOf_1 : decode cX11_headOf 1 = .ok (.istore_n 2, 1) := by decide +kernel
theorem dX11_headOf_2 : decode cX11_headOf 2 = .ok (.iload_n 0, 1) := by decide +kernel
theorem dX11_headOf_3 : decode cX11_headOf 3 = .ok (.istore_n 3, 1) := by decide +kernel
theorem dX11_headOf_4 : decode cX11_headOf 4 = .ok (.iload_n 3, 1) := by decide +kernel
theorem dX11_headOf_5 : decode cX11_headOf 5 = .ok (.i2l, 1) := by decide +kernel
theorem dX11_headOf_6 : decode cX11_headOf 6 = .ok (.iload_n 1, 1) := by decide +kernel
theorem dX11_headOf_7 : decode cX11_headOf 7 = .ok (.i2l, 1) := by decide +kernel
theorem dX11_headOf_8 : decode cX11_headOf 8 = .ok (.invokestatic 56, 3) := by decide +kernel
theorem dX11_headOf_11 : decode cX11_headOf 11 = .ok (.l2i, 1) := by decide +kernel
theorem dX11_headOf_12 : decode cX11_headOf 12 = .ok (.istore 4, 2) := by decide +kernel
theorem dX11_headOf_14 : decode cX11_headOf 14 = .ok (.iload 4, 2) := by decide +kernel
theorem dX11_headOf_16 : decode cX11_headOf 16 = .ok (.iconst 1, 1) := by decide +kernel
theorem dX11_headOf_17 : decode cX11_headOf 17 = .ok (.if_icmp .le 24, 3) := by decide +kernel
theorem dX11_headOf_20 : decode cX11_headOf 20 = .ok (.iload_n 3, 1) := by decide +kernel
theorem dX11_headOf_21 : decode cX11_headOf 21 = .ok (.iload 4, 2) := by decide +kernel
theorem dX11_headOf_23 : decode cX11_headOf 23 = .ok (.idiv, 1) := by decide +kernel
theorem dX11_headOf_24 : decode cX11_headOf 24 = .ok (.istore_n 3, 1) := by decide +kernel
theorem dX11_headOf_25 : decode cX11_headOf 25 = .ok (.iinc 2 1, 3) := by decide +kernel
theorem dX11_headOf_28 : decode cX11_headOf 28 = .ok (.iload_n 3, 1) := by decide +kernel
theorem dX11_headOf_29 : decode cX11_headOf 29 = .ok (.i2l, 1) := by decide +kernel
theorem dX11_headOf_30 : decode cX11_headOf 30 = .ok (.iload_n 1, 1) := by decide +kernel
theorem dX11_headOf_31 : decode cX11_headOf 31 = .ok (.i2l, 1) := by decide +kernel
theorem dX11_headOf_32 : decode cX11_headOf 32 = .ok (.invokestatic 56, 3) := by decide +kernel
theorem dX11_headOf_35 : decode cX11_headOf 35 = .ok (.l2i, 1) := by decide +kernel
theorem dX11_headOf_36 : decode cX11_headOf 36 = .ok (.istore 4, 2) := by decide +kernel
theorem dX11_headOf_38 : decode cX11_headOf 38 = .ok (.goto (-24), 3) := by decide +kernel
theorem dX11_headOf_41 : decode cX11_headOf 41 = .ok (.iload_n 2, 1) := by decide +kernel
theorem dX11_headOf_42 : decode cX11_headOf 42 = .ok (.ireturn, 1) := by decide +kernel
theorem dX11_periodOf_0 : decode cX11_periodOf 0 = .ok (.iload_n 0, 1) := by decide +kernel
theorem dX11_periodOf_1 : decode cX11_periodOf 1 = .ok (.istore_n 2, 1) := by decide +kernel
theorem dX11_periodOf_2 : decode cX11_periodOf 2 = .ok (.iload_n 2, 1) := by decide +kernel
theorem dX11_periodOf_3 : decode cX11_periodOf 3 = .ok (.i2l, 1) := by decide +kernel
theorem dX11_periodOf_4 : decode cX11_periodOf 4 = .ok (.iload_n 1, 1) := by decide +kernel
theorem dX11_periodOf_5 : decode cX11_periodOf 5 = .ok (.i2l, 1) := by decide +kernel
theorem dX11_periodOf_6 : decode cX11_periodOf 6 = .ok (.invokestatic 56, 3) := by decide +kernel
theorem dX11_periodOf_9 : decode cX11_periodOf 9 = .ok (.l2i, 1) := by decide +kernel
theorem dX11_periodOf_10 : decode cX11_periodOf 10 = .ok (.istore_n 3, 1) := by decide +kernel
theorem dX11_periodOf_11 : decode cX11_periodOf 11 = .ok (.iload_n 3, 1) := by decide +kernel
theorem dX11_periodOf_12 : decode cX11_periodOf 12 = .ok (.iconst 1, 1) := by decide +kernel
theorem dX11_periodOf_13 : decode cX11_periodOf 13 = .ok (.if_icmp .le 19, 3) := by decide +kernel
theorem dX11_periodOf_16 : decode cX11_periodOf 16 = .ok (.iload_n 2, 1) := by decide +kernel
theorem dX11_periodOf_17 : decode cX11_periodOf 17 = .ok (.iload_n 3, 1) := by decide +kernel
theorem dX11_periodOf_18 : decode cX11_periodOf 18 = .ok (.idiv, 1) := by decide +kernel
theorem dX11_periodOf_19 : decode cX11_periodOf 19 = .ok (.istore_n 2, 1) := by decide +kernel
theorem dX11_periodOf_20 : decode cX11_periodOf 20 = .ok (.iload_n 2, 1) := by decide +kernel
theorem dX11_periodOf_21 : decode cX11_periodOf 21 = .ok (.i2l, 1) := by decide +kernel
theorem dX11_periodOf_22 : decode cX11_periodOf 22 = .ok (.iload_n 1, 1) := by decide +kernel
theorem dX11_periodOf_23 : decode cX11_periodOf 23 = .ok (.i2l, 1) := by decide +kernel
theorem dX11_periodOf_24 : decode cX11_periodOf 24 = .ok (.invokestatic 56, 3) := by decide +kernel
theorem dX11_periodOf_27 : decode cX11_periodOf 27 = .ok (.l2i, 1) := by decide +kernel
theorem dX11_periodOf_28 : decode cX11_periodOf 28 = .ok (.istore_n 3, 1) := by decide +kernel
theorem dX11_periodOf_29 : decode cX11_periodOf 29 = .ok (.goto (-18), 3) := by decide +kernel
theorem dX11_periodOf_32 : decode cX11_periodOf 32 = .ok (.iload_n 2, 1) := by decide +kernel
theorem dX11_periodOf_33 : decode cX11_periodOf 33 = .ok (.iconst 1, 1) := by decide +kernel
theorem dX11_periodOf_34 : decode cX11_periodOf 34 = .ok (.if_icmp .ne 7, 3) := by decide +kernel
theorem dX11_periodOf_37 : decode cX11_periodOf 37 = .ok (.iconst 0, 1) := by decide +kernel
theorem dX11_periodOf_38 : decode cX11_periodOf 38 = .ok (.goto 4, 3) := by decide +kernel
theorem dX11_periodOf_41 : decode cX11_periodOf 41 = .ok (.iconst 1, 1) := by decide +kernel
theorem dX11_periodOf_42 : decode cX11_periodOf 42 = .ok (.istore 4, 2) := by decide +kernel
theorem dX11_periodOf_44 : decode cX11_periodOf 44 = .ok (.iload_n 2, 1) := by decide +kernel
theorem dX11_periodOf_45 : decode cX11_periodOf 45 = .ok (.iconst 1, 1) := by decide +kernel
theorem dX11_periodOf_46 : decode cX11_periodOf 46 = .ok (.if_icmp .ne 7, 3) := by decide +kernel
theorem dX11_periodOf_49 : decode cX11_periodOf 49 = .ok (.iconst 1, 1) := by decide +kernel
theorem dX11_periodOf_50 : decode cX11_periodOf 50 = .ok (.goto 6, 3) := by decide +kernel
theorem dX11_periodOf_53 : decode cX11_periodOf 53 = .ok (.iload_n 1, 1) := by decide +kernel
theorem dX11_periodOf_54 : decode cX11_periodOf 54 = .ok (.iload_n 2, 1) := by decide +kernel
theorem dX11_periodOf_55 : decode cX11_periodOf 55 = .ok (.irem, 1) := by decide +kernel
theorem dX11_periodOf_56 : decode cX11_periodOf 56 = .ok (.istore 5, 2) := by decide +kernel
theorem dX11_periodOf_58 : decode cX11_periodOf 58 = .ok (.iload_n 2, 1) := by decide +kernel
theorem dX11_periodOf_59 : decode cX11_periodOf 59 = .ok (.iconst 1, 1) := by decide +kernel
theorem dX11_periodOf_60 : decode cX11_periodOf 60 = .ok (.if_icmp .le 23, 3) := by decide +kernel
theorem dX11_periodOf_63 : decode cX11_periodOf 63 = .ok (.iload 5, 2) := by decide +kernel
theorem dX11_periodOf_65 : decode cX11_periodOf 65 = .ok (.iconst 1, 1) := by decide +kernel
theorem dX11_periodOf_66 : decode cX11_periodOf 66 = .ok (.if_icmp .eq 17, 3) := by decide +kernel
theorem dX11_periodOf_69 : decode cX11_periodOf 69 = .ok (.iload 5, 2) := by decide +kernel
theorem dX11_periodOf_71 : decode cX11_periodOf 71 = .ok (.iload_n 1, 1) := by decide +kernel
theorem dX11_periodOf_72 : decode cX11_periodOf 72 = .ok (.imul, 1) := by decide +kernel
theorem dX11_periodOf_73 : decode cX11_periodOf 73 = .ok (.iload_n 2, 1) := by decide +kernel
theorem dX11_periodOf_74 : decode cX11_periodOf 74 = .ok (.irem, 1) := by decide +kernel
theorem dX11_periodOf_75 : decode cX11_periodOf 75 = .ok (.istore 5, 2) := by decide +kernel
theorem dX11_periodOf_77 : decode cX11_periodOf 77 = .ok (.iinc 4 1, 3) := by decide +kernel
theorem dX11_periodOf_80 : decode cX11_periodOf 80 = .ok (.goto (-22), 3) := by decide +kernel
theorem dX11_periodOf_83 : decode cX11_periodOf 83 = .ok (.iload 4, 2) := by decide +kernel
theorem dX11_periodOf_85 : decode cX11_periodOf 85 = .ok (.ireturn, 1) := by decide +kernel
theorem dX11_digitAfter_0 : decode cX11_digitAfter 0 = .ok (.aload_n 0, 1) := by decide +kernel
theorem dX11_digitAfter_1 : decode cX11_digitAfter 1 = .ok (.iload_n 1, 1) := by decide +kernel
theorem dX11_digitAfter_2 : decode cX11_digitAfter 2 = .ok (.invokevirtual 46, 3) := by decide +kernel
theorem dX11_digitAfter_5 : decode cX11_digitAfter 5 = .ok (.aload_n 0, 1) := by decide +kernel
theorem dX11_digitAfter_6 : decode cX11_digitAfter 6 = .ok (.iload_n 1, 1) := by decide +kernel
theorem dX11_digitAfter_7 : decode cX11_digitAfter 7 = .ok (.invokevirtual 50, 3) := by decide +kernel
theorem dX11_digitAfter_10 : decode cX11_digitAfter 10 = .ok (.irem, 1) := by decide +kernel
theorem dX11_digitAfter_11 : decode cX11_digitAfter 11 = .ok (.istore_n 3, 1) := by decide +kernel
theorem dX11_digitAfter_12 : decode cX11_digitAfter 12 = .ok (.iconst 0, 1) := by decide +kernel
theorem dX11_digitAfter_13 : decode cX11_digitAfter 13 = .ok (.istore 4, 2) := by decide +kernel
theorem dX11_digitAfter_15 : decode cX11_digitAfter 15 = .ok (.iconst 0, 1) := by decide +kernel
theorem dX11_digitAfter_16 : decode cX11_digitAfter 16 = .ok (.istore 5, 2) := by decide +kernel
theorem dX11_digitAfter_18 : decode cX11_digitAfter 18 = .ok (.iload 5, 2) := by decide +kernel
theorem dX11_digitAfter_20 : decode cX11_digitAfter 20 = .ok (.iload_n 2, 1) := by decide +kernel
theorem dX11_digitAfter_21 : decode cX11_digitAfter 21 = .ok (.if_icmp .gt 40, 3) := by decide +kernel
theorem dX11_digitAfter_24 : decode cX11_digitAfter 24 = .ok (.iload_n 3, 1) := by decide +kernel
theorem dX11_digitAfter_25 : decode cX11_digitAfter 25 = .ok (.aload_n 0, 1) := by decide +kernel
theorem dX11_digitAfter_26 : decode cX11_digitAfter 26 = .ok (.getfield 7, 3) := by decide +kernel
theorem dX11_digitAfter_29 : decode cX11_digitAfter 29 = .ok (.iconst 0, 1) := by decide +kernel
theorem dX11_digitAfter_30 : decode cX11_digitAfter 30 = .ok (.iaload, 1) := by decide +kernel
theorem dX11_digitAfter_31 : decode cX11_digitAfter 31 = .ok (.imul, 1) := by decide +kernel
theorem dX11_digitAfter_32 : decode cX11_digitAfter 32 = .ok (.aload_n 0, 1) := by decide +kernel
theorem dX11_digitAfter_33 : decode cX11_digitAfter 33 = .ok (.iload_n 1, 1) := by decide +kernel
theorem dX11_digitAfter_34 : decode cX11_digitAfter 34 = .ok (.invokevirtual 50, 3) := by decide +kernel
theorem dX11_digitAfter_37 : decode cX11_digitAfter 37 = .ok (.idiv, 1) := by decide +kernel
theorem dX11_digitAfter_38 : decode cX11_digitAfter 38 = .ok (.istore 4, 2) := by decide +kernel
theorem dX11_digitAfter_40 : decode cX11_digitAfter 40 = .ok (.iload_n 3, 1) := by decide +kernel
theorem dX11_digitAfter_41 : decode cX11_digitAfter 41 = .ok (.aload_n 0, 1) := by decide +kernel
theorem dX11_digitAfter_42 : decode cX11_digitAfter 42 = .ok (.getfield 7, 3) := by decide +kernel
theorem dX11_digitAfter_45 : decode cX11_digitAfter 45 = .ok (.iconst 0, 1) := by decide +kernel
theorem dX11_digitAfter_46 : decode cX11_digitAfter 46 = .ok (.iaload, 1) := by decide +kernel
theorem dX11_digitAfter_47 : decode cX11_digitAfter 47 = .ok (.imul, 1) := by decide +kernel
theorem dX11_digitAfter_48 : decode cX11_digitAfter 48 = .ok (.aload_n 0, 1) := by decide +kernel
theorem dX11_digitAfter_49 : decode cX11_digitAfter 49 = .ok (.iload_n 1, 1) := by decide +kernel
theorem dX11_digitAfter_50 : decode cX11_digitAfter 50 = .ok (.invokevirtual 50, 3) := by decide +kernel
theorem dX11_digitAfter_53 : decode cX11_digitAfter 53 = .ok (.irem, 1) := by decide +kernel
theorem dX11_digitAfter_54 : decode cX11_digitAfter 54 = .ok (.istore_n 3, 1) := by decide +kernel
theorem dX11_digitAfter_55 : decode cX11_digitAfter 55 = .ok (.iinc 5 1, 3) := by decide +kernel
theorem dX11_digitAfter_58 : decode cX11_digitAfter 58 = .ok (.goto (-40), 3) := by decide +kernel
theorem dX11_digitAfter_61 : decode cX11_digitAfter 61 = .ok (.iload 4, 2) := by decide +kernel
theorem dX11_digitAfter_63 : decode cX11_digitAfter 63 = .ok (.ireturn, 1) := by decide +kernel
theorem dX11_bestBase_0 : decode cX11_bestBase 0 = .ok (.iconst 2, 1) := by decide +kernel
theorem dX11_bestBase_1 : decode cX11_bestBase 1 = .ok (.istore_n 2, 1) := by decide +kernel
theorem dX11_bestBase_2 : decode cX11_bestBase 2 = .ok (.aload_n 0, 1) := by decide +kernel
theorem dX11_bestBase_3 : decode cX11_bestBase 3 = .ok (.iload_n 1, 1) := by decide +kernel
theorem dX11_bestBase_4 : decode cX11_bestBase 4 = .ok (.invokevirtual 50, 3) := by decide +kernel
theorem dX11_bestBase_7 : decode cX11_bestBase 7 = .ok (.iconst 2, 1) := by decide +kernel
theorem dX11_bestBase_8 : decode cX11_bestBase 8 = .ok (.invokestatic 92, 3) := by decide +kernel
theorem dX11_bestBase_11 : decode cX11_bestBase 11 = .ok (.aload_n 0, 1) := by decide +kernel
theorem dX11_bestBase_12 : decode cX11_bestBase 12 = .ok (.iload_n 1, 1) := by decide +kernel
theorem dX11_bestBase_13 : decode cX11_bestBase 13 = .ok (.invokevirtual 50, 3) := by decide +kernel
theorem dX11_bestBase_16 : decode cX11_bestBase 16 = .ok (.iconst 2, 1) := by decide +kernel
theorem dX11_bestBase_17 : decode cX11_bestBase 17 = .ok (.invokestatic 95, 3) := by decide +kernel
theorem dX11_bestBase_20 : decode cX11_bestBase 20 = .ok (.iadd, 1) := by decide +kernel
theorem dX11_bestBase_21 : decode cX11_bestBase 21 = .ok (.istore_n 3, 1) := by decide +kernel
theorem dX11_bestBase_22 : decode cX11_bestBase 22 = .ok (.iconst 3, 1) := by decide +kernel
theorem dX11_bestBase_23 : decode cX11_bestBase 23 = .ok (.istore 4, 2) := by decide +kernel
theorem dX11_bestBase_25 : decode cX11_bestBase 25 = .ok (.iload 4, 2) := by decide +kernel
theorem dX11_bestBase_27 : decode cX11_bestBase 27 = .ok (.bipush 17, 2) := by decide +kernel
theorem dX11_bestBase_29 : decode cX11_bestBase 29 = .ok (.if_icmp .ge 58, 3) := by decide +kernel
theorem dX11_bestBase_32 : decode cX11_bestBase 32 = .ok (.aload_n 0, 1) := by decide +kernel
theorem dX11_bestBase_33 : decode cX11_bestBase 33 = .ok (.iload_n 1, 1) := by decide +kernel
theorem dX11_bestBase_34 : decode cX11_bestBase 34 = .ok (.invokevirtual 50, 3) := by decide +kernel
theorem dX11_bestBase_37 : decode cX11_bestBase 37 = .ok (.iload 4, 2) := by decide +kernel
theorem dX11_bestBase_39 : decode cX11_bestBase 39 = .ok (.invokestatic 92, 3) := by decide +kernel
theorem dX11_bestBase_42 : decode cX11_bestBase 42 = .ok (.aload_n 0, 1) := by decide +kernel
theorem dX11_bestBase_43 : decode cX11_bestBase 43 = .ok (.iload_n 1, 1) := by decide +kernel
theorem dX11_bestBase_44 : decode cX11_bestBase 44 = .ok (.invokevirtual 50, 3) := by decide +kernel
theorem dX11_bestBase_47 : decode cX11_bestBase 47 = .ok (.iload 4, 2) := by decide +kernel
theorem dX11_bestBase_49 : decode cX11_bestBase 49 = .ok (.invokestatic 95, 3) := by decide +kernel
theorem dX11_bestBase_52 : decode cX11_bestBase 52 = .ok (.iadd, 1) := by decide +kernel
theorem dX11_bestBase_53 : decode cX11_bestBase 53 = .ok (.istore 5, 2) := by decide +kernel
theorem dX11_bestBase_55 : decode cX11_bestBase 55 = .ok (.iload 5, 2) := by decide +kernel
theorem dX11_bestBase_57 : decode cX11_bestBase 57 = .ok (.iload_n 3, 1) := by decide +kernel
theorem dX11_bestBase_58 : decode cX11_bestBase 58 = .ok (.if_icmp .ge 8, 3) := by decide +kernel
theorem dX11_bestBase_61 : decode cX11_bestBase 61 = .ok (.iload 4, 2) := by decide +kernel
theorem dX11_bestBase_63 : decode cX11_bestBase 63 = .ok (.goto 4, 3) := by decide +kernel
theorem dX11_bestBase_66 : decode cX11_bestBase 66 = .ok (.iload_n 2, 1) := by decide +kernel
theorem dX11_bestBase_67 : decode cX11_bestBase 67 = .ok (.istore_n 2, 1) := by decide +kernel
theorem dX11_bestBase_68 : decode cX11_bestBase 68 = .ok (.iload 5, 2) := by decide +kernel
theorem dX11_bestBase_70 : decode cX11_bestBase 70 = .ok (.iload_n 3, 1) := by decide +kernel
theorem dX11_bestBase_71 : decode cX11_bestBase 71 = .ok (.if_icmp .ge 8, 3) := by decide +kernel
theorem dX11_bestBase_74 : decode cX11_bestBase 74 = .ok (.iload 5, 2) := by decide +kernel
theorem dX11_bestBase_76 : decode cX11_bestBase 76 = .ok (.goto 4, 3) := by decide +kernel
theorem dX11_bestBase_79 : decode cX11_bestBase 79 = .ok (.iload_n 3, 1) := by decide +kernel
theorem dX11_bestBase_80 : decode cX11_bestBase 80 = .ok (.istore_n 3, 1) := by decide +kernel
theorem dX11_bestBase_81 : decode cX11_bestBase 81 = .ok (.iinc 4 1, 3) := by decide +kernel
theorem dX11_bestBase_84 : decode cX11_bestBase 84 = .ok (.goto (-59), 3) := by decide +kernel
theorem dX11_bestBase_87 : decode cX11_bestBase 87 = .ok (.iload_n 2, 1) := by decide +kernel
theorem dX11_bestBase_88 : decode cX11_bestBase 88 = .ok (.ireturn, 1) := by decide +kernel
theorem dX11_writtenMany_0 : decode cX11_writtenMany 0 = .ok (.aload_n 0, 1) := by decide +kernel
theorem dX11_writtenMany_1 : decode cX11_writtenMany 1 = .ok (.iload_n 1, 1) := by decide +kernel
theorem dX11_writtenMany_2 : decode cX11_writtenMany 2 = .ok (.invokevirtual 88, 3) := by decide +kernel
theorem dX11_writtenMany_5 : decode cX11_writtenMany 5 = .ok (.aload_n 0, 1) := by decide +kernel
theorem dX11_writtenMany_6 : decode cX11_writtenMany 6 = .ok (.iload_n 1, 1) := by decide +kernel
theorem dX11_writtenMany_7 : decode cX11_writtenMany 7 = .ok (.invokevirtual 50, 3) := by decide +kernel
theorem dX11_writtenMany_10 : decode cX11_writtenMany 10 = .ok (.aload_n 0, 1) := by decide +kernel
theorem dX11_writtenMany_11 : decode cX11_writtenMany 11 = .ok (.getfield 7, 3) := by decide +kernel
theorem dX11_writtenMany_14 : decode cX11_writtenMany 14 = .ok (.iconst 0, 1) := by decide +kernel
theorem dX11_writtenMany_15 : decode cX11_writtenMany 15 = .ok (.iaload, 1) := by decide +kernel
theorem dX11_writtenMany_16 : decode cX11_writtenMany 16 = .ok (.invokestatic 92, 3) := by decide +kernel
theorem dX11_writtenMany_19 : decode cX11_writtenMany 19 = .ok (.istore_n 2, 1) := by decide +kernel
theorem dX11_writtenMany_20 : decode cX11_writtenMany 20 = .ok (.aload_n 0, 1) := by decide +kernel
theorem dX11_writtenMany_21 : decode cX11_writtenMany 21 = .ok (.iload_n 1, 1) := by decide +kernel
theorem dX11_writtenMany_22 : decode cX11_writtenMany 22 = .ok (.invokevirtual 50, 3) := by decide +kernel
theorem dX11_writtenMany_25 : decode cX11_writtenMany 25 = .ok (.aload_n 0, 1) := by decide +kernel
theorem dX11_writtenMany_26 : decode cX11_writtenMany 26 = .ok (.getfield 7, 3) := by decide +kernel
theorem dX11_writtenMany_29 : decode cX11_writtenMany 29 = .ok (.iconst 0, 1) := by decide +kernel
theorem dX11_writtenMany_30 : decode cX11_writtenMany 30 = .ok (.iaload, 1) := by decide +kernel
theorem dX11_writtenMany_31 : decode cX11_writtenMany 31 = .ok (.invokestatic 95, 3) := by decide +kernel
theorem dX11_writtenMany_34 : decode cX11_writtenMany 34 = .ok (.istore_n 3, 1) := by decide +kernel
theorem dX11_writtenMany_35 : decode cX11_writtenMany 35 = .ok (.aload_n 0, 1) := by decide +kernel
theorem dX11_writtenMany_36 : decode cX11_writtenMany 36 = .ok (.getfield 85, 3) := by decide +kernel
theorem dX11_writtenMany_39 : decode cX11_writtenMany 39 = .ok (.aload_n 0, 1) := by decide +kernel
theorem dX11_writtenMany_40 : decode cX11_writtenMany 40 = .ok (.iload_n 1, 1) := by decide +kernel
theorem dX11_writtenMany_41 : decode cX11_writtenMany 41 = .ok (.invokevirtual 50, 3) := by decide +kernel
theorem dX11_writtenMany_44 : decode cX11_writtenMany 44 = .ok (.iconst 1, 1) := by decide +kernel
theorem dX11_writtenMany_45 : decode cX11_writtenMany 45 = .ok (.if_icmp .ne 7, 3) := by decide +kernel
theorem dX11_writtenMany_48 : decode cX11_writtenMany 48 = .ok (.iconst 0, 1) := by decide +kernel
theorem dX11_writtenMany_49 : decode cX11_writtenMany 49 = .ok (.goto 18, 3) := by decide +kernel
theorem dX11_writtenMany_52 : decode cX11_writtenMany 52 = .ok (.iconst 1, 1) := by decide +kernel
theorem dX11_writtenMany_53 : decode cX11_writtenMany 53 = .ok (.iload_n 2, 1) := by decide +kernel
theorem dX11_writtenMany_54 : decode cX11_writtenMany 54 = .ok (.iadd, 1) := by decide +kernel
theorem dX11_writtenMany_55 : decode cX11_writtenMany 55 = .ok (.iload_n 3, 1) := by decide +kernel
theorem dX11_writtenMany_56 : decode cX11_writtenMany 56 = .ok (.iadd, 1) := by decide +kernel
theorem dX11_writtenMany_57 : decode cX11_writtenMany 57 = .ok (.iload_n 3, 1) := by decide +kernel
theorem dX11_writtenMany_58 : decode cX11_writtenMany 58 = .ok (.ifCond .le 7, 3) := by decide +kernel
theorem dX11_writtenMany_61 : decode cX11_writtenMany 61 = .ok (.iconst 2, 1) := by decide +kernel
theorem dX11_writtenMany_62 : decode cX11_writtenMany 62 = .ok (.goto 4, 3) := by decide +kernel
theorem dX11_writtenMany_65 : decode cX11_writtenMany 65 = .ok (.iconst 0, 1) := by decide +kernel
theorem dX11_writtenMany_66 : decode cX11_writtenMany 66 = .ok (.iadd, 1) := by decide +kernel
theorem dX11_writtenMany_67 : decode cX11_writtenMany 67 = .ok (.iadd, 1) := by decide +kernel
theorem dX11_writtenMany_68 : decode cX11_writtenMany 68 = .ok (.ireturn, 1) := by decide +kernel
theorem dX11_sign_0 : decode cX11_sign 0 = .ok (.iload_n 0, 1) := by decide +kernel
theorem dX11_sign_1 : decode cX11_sign 1 = .ok (.bipush 10, 2) := by decide +kernel
theorem dX11_sign_3 : decode cX11_sign 3 = .ok (.if_icmp .ge 10, 3) := by decide +kernel
theorem dX11_sign_6 : decode cX11_sign 6 = .ok (.bipush 48, 2) := by decide +kernel
theorem dX11_sign_8 : decode cX11_sign 8 = .ok (.iload_n 0, 1) := by decide +kernel
theorem dX11_sign_9 : decode cX11_sign 9 = .ok (.iadd, 1) := by decide +kernel
theorem dX11_sign_10 : decode cX11_sign 10 = .ok (.goto 10, 3) := by decide +kernel
theorem dX11_sign_13 : decode cX11_sign 13 = .ok (.bipush 97, 2) := by decide +kernel
theorem dX11_sign_15 : decode cX11_sign 15 = .ok (.iload_n 0, 1) := by decide +kernel
theorem dX11_sign_16 : decode cX11_sign 16 = .ok (.iadd, 1) := by decide +kernel
theorem dX11_sign_17 : decode cX11_sign 17 = .ok (.bipush 10, 2) := by decide +kernel
theorem dX11_sign_19 : decode cX11_sign 19 = .ok (.isub, 1) := by decide +kernel
theorem dX11_sign_20 : decode cX11_sign 20 = .ok (.ireturn, 1) := by decide +kernel
theorem dX11_writes_0 : decode cX11_writes 0 = .ok (.aload_n 0, 1) := by decide +kernel
theorem dX11_writes_1 : decode cX11_writes 1 = .ok (.iload_n 1, 1) := by decide +kernel
theorem dX11_writes_2 : decode cX11_writes 2 = .ok (.invokevirtual 88, 3) := by decide +kernel
theorem dX11_writes_5 : decode cX11_writes 5 = .ok (.iload_n 2, 1) := by decide +kernel
theorem dX11_writes_6 : decode cX11_writes 6 = .ok (.aload_n 0, 1) := by decide +kernel
theorem dX11_writes_7 : decode cX11_writes 7 = .ok (.getfield 85, 3) := by decide +kernel
theorem dX11_writes_10 : decode cX11_writes 10 = .ok (.if_icmp .ge 20, 3) := by decide +kernel
theorem dX11_writes_13 : decode cX11_writes 13 = .ok (.aload_n 0, 1) := by decide +kernel
theorem dX11_writes_14 : decode cX11_writes 14 = .ok (.getfield 25, 3) := by decide +kernel
theorem dX11_writes_17 : decode cX11_writes 17 = .ok (.aload_n 0, 1) := by decide +kernel
theorem dX11_writes_18 : decode cX11_writes 18 = .ok (.getfield 85, 3) := by decide +kernel
theorem dX11_writes_21 : decode cX11_writes 21 = .ok (.iconst 1, 1) := by decide +kernel
theorem dX11_writes_22 : decode cX11_writes 22 = .ok (.isub, 1) := by decide +kernel
theorem dX11_writes_23 : decode cX11_writes 23 = .ok (.iload_n 2, 1) := by decide +kernel
theorem dX11_writes_24 : decode cX11_writes 24 = .ok (.isub, 1) := by decide +kernel
theorem dX11_writes_25 : decode cX11_writes 25 = .ok (.iaload, 1) := by decide +kernel
theorem dX11_writes_26 : decode cX11_writes 26 = .ok (.invokestatic 98, 3) := by decide +kernel
theorem dX11_writes_29 : decode cX11_writes 29 = .ok (.ireturn, 1) := by decide +kernel
theorem dX11_writes_30 : decode cX11_writes 30 = .ok (.iload_n 2, 1) := by decide +kernel
theorem dX11_writes_31 : decode cX11_writes 31 = .ok (.aload_n 0, 1) := by decide +kernel
theorem dX11_writes_32 : decode cX11_writes 32 = .ok (.getfield 85, 3) := by decide +kernel
theorem dX11_writes_35 : decode cX11_writes 35 = .ok (.isub, 1) := by decide +kernel
theorem dX11_writes_36 : decode cX11_writes 36 = .ok (.iconst 1, 1) := by decide +kernel
theorem dX11_writes_37 : decode cX11_writes 37 = .ok (.isub, 1) := by decide +kernel
theorem dX11_writes_38 : decode cX11_writes 38 = .ok (.istore_n 3, 1) := by decide +kernel
theorem dX11_writes_39 : decode cX11_writes 39 = .ok (.aload_n 0, 1) := by decide +kernel
theorem dX11_writes_40 : decode cX11_writes 40 = .ok (.iload_n 1, 1) := by decide +kernel
theorem dX11_writes_41 : decode cX11_writes 41 = .ok (.invokevirtual 50, 3) := by decide +kernel
theorem dX11_writes_44 : decode cX11_writes 44 = .ok (.aload_n 0, 1) := by decide +kernel
theorem dX11_writes_45 : decode cX11_writes 45 = .ok (.getfield 7, 3) := by decide +kernel
theorem dX11_writes_48 : decode cX11_writes 48 = .ok (.iconst 0, 1) := by decide +kernel
theorem dX11_writes_49 : decode cX11_writes 49 = .ok (.iaload, 1) := by decide +kernel
theorem dX11_writes_50 : decode cX11_writes 50 = .ok (.invokestatic 92, 3) := by decide +kernel
theorem dX11_writes_53 : decode cX11_writes 53 = .ok (.istore 4, 2) := by decide +kernel
theorem dX11_writes_55 : decode cX11_writes 55 = .ok (.aload_n 0, 1) := by decide +kernel
theorem dX11_writes_56 : decode cX11_writes 56 = .ok (.iload_n 1, 1) := by decide +kernel
theorem dX11_writes_57 : decode cX11_writes 57 = .ok (.invokevirtual 50, 3) := by decide +kernel
theorem dX11_writes_60 : decode cX11_writes 60 = .ok (.aload_n 0, 1) := by decide +kernel
theorem dX11_writes_61 : decode cX11_writes 61 = .ok (.getfield 7, 3) := by decide +kernel
theorem dX11_writes_64 : decode cX11_writes 64 = .ok (.iconst 0, 1) := by decide +kernel
theorem dX11_writes_65 : decode cX11_writes 65 = .ok (.iaload, 1) := by decide +kernel
theorem dX11_writes_66 : decode cX11_writes 66 = .ok (.invokestatic 95, 3) := by decide +kernel
theorem dX11_writes_69 : decode cX11_writes 69 = .ok (.istore 5, 2) := by decide +kernel
theorem dX11_writes_71 : decode cX11_writes 71 = .ok (.iload_n 3, 1) := by decide +kernel
theorem dX11_writes_72 : decode cX11_writes 72 = .ok (.ifCond .ge 6, 3) := by decide +kernel
theorem dX11_writes_75 : decode cX11_writes 75 = .ok (.bipush 46, 2) := by decide +kernel
theorem dX11_writes_77 : decode cX11_writes 77 = .ok (.ireturn, 1) := by decide +kernel
theorem dX11_writes_78 : decode cX11_writes 78 = .ok (.iload_n 3, 1) := by decide +kernel
theorem dX11_writes_79 : decode cX11_writes 79 = .ok (.iload 4, 2) := by decide +kernel
theorem dX11_writes_81 : decode cX11_writes 81 = .ok (.if_icmp .ge 13, 3) := by decide +kernel
theorem dX11_writes_84 : decode cX11_writes 84 = .ok (.aload_n 0, 1) := by decide +kernel
theorem dX11_writes_85 : decode cX11_writes 85 = .ok (.iload_n 1, 1) := by decide +kernel
theorem dX11_writes_86 : decode cX11_writes 86 = .ok (.iload_n 3, 1) := by decide +kernel
theorem dX11_writes_87 : decode cX11_writes 87 = .ok (.invokevirtual 101, 3) := by decide +kernel
theorem dX11_writes_90 : decode cX11_writes 90 = .ok (.invokestatic 98, 3) := by decide +kernel
theorem dX11_writes_93 : decode cX11_writes 93 = .ok (.ireturn, 1) := by decide +kernel
theorem dX11_writes_94 : decode cX11_writes 94 = .ok (.iload_n 3, 1) := by decide +kernel
theorem dX11_writes_95 : decode cX11_writes 95 = .ok (.iload 4, 2) := by decide +kernel
theorem dX11_writes_97 : decode cX11_writes 97 = .ok (.if_icmp .ne 8, 3) := by decide +kernel
theorem dX11_writes_100 : decode cX11_writes 100 = .ok (.bipush 40, 2) := by decide +kernel
theorem dX11_writes_102 : decode cX11_writes 102 = .ok (.goto 30, 3) := by decide +kernel
theorem dX11_writes_105 : decode cX11_writes 105 = .ok (.iload_n 3, 1) := by decide +kernel
theorem dX11_writes_106 : decode cX11_writes 106 = .ok (.iload 4, 2) := by decide +kernel
theorem dX11_writes_108 : decode cX11_writes 108 = .ok (.iload 5, 2) := by decide +kernel
theorem dX11_writes_110 : decode cX11_writes 110 = .ok (.iadd, 1) := by decide +kernel
theorem dX11_writes_111 : decode cX11_writes 111 = .ok (.iconst 1, 1) := by decide +kernel
theorem dX11_writes_112 : decode cX11_writes 112 = .ok (.iadd, 1) := by decide +kernel
theorem dX11_writes_113 : decode cX11_writes 113 = .ok (.if_icmp .ne 8, 3) := by decide +kernel
theorem dX11_writes_116 : decode cX11_writes 116 = .ok (.bipush 41, 2) := by decide +kernel
theorem dX11_writes_118 : decode cX11_writes 118 = .ok (.goto 14, 3) := by decide +kernel
theorem dX11_writes_121 : decode cX11_writes 121 = .ok (.aload_n 0, 1) := by decide +kernel
theorem dX11_writes_122 : decode cX11_writes 122 = .ok (.iload_n 1, 1) := by decide +kernel
theorem dX11_writes_123 : decode cX11_writes 123 = .ok (.iload_n 3, 1) := by decide +kernel
theorem dX11_writes_124 : decode cX11_writes 124 = .ok (.iconst 1, 1) := by decide +kernel
theorem dX11_writes_125 : decode cX11_writes 125 = .ok (.isub, 1) := by decide +kernel
theorem dX11_writes_126 : decode cX11_writes 126 = .ok (.invokevirtual 101, 3) := by decide +kernel
theorem dX11_writes_129 : decode cX11_writes 129 = .ok (.invokestatic 98, 3) := by decide +kernel
theorem dX11_writes_132 : decode cX11_writes 132 = .ok (.ireturn, 1) := by decide +kernel
theorem dX11_tellsColumns_0 : decode cX11_tellsColumns 0 = .ok (.aload_n 0, 1) := by decide +kernel
theorem dX11_tellsColumns_1 : decode cX11_tellsColumns 1 = .ok (.iload_n 2, 1) := by decide +kernel
theorem dX11_tellsColumns_2 : decode cX11_tellsColumns 2 = .ok (.invokevirtual 88, 3) := by decide +kernel
theorem dX11_tellsColumns_5 : decode cX11_tellsColumns 5 = .ok (.aload_n 0, 1) := by decide +kernel
theorem dX11_tellsColumns_6 : decode cX11_tellsColumns 6 = .ok (.aload_n 0, 1) := by decide +kernel
theorem dX11_tellsColumns_7 : decode cX11_tellsColumns 7 = .ok (.getfield 85, 3) := by decide +kernel
theorem dX11_tellsColumns_10 : decode cX11_tellsColumns 10 = .ok (.putfield 104, 3) := by decide +kernel
theorem dX11_tellsColumns_13 : decode cX11_tellsColumns 13 = .ok (.iconst 0, 1) := by decide +kernel
theorem dX11_tellsColumns_14 : decode cX11_tellsColumns 14 = .ok (.istore_n 3, 1) := by decide +kernel
theorem dX11_tellsColumns_15 : decode cX11_tellsColumns 15 = .ok (.iload_n 3, 1) := by decide +kernel
theorem dX11_tellsColumns_16 : decode cX11_tellsColumns 16 = .ok (.aload_n 0, 1) := by decide +kernel
theorem dX11_tellsColumns_17 : decode cX11_tellsColumns 17 = .ok (.getfield 85, 3) := by decide +kernel
theorem dX11_tellsColumns_20 : decode cX11_tellsColumns 20 = .ok (.if_icmp .ge 21, 3) := by decide +kernel
theorem dX11_tellsColumns_23 : decode cX11_tellsColumns 23 = .ok (.aload_n 0, 1) := by decide +kernel
theorem dX11_tellsColumns_24 : decode cX11_tellsColumns 24 = .ok (.getfield 28, 3) := by decide +kernel
theorem dX11_tellsColumns_27 : decode cX11_tellsColumns 27 = .ok (.iload_n 3, 1) := by decide +kernel
theorem dX11_tellsColumns_28 : decode cX11_tellsColumns 28 = .ok (.aload_n 0, 1) := by decide +kernel
theorem dX11_tellsColumns_29 : decode cX11_tellsColumns 29 = .ok (.getfield 25, 3) := by decide +kernel
theorem dX11_tellsColumns_32 : decode cX11_tellsColumns 32 = .ok (.iload_n 3, 1) := by decide +kernel
theorem dX11_tellsColumns_33 : decode cX11_tellsColumns 33 = .ok (.iaload, 1) := by decide +kernel
theorem dX11_tellsColumns_34 : decode cX11_tellsColumns 34 = .ok (.iastore, 1) := by decide +kernel
theorem dX11_tellsColumns_35 : decode cX11_tellsColumns 35 = .ok (.iinc 3 1, 3) := by decide +kernel
theorem dX11_tellsColumns_38 : decode cX11_tellsColumns 38 = .ok (.goto (-23), 3) := by decide +kernel
theorem dX11_tellsColumns_41 : decode cX11_tellsColumns 41 = .ok (.aload_n 0, 1) := by decide +kernel
theorem dX11_tellsColumns_42 : decode cX11_tellsColumns 42 = .ok (.iload_n 1, 1) := by decide +kernel
theorem dX11_tellsColumns_43 : decode cX11_tellsColumns 43 = .ok (.invokevirtual 88, 3) := by decide +kernel
theorem dX11_tellsColumns_46 : decode cX11_tellsColumns 46 = .ok (.aload_n 0, 1) := by decide +kernel
theorem dX11_tellsColumns_47 : decode cX11_tellsColumns 47 = .ok (.aload_n 0, 1) := by decide +kernel
theorem dX11_tellsColumns_48 : decode cX11_tellsColumns 48 = .ok (.getfield 85, 3) := by decide +kernel
theorem dX11_tellsColumns_51 : decode cX11_tellsColumns 51 = .ok (.aload_n 0, 1) := by decide +kernel
theorem dX11_tellsColumns_52 : decode cX11_tellsColumns 52 = .ok (.getfield 104, 3) := by decide +kernel
theorem dX11_tellsColumns_55 : decode cX11_tellsColumns 55 = .ok (.if_icmp .le 10, 3) := by decide +kernel
theorem dX11_tellsColumns_58 : decode cX11_tellsColumns 58 = .ok (.aload_n 0, 1) := by decide +kernel
theorem dX11_tellsColumns_59 : decode cX11_tellsColumns 59 = .ok (.getfield 85, 3) := by decide +kernel
theorem dX11_tellsColumns_62 : decode cX11_tellsColumns 62 = .ok (.goto 7, 3) := by decide +kernel
theorem dX11_tellsColumns_65 : decode cX11_tellsColumns 65 = .ok (.aload_n 0, 1) := by decide +kernel
theorem dX11_tellsColumns_66 : decode cX11_tellsColumns 66 = .ok (.getfield 104, 3) := by decide +kernel
theorem dX11_tellsColumns_69 : decode cX11_tellsColumns 69 = .ok (.putfield 107, 3) := by decide +kernel
theorem dX11_tellsColumns_72 : decode cX11_tellsColumns 72 = .ok (.aload_n 0, 1) := by decide +kernel
theorem dX11_tellsColumns_73 : decode cX11_tellsColumns 73 = .ok (.iconst 0, 1) := by decide +kernel
theorem dX11_tellsColumns_74 : decode cX11_tellsColumns 74 = .ok (.putfield 110, 3) := by decide +kernel
theorem dX11_tellsColumns_77 : decode cX11_tellsColumns 77 = .ok (.aload_n 0, 1) := by decide +kernel
theorem dX11_tellsColumns_78 : decode cX11_tellsColumns 78 = .ok (.iconst 0, 1) := by decide +kernel
theorem dX11_tellsColumns_79 : decode cX11_tellsColumns 79 = .ok (.putfield 113, 3) := by decide +kernel
theorem dX11_tellsColumns_82 : decode cX11_tellsColumns 82 = .ok (.iconst 0, 1) := by decide +kernel
theorem dX11_tellsColumns_83 : decode cX11_tellsColumns 83 = .ok (.istore_n 3, 1) := by decide +kernel
theorem dX11_tellsColumns_84 : decode cX11_tellsColumns 84 = .ok (.iconst 0, 1) := by decide +kernel
theorem dX11_tellsColumns_85 : decode cX11_tellsColumns 85 = .ok (.istore 4, 2) := by decide +kernel
theorem dX11_tellsColumns_87 : decode cX11_tellsColumns 87 = .ok (.iconst 0, 1) := by decide +kernel
theorem dX11_tellsColumns_88 : decode cX11_tellsColumns 88 = .ok (.istore 5, 2) := by decide +kernel
theorem dX11_tellsColumns_90 : decode cX11_tellsColumns 90 = .ok (.iload 5, 2) := by decide +kernel
theorem dX11_tellsColumns_92 : decode cX11_tellsColumns 92 = .ok (.aload_n 0, 1) := by decide +kernel
theorem dX11_tellsColumns_93 : decode cX11_tellsColumns 93 = .ok (.getfield 107, 3) := by decide +kernel
theorem dX11_tellsColumns_96 : decode cX11_tellsColumns 96 = .ok (.if_icmp .ge 127, 3) := by decide +kernel
theorem dX11_tellsColumns_99 : decode cX11_tellsColumns 99 = .ok (.iload 5, 2) := by decide +kernel
theorem dX11_tellsColumns_101 : decode cX11_tellsColumns 101 = .ok (.aload_n 0, 1) := by decide +kernel
theorem dX11_tellsColumns_102 : decode cX11_tellsColumns 102 = .ok (.getfield 85, 3) := by decide +kernel
theorem dX11_tellsColumns_105 : decode cX11_tellsColumns 105 = .ok (.if_icmp .ge 13, 3) := by decide +kernel
theorem dX11_tellsColumns_108 : decode cX11_tellsColumns 108 = .ok (.aload_n 0, 1) := by decide +kernel
theorem dX11_tellsColumns_109 : decode cX11_tellsColumns 109 = .ok (.getfield 25, 3) := by decide +kernel
theorem dX11_tellsColumns_112 : decode cX11_tellsColumns 112 = .ok (.iload 5, 2) := by decide +kernel
theorem dX11_tellsColumns_114 : decode cX11_tellsColumns 114 = .ok (.iaload, 1) := by decide +kernel
theorem dX11_tellsColumns_115 : decode cX11_tellsColumns 115 = .ok (.goto 4, 3) := by decide +kernel
theorem dX11_tellsColumns_118 : decode cX11_tellsColumns 118 = .ok (.iconst 0, 1) := by decide +kernel
theorem dX11_tellsColumns_119 : decode cX11_tellsColumns 119 = .ok (.iload 5, 2) := by decide +kernel
theorem dX11_tellsColumns_121 : decode cX11_tellsColumns 121 = .ok (.aload_n 0, 1) := by decide +kernel
theorem dX11_tellsColumns_122 : decode cX11_tellsColumns 122 = .ok (.getfield 104, 3) := by decide +kernel
theorem dX11_tellsColumns_125 : decode cX11_tellsColumns 125 = .ok (.if_icmp .ge 13, 3) := by decide +kernel
theorem dX11_tellsColumns_128 : decode cX11_tellsColumns 128 = .ok (.aload_n 0, 1) := by decide +kernel
theorem dX11_tellsColumns_129 : decode cX11_tellsColumns 129 = .ok (.getfield 28, 3) := by decide +kernel
theorem dX11_tellsColumns_132 : decode cX11_tellsColumns 132 = .ok (.iload 5, 2) := by decide +kernel
theorem dX11_tellsColumns_134 : decode cX11_tellsColumns 134 = .ok (.iaload, 1) := by decide +kernel
theorem dX11_tellsColumns_135 : decode cX11_tellsColumns 135 = .ok (.goto 4, 3) := by decide +kernel
theorem dX11_tellsColumns_138 : decode cX11_tellsColumns 138 = .ok (.iconst 0, 1) := by decide +kernel
theorem dX11_tellsColumns_139 : decode cX11_tellsColumns 139 = .ok (.iadd, 1) := by decide +kernel
theorem dX11_tellsColumns_140 : decode cX11_tellsColumns 140 = .ok (.iload_n 3, 1) := by decide +kernel
theorem dX11_tellsColumns_141 : decode cX11_tellsColumns 141 = .ok (.iadd, 1) := by decide +kernel
theorem dX11_tellsColumns_142 : decode cX11_tellsColumns 142 = .ok (.istore 6, 2) := by decide +kernel
theorem dX11_tellsColumns_144 : decode cX11_tellsColumns 144 = .ok (.iload 6, 2) := by decide +kernel
theorem dX11_tellsColumns_146 : decode cX11_tellsColumns 146 = .ok (.aload_n 0, 1) := by decide +kernel
theorem dX11_tellsColumns_147 : decode cX11_tellsColumns 147 = .ok (.getfield 7, 3) := by decide +kernel
theorem dX11_tellsColumns_150 : decode cX11_tellsColumns 150 = .ok (.iconst 0, 1) := by decide +kernel
theorem dX11_tellsColumns_151 : decode cX11_tellsColumns 151 = .ok (.iaload, 1) := by decide +kernel
theorem dX11_tellsColumns_152 : decode cX11_tellsColumns 152 = .ok (.idiv, 1) := by decide +kernel
theorem dX11_tellsColumns_153 : decode cX11_tellsColumns 153 = .ok (.istore_n 3, 1) := by decide +kernel
theorem dX11_tellsColumns_154 : decode cX11_tellsColumns 154 = .ok (.aload_n 0, 1) := by decide +kernel
theorem dX11_tellsColumns_155 : decode cX11_tellsColumns 155 = .ok (.getfield 31, 3) := by decide +kernel
theorem dX11_tellsColumns_158 : decode cX11_tellsColumns 158 = .ok (.iload 5, 2) := by decide +kernel
theorem dX11_tellsColumns_160 : decode cX11_tellsColumns 160 = .ok (.iload 6, 2) := by decide +kernel
theorem dX11_tellsColumns_162 : decode cX11_tellsColumns 162 = .ok (.aload_n 0, 1) := by decide +kernel
theorem dX11_tellsColumns_163 : decode cX11_tellsColumns 163 = .ok (.getfield 7, 3) := by decide +kernel
theorem dX11_tellsColumns_166 : decode cX11_tellsColumns 166 = .ok (.iconst 0, 1) := by decide +kernel
theorem dX11_tellsColumns_167 : decode cX11_tellsColumns 167 = .ok (.iaload, 1) := by decide +kernel
theorem dX11_tellsColumns_168 : decode cX11_tellsColumns 168 = .ok (.irem, 1) := by decide +kernel
theorem dX11_tellsColumns_169 : decode cX11_tellsColumns 169 = .ok (.iastore, 1) := by decide +kernel
theorem dX11_tellsColumns_170 : decode cX11_tellsColumns 170 = .ok (.aload_n 0, 1) := by decide +kernel
theorem dX11_tellsColumns_171 : decode cX11_tellsColumns 171 = .ok (.dup, 1) := by decide +kernel
theorem dX11_tellsColumns_172 : decode cX11_tellsColumns 172 = .ok (.getfield 110, 3) := by decide +kernel
theorem dX11_tellsColumns_175 : decode cX11_tellsColumns 175 = .ok (.iload_n 3, 1) := by decide +kernel
theorem dX11_tellsColumns_176 : decode cX11_tellsColumns 176 = .ok (.iadd, 1) := by decide +kernel
theorem dX11_tellsColumns_177 : decode cX11_tellsColumns 177 = .ok (.putfield 110, 3) := by decide +kernel
theorem dX11_tellsColumns_180 : decode cX11_tellsColumns 180 = .ok (.iload_n 3, 1) := by decide +kernel
theorem dX11_tellsColumns_181 : decode cX11_tellsColumns 181 = .ok (.iconst 1, 1) := by decide +kernel
theorem dX11_tellsColumns_182 : decode cX11_tellsColumns 182 = .ok (.if_icmp .ne 10, 3) := by decide +kernel
theorem dX11_tellsColumns_185 : decode cX11_tellsColumns 185 = .ok (.iload 4, 2) := by decide +kernel
theorem dX11_tellsColumns_187 : decode cX11_tellsColumns 187 = .ok (.iconst 1, 1) := by decide +kernel
theorem dX11_tellsColumns_188 : decode cX11_tellsColumns 188 = .ok (.iadd, 1) := by decide +kernel
theorem dX11_tellsColumns_189 : decode cX11_tellsColumns 189 = .ok (.goto 4, 3) := by decide +kernel
theorem dX11_tellsColumns_192 : decode cX11_tellsColumns 192 = .ok (.iconst 0, 1) := by decide +kernel
theorem dX11_tellsColumns_193 : decode cX11_tellsColumns 193 = .ok (.istore 4, 2) := by decide +kernel
theorem dX11_tellsColumns_195 : decode cX11_tellsColumns 195 = .ok (.aload_n 0, 1) := by decide +kernel
theorem dX11_tellsColumns_196 : decode cX11_tellsColumns 196 = .ok (.iload 4, 2) := by decide +kernel
theorem dX11_tellsColumns_198 : decode cX11_tellsColumns 198 = .ok (.aload_n 0, 1) := by decide +kernel
theorem dX11_tellsColumns_199 : decode cX11_tellsColumns 199 = .ok (.getfield 113, 3) := by decide +kernel
theorem dX11_tellsColumns_202 : decode cX11_tellsColumns 202 = .ok (.if_icmp .le 8, 3) := by decide +kernel
theorem dX11_tellsColumns_205 : decode cX11_tellsColumns 205 = .ok (.iload 4, 2) := by decide +kernel
theorem dX11_tellsColumns_207 : decode cX11_tellsColumns 207 = .ok (.goto 7, 3) := by decide +kernel
theorem dX11_tellsColumns_210 : decode cX11_tellsColumns 210 = .ok (.aload_n 0, 1) := by decide +kernel
theorem dX11_tellsColumns_211 : decode cX11_tellsColumns 211 = .ok (.getfield 113, 3) := by decide +kernel
theorem dX11_tellsColumns_214 : decode cX11_tellsColumns 214 = .ok (.putfield 113, 3) := by decide +kernel
theorem dX11_tellsColumns_217 : decode cX11_tellsColumns 217 = .ok (.iinc 5 1, 3) := by decide +kernel
theorem dX11_tellsColumns_220 : decode cX11_tellsColumns 220 = .ok (.goto (-130), 3) := by decide +kernel
theorem dX11_tellsColumns_223 : decode cX11_tellsColumns 223 = .ok (.iload_n 3, 1) := by decide +kernel
theorem dX11_tellsColumns_224 : decode cX11_tellsColumns 224 = .ok (.iconst 1, 1) := by decide +kernel
theorem dX11_tellsColumns_225 : decode cX11_tellsColumns 225 = .ok (.if_icmp .ne 23, 3) := by decide +kernel
theorem dX11_tellsColumns_228 : decode cX11_tellsColumns 228 = .ok (.aload_n 0, 1) := by decide +kernel
theorem dX11_tellsColumns_229 : decode cX11_tellsColumns 229 = .ok (.getfield 31, 3) := by decide +kernel
theorem dX11_tellsColumns_232 : decode cX11_tellsColumns 232 = .ok (.aload_n 0, 1) := by decide +kernel
theorem dX11_tellsColumns_233 : decode cX11_tellsColumns 233 = .ok (.getfield 107, 3) := by decide +kernel
theorem dX11_tellsColumns_236 : decode cX11_tellsColumns 236 = .ok (.iconst 1, 1) := by decide +kernel
theorem dX11_tellsColumns_237 : decode cX11_tellsColumns 237 = .ok (.iastore, 1) := by decide +kernel
theorem dX11_tellsColumns_238 : decode cX11_tellsColumns 238 = .ok (.aload_n 0, 1) := by decide +kernel
theorem dX11_tellsColumns_239 : decode cX11_tellsColumns 239 = .ok (.dup, 1) := by decide +kernel
theorem dX11_tellsColumns_240 : decode cX11_tellsColumns 240 = .ok (.getfield 107, 3) := by decide +kernel
theorem dX11_tellsColumns_243 : decode cX11_tellsColumns 243 = .ok (.iconst 1, 1) := by decide +kernel
theorem dX11_tellsColumns_244 : decode cX11_tellsColumns 244 = .ok (.iadd, 1) := by decide +kernel
theorem dX11_tellsColumns_245 : decode cX11_tellsColumns 245 = .ok (.putfield 107, 3) := by decide +kernel
theorem dX11_tellsColumns_248 : decode cX11_tellsColumns 248 = .ok (.return_, 1) := by decide +kernel
theorem dX11_reads16_0 : decode cX11_reads16 0 = .ok (.lconst 0, 1) := by decide +kernel
theorem dX11_reads16_1 : decode cX11_reads16 1 = .ok (.lstore_n 3, 1) := by decide +kernel
theorem dX11_reads16_2 : decode cX11_reads16 2 = .ok (.iconst 1, 1) := by decide +kernel
theorem dX11_reads16_3 : decode cX11_reads16 3 = .ok (.istore 5, 2) := by decide +kernel
theorem dX11_reads16_5 : decode cX11_reads16 5 = .ok (.aload_n 0, 1) := by decide +kernel
theorem dX11_reads16_6 : decode cX11_reads16 6 = .ok (.iload_n 1, 1) := by decide +kernel
theorem dX11_reads16_7 : decode cX11_reads16 7 = .ok (.invokevirtual 88, 3) := by decide +kernel
theorem dX11_reads16_10 : decode cX11_reads16 10 = .ok (.aload_n 0, 1) := by decide +kernel
theorem dX11_reads16_11 : decode cX11_reads16 11 = .ok (.getfield 85, 3) := by decide +kernel
theorem dX11_reads16_14 : decode cX11_reads16 14 = .ok (.iconst 1, 1) := by decide +kernel
theorem dX11_reads16_15 : decode cX11_reads16 15 = .ok (.isub, 1) := by decide +kernel
theorem dX11_reads16_16 : decode cX11_reads16 16 = .ok (.istore 6, 2) := by decide +kernel
theorem dX11_reads16_18 : decode cX11_reads16 18 = .ok (.iload 6, 2) := by decide +kernel
theorem dX11_reads16_20 : decode cX11_reads16 20 = .ok (.ifCond .lt 54, 3) := by decide +kernel
theorem dX11_reads16_23 : decode cX11_reads16 23 = .ok (.iload 5, 2) := by decide +kernel
theorem dX11_reads16_25 : decode cX11_reads16 25 = .ok (.ifCond .eq 49, 3) := by decide +kernel
theorem dX11_reads16_28 : decode cX11_reads16 28 = .ok (.lload_n 3, 1) := by decide +kernel
theorem dX11_reads16_29 : decode cX11_reads16 29 = .ok (.iload_n 2, 1) := by decide +kernel
theorem dX11_reads16_30 : decode cX11_reads16 30 = .ok (.i2l, 1) := by decide +kernel
theorem dX11_reads16_31 : decode cX11_reads16 31 = .ok (.lmul, 1) := by decide +kernel
theorem dX11_reads16_32 : decode cX11_reads16 32 = .ok (.aload_n 0, 1) := by decide +kernel
theorem dX11_reads16_33 : decode cX11_reads16 33 = .ok (.getfield 25, 3) := by decide +kernel
theorem dX11_reads16_36 : decode cX11_reads16 36 = .ok (.iload 6, 2) := by decide +kernel
theorem dX11_reads16_38 : decode cX11_reads16 38 = .ok (.iaload, 1) := by decide +kernel
theorem dX11_reads16_39 : decode cX11_reads16 39 = .ok (.i2l, 1) := by decide +kernel
theorem dX11_reads16_40 : decode cX11_reads16 40 = .ok (.ladd, 1) := by decide +kernel
theorem dX11_reads16_41 : decode cX11_reads16 41 = .ok (.lstore_n 3, 1) := by decide +kernel
theorem dX11_reads16_42 : decode cX11_reads16 42 = .ok (.aload_n 0, 1) := by decide +kernel
theorem dX11_reads16_43 : decode cX11_reads16 43 = .ok (.getfield 25, 3) := by decide +kernel
theorem dX11_reads16_46 : decode cX11_reads16 46 = .ok (.iload 6, 2) := by decide +kernel
theorem dX11_reads16_48 : decode cX11_reads16 48 = .ok (.iaload, 1) := by decide +kernel
theorem dX11_reads16_49 : decode cX11_reads16 49 = .ok (.iload_n 2, 1) := by decide +kernel
theorem dX11_reads16_50 : decode cX11_reads16 50 = .ok (.if_icmp .ge 15, 3) := by decide +kernel
theorem dX11_reads16_53 : decode cX11_reads16 53 = .ok (.lload_n 3, 1) := by decide +kernel
theorem dX11_reads16_54 : decode cX11_reads16 54 = .ok (.ldc2_w 116, 3) := by decide +kernel
theorem dX11_reads16_57 : decode cX11_reads16 57 = .ok (.lcmp, 1) := by decide +kernel
theorem dX11_reads16_58 : decode cX11_reads16 58 = .ok (.ifCond .gt 7, 3) := by decide +kernel
theorem dX11_reads16_61 : decode cX11_reads16 61 = .ok (.iconst 1, 1) := by decide +kernel
theorem dX11_reads16_62 : decode cX11_reads16 62 = .ok (.goto 4, 3) := by decide +kernel
theorem dX11_reads16_65 : decode cX11_reads16 65 = .ok (.iconst 0, 1) := by decide +kernel
theorem dX11_reads16_66 : decode cX11_reads16 66 = .ok (.istore 5, 2) := by decide +kernel
theorem dX11_reads16_68 : decode cX11_reads16 68 = .ok (.iinc 6 (-1), 3) := by decide +kernel
theorem dX11_reads16_71 : decode cX11_reads16 71 = .ok (.goto (-53), 3) := by decide +kernel
theorem dX11_reads16_74 : decode cX11_reads16 74 = .ok (.iload 5, 2) := by decide +kernel
theorem dX11_reads16_76 : decode cX11_reads16 76 = .ok (.ifCond .eq 7, 3) := by decide +kernel
theorem dX11_reads16_79 : decode cX11_reads16 79 = .ok (.lload_n 3, 1) := by decide +kernel
theorem dX11_reads16_80 : decode cX11_reads16 80 = .ok (.goto 6, 3) := by decide +kernel
theorem dX11_reads16_83 : decode cX11_reads16 83 = .ok (.ldc2_w 118, 3) := by decide +kernel
theorem dX11_reads16_86 : decode cX11_reads16 86 = .ok (.lreturn, 1) := by decide +kernel
theorem dX11_sumPeriod_0 : decode cX11_sumPeriod 0 = .ok (.aload_n 0, 1) := by decide +kernel
theorem dX11_sumPeriod_1 : decode cX11_sumPeriod 1 = .ok (.iload_n 1, 1) := by decide +kernel
theorem dX11_sumPeriod_2 : decode cX11_sumPeriod 2 = .ok (.iload_n 2, 1) := by decide +kernel
theorem dX11_sumPeriod_3 : decode cX11_sumPeriod 3 = .ok (.iconst 1, 1) := by decide +kernel
theorem dX11_sumPeriod_4 : decode cX11_sumPeriod 4 = .ok (.invokevirtual 120, 3) := by decide +kernel
theorem dX11_sumPeriod_7 : decode cX11_sumPeriod 7 = .ok (.pop, 1) := by decide +kernel
theorem dX11_sumPeriod_8 : decode cX11_sumPeriod 8 = .ok (.aload_n 0, 1) := by decide +kernel
theorem dX11_sumPeriod_9 : decode cX11_sumPeriod 9 = .ok (.getfield 64, 3) := by decide +kernel
theorem dX11_sumPeriod_12 : decode cX11_sumPeriod 12 = .ok (.l2i, 1) := by decide +kernel
theorem dX11_sumPeriod_13 : decode cX11_sumPeriod 13 = .ok (.aload_n 0, 1) := by decide +kernel
theorem dX11_sumPeriod_14 : decode cX11_sumPeriod 14 = .ok (.getfield 7, 3) := by decide +kernel
theorem dX11_sumPeriod_17 : decode cX11_sumPeriod 17 = .ok (.iconst 0, 1) := by decide +kernel
theorem dX11_sumPeriod_18 : decode cX11_sumPeriod 18 = .ok (.iaload, 1) := by decide +kernel
theorem dX11_sumPeriod_19 : decode cX11_sumPeriod 19 = .ok (.invokestatic 95, 3) := by decide +kernel
theorem dX11_sumPeriod_22 : decode cX11_sumPeriod 22 = .ok (.ireturn, 1) := by decide +kernel
theorem dX11_setBase_0 : decode cX11_setBase 0 = .ok (.aload_n 0, 1) := by decide +kernel
theorem dX11_setBase_1 : decode cX11_setBase 1 = .ok (.iconst 0, 1) := by decide +kernel
theorem dX11_setBase_2 : decode cX11_setBase 2 = .ok (.putfield 34, 3) := by decide +kernel
theorem dX11_setBase_5 : decode cX11_setBase 5 = .ok (.iload_n 1, 1) := by decide +kernel
theorem dX11_setBase_6 : decode cX11_setBase 6 = .ok (.invokestatic 124, 3) := by decide +kernel
theorem dX11_setBase_9 : decode cX11_setBase 9 = .ok (.ifCond .ne 9, 3) := by decide +kernel
theorem dX11_setBase_12 : decode cX11_setBase 12 = .ok (.aload_n 0, 1) := by decide +kernel
theorem dX11_setBase_13 : decode cX11_setBase 13 = .ok (.iconst 1, 1) := by decide +kernel
theorem dX11_setBase_14 : decode cX11_setBase 14 = .ok (.invokevirtual 127, 3) := by decide +kernel
theorem dX11_setBase_17 : decode cX11_setBase 17 = .ok (.ireturn, 1) := by decide +kernel
theorem dX11_setBase_18 : decode cX11_setBase 18 = .ok (.aload_n 0, 1) := by decide +kernel
theorem dX11_setBase_19 : decode cX11_setBase 19 = .ok (.invokevirtual 130, 3) := by decide +kernel
theorem dX11_setBase_22 : decode cX11_setBase 22 = .ok (.aload_n 0, 1) := by decide +kernel
theorem dX11_setBase_23 : decode cX11_setBase 23 = .ok (.getfield 7, 3) := by decide +kernel
theorem dX11_setBase_26 : decode cX11_setBase 26 = .ok (.iconst 0, 1) := by decide +kernel
theorem dX11_setBase_27 : decode cX11_setBase 27 = .ok (.iaload, 1) := by decide +kernel
theorem dX11_setBase_28 : decode cX11_setBase 28 = .ok (.istore_n 2, 1) := by decide +kernel
theorem dX11_setBase_29 : decode cX11_setBase 29 = .ok (.aload_n 0, 1) := by decide +kernel
theorem dX11_setBase_30 : decode cX11_setBase 30 = .ok (.getfield 7, 3) := by decide +kernel
theorem dX11_setBase_33 : decode cX11_setBase 33 = .ok (.iconst 0, 1) := by decide +kernel
theorem dX11_setBase_34 : decode cX11_setBase 34 = .ok (.iload_n 1, 1) := by decide +kernel
theorem dX11_setBase_35 : decode cX11_setBase 35 = .ok (.iastore, 1) := by decide +kernel
theorem dX11_setBase_36 : decode cX11_setBase 36 = .ok (.iload_n 2, 1) := by decide +kernel
theorem dX11_setBase_37 : decode cX11_setBase 37 = .ok (.ireturn, 1) := by decide +kernel
theorem dX11_setFraction_0 : decode cX11_setFraction 0 = .ok (.aload_n 0, 1) := by decide +kernel
theorem dX11_setFraction_1 : decode cX11_setFraction 1 = .ok (.iconst 0, 1) := by decide +kernel
theorem dX11_setFraction_2 : decode cX11_setFraction 2 = .ok (.putfield 34, 3) := by decide +kernel
theorem dX11_setFraction_5 : decode cX11_setFraction 5 = .ok (.iload_n 1, 1) := by decide +kernel
theorem dX11_setFraction_6 : decode cX11_setFraction 6 = .ok (.invokestatic 42, 3) := by decide +kernel
theorem dX11_setFraction_9 : decode cX11_setFraction 9 = .ok (.ifCond .ne 9, 3) := by decide +kernel
theorem dX11_setFraction_12 : decode cX11_setFraction 12 = .ok (.aload_n 0, 1) := by decide +kernel
theorem dX11_setFraction_13 : decode cX11_setFraction 13 = .ok (.iconst 1, 1) := by decide +kernel
theorem dX11_setFraction_14 : decode cX11_setFraction 14 = .ok (.invokevirtual 127, 3) := by decide +kernel
theorem dX11_setFraction_17 : decode cX11_setFraction 17 = .ok (.ireturn, 1) := by decide +kernel
theorem dX11_setFraction_18 : decode cX11_setFraction 18 = .ok (.iload_n 2, 1) := by decide +kernel
theorem dX11_setFraction_19 : decode cX11_setFraction 19 = .ok (.iconst 0, 1) := by decide +kernel
theorem dX11_setFraction_20 : decode cX11_setFraction 20 = .ok (.ldc 133, 2) := by decide +kernel
theorem dX11_setFraction_22 : decode cX11_setFraction 22 = .ok (.invokestatic 38, 3) := by decide +kernel
theorem dX11_setFraction_25 : decode cX11_setFraction 25 = .ok (.ifCond .eq 14, 3) := by decide +kernel
theorem dX11_setFraction_28 : decode cX11_setFraction 28 = .ok (.iload_n 3, 1) := by decide +kernel
theorem dX11_setFraction_29 : decode cX11_setFraction 29 = .ok (.iconst 1, 1) := by decide +kernel
theorem dX11_setFraction_30 : decode cX11_setFraction 30 = .ok (.sipush 999, 3) := by decide +kernel
theorem dX11_setFraction_33 : decode cX11_setFraction 33 = .ok (.invokestatic 38, 3) := by decide +kernel
theorem dX11_setFraction_36 : decode cX11_setFraction 36 = .ok (.ifCond .ne 9, 3) := by decide +kernel
theorem dX11_setFraction_39 : decode cX11_setFraction 39 = .ok (.aload_n 0, 1) := by decide +kernel
theorem dX11_setFraction_40 : decode cX11_setFraction 40 = .ok (.iconst 2, 1) := by decide +kernel
theorem dX11_setFraction_41 : decode cX11_setFraction 41 = .ok (.invokevirtual 127, 3) := by decide +kernel
theorem dX11_setFraction_44 : decode cX11_setFraction 44 = .ok (.ireturn, 1) := by decide +kernel
theorem dX11_setFraction_45 : decode cX11_setFraction 45 = .ok (.aload_n 0, 1) := by decide +kernel
theorem dX11_setFraction_46 : decode cX11_setFraction 46 = .ok (.invokevirtual 130, 3) := by decide +kernel
theorem dX11_setFraction_49 : decode cX11_setFraction 49 = .ok (.aload_n 0, 1) := by decide +kernel
theorem dX11_setFraction_50 : decode cX11_setFraction 50 = .ok (.iload_n 2, 1) := by decide +kernel
theorem dX11_setFraction_51 : decode cX11_setFraction 51 = .ok (.i2l, 1) := by decide +kernel
theorem dX11_setFraction_52 : decode cX11_setFraction 52 = .ok (.iload_n 3, 1) := by decide +kernel
theorem dX11_setFraction_53 : decode cX11_setFraction 53 = .ok (.i2l, 1) := by decide +kernel
theorem dX11_setFraction_54 : decode cX11_setFraction 54 = .ok (.invokevirtual 71, 3) := by decide +kernel
theorem dX11_setFraction_57 : decode cX11_setFraction 57 = .ok (.pop, 1) := by decide +kernel
theorem dX11_setFraction_58 : decode cX11_setFraction 58 = .ok (.aload_n 0, 1) := by decide +kernel
theorem dX11_setFraction_59 : decode cX11_setFraction 59 = .ok (.iload_n 1, 1) := by decide +kernel
theorem dX11_setFraction_60 : decode cX11_setFraction 60 = .ok (.invokevirtual 134, 3) := by decide +kernel
theorem dX11_setFraction_63 : decode cX11_setFraction 63 = .ok (.aload_n 0, 1) := by decide +kernel
theorem dX11_setFraction_64 : decode cX11_setFraction 64 = .ok (.iload_n 1, 1) := by decide +kernel
theorem dX11_setFraction_65 : decode cX11_setFraction 65 = .ok (.invokevirtual 50, 3) := by decide +kernel
theorem dX11_setFraction_68 : decode cX11_setFraction 68 = .ok (.ireturn, 1) := by decide +kernel
theorem dX11_add_0 : decode cX11_add 0 = .ok (.aload_n 0, 1) := by decide +kernel
theorem dX11_add_1 : decode cX11_add 1 = .ok (.iconst 0, 1) := by decide +kernel
theorem dX11_add_2 : decode cX11_add 2 = .ok (.putfield 34, 3) := by decide +kernel
theorem dX11_add_5 : decode cX11_add 5 = .ok (.iload_n 1, 1) := by decide +kernel
theorem dX11_add_6 : decode cX11_add 6 = .ok (.iload_n 2, 1) := by decide +kernel
theorem dX11_add_7 : decode cX11_add 7 = .ok (.invokestatic 137, 3) := by decide +kernel
theorem dX11_add_10 : decode cX11_add 10 = .ok (.ifCond .ne 9, 3) := by decide +kernel
theorem dX11_add_13 : decode cX11_add 13 = .ok (.aload_n 0, 1) := by decide +kernel
theorem dX11_add_14 : decode cX11_add 14 = .ok (.iconst 1, 1) := by decide +kernel
theorem dX11_add_15 : decode cX11_add 15 = .ok (.invokevirtual 127, 3) := by decide +kernel
theorem dX11_add_18 : decode cX11_add 18 = .ok (.ireturn, 1) := by decide +kernel
theorem dX11_add_19 : decode cX11_add 19 = .ok (.aload_n 0, 1) := by decide +kernel
theorem dX11_add_20 : decode cX11_add 20 = .ok (.iload_n 1, 1) := by decide +kernel
theorem dX11_add_21 : decode cX11_add 21 = .ok (.iload_n 2, 1) := by decide +kernel
theorem dX11_add_22 : decode cX11_add 22 = .ok (.iconst 1, 1) := by decide +kernel
theorem dX11_add_23 : decode cX11_add 23 = .ok (.invokevirtual 120, 3) := by decide +kernel
theorem dX11_add_26 : decode cX11_add 26 = .ok (.ifCond .le 9, 3) := by decide +kernel
theorem dX11_add_29 : decode cX11_add 29 = .ok (.aload_n 0, 1) := by decide +kernel
theorem dX11_add_30 : decode cX11_add 30 = .ok (.iconst 2, 1) := by decide +kernel
theorem dX11_add_31 : decode cX11_add 31 = .ok (.invokevirtual 127, 3) := by decide +kernel
theorem dX11_add_34 : decode cX11_add 34 = .ok (.ireturn, 1) := by decide +kernel
theorem dX11_add_35 : decode cX11_add 35 = .ok (.aload_n 0, 1) := by decide +kernel
theorem dX11_add_36 : decode cX11_add 36 = .ok (.invokevirtual 130, 3) := by decide +kernel
theorem dX11_add_39 : decode cX11_add 39 = .ok (.aload_n 0, 1) := by decide +kernel
theorem dX11_add_40 : decode cX11_add 40 = .ok (.iload_n 1, 1) := by decide +kernel
theorem dX11_add_41 : decode cX11_add 41 = .ok (.invokevirtual 134, 3) := by decide +kernel
theorem dX11_add_44 : decode cX11_add 44 = .ok (.aload_n 0, 1) := by decide +kernel
theorem dX11_add_45 : decode cX11_add 45 = .ok (.iload_n 1, 1) := by decide +kernel
theorem dX11_add_46 : decode cX11_add 46 = .ok (.invokevirtual 46, 3) := by decide +kernel
theorem dX11_add_49 : decode cX11_add 49 = .ok (.ireturn, 1) := by decide +kernel
theorem dX11_subtract_0 : decode cX11_subtract 0 = .ok (.aload_n 0, 1) := by decide +kernel
theorem dX11_subtract_1 : decode cX11_subtract 1 = .ok (.iconst 0, 1) := by decide +kernel
theorem dX11_subtract_2 : decode cX11_subtract 2 = .ok (.putfield 34, 3) := by decide +kernel
theorem dX11_subtract_5 : decode cX11_subtract 5 = .ok (.iload_n 1, 1) := by decide +kernel
theorem dX11_subtract_6 : decode cX11_subtract 6 = .ok (.iload_n 2, 1) := by decide +kernel
theorem dX11_subtract_7 : decode cX11_subtract 7 = .ok (.invokestatic 137, 3) := by decide +kernel
theorem dX11_subtract_10 : decode cX11_subtract 10 = .ok (.ifCond .ne 9, 3) := by decide +kernel
theorem dX11_subtract_13 : decode cX11_subtract 13 = .ok (.aload_n 0, 1) := by decide +kernel
theorem dX11_subtract_14 : decode cX11_subtract 14 = .ok (.iconst 1, 1) := by decide +kernel
theorem dX11_subtract_15 : decode cX11_subtract 15 = .ok (.invokevirtual 127, 3) := by decide +kernel
theorem dX11_subtract_18 : decode cX11_subtract 18 = .ok (.ireturn, 1) := by decide +kernel
theorem dX11_subtract_19 : decode cX11_subtract 19 = .ok (.aload_n 0, 1) := by decide +kernel
theorem dX11_subtract_20 : decode cX11_subtract 20 = .ok (.iload_n 1, 1) := by decide +kernel
theorem dX11_subtract_21 : decode cX11_subtract 21 = .ok (.iload_n 2, 1) := by decide +kernel
theorem dX11_subtract_22 : decode cX11_subtract 22 = .ok (.iconst (-1), 1) := by decide +kernel
theorem dX11_subtract_23 : decode cX11_subtract 23 = .ok (.invokevirtual 120, 3) := by decide +kernel
theorem dX11_subtract_26 : decode cX11_subtract 26 = .ok (.ifCond .gt 12, 3) := by decide +kernel
theorem dX11_subtract_29 : decode cX11_subtract 29 = .ok (.aload_n 0, 1) := by decide +kernel
theorem dX11_subtract_30 : decode cX11_subtract 30 = .ok (.getfield 60, 3) := by decide +kernel
theorem dX11_subtract_33 : decode cX11_subtract 33 = .ok (.lconst 0, 1) := by decide +kernel
theorem dX11_subtract_34 : decode cX11_subtract 34 = .ok (.lcmp, 1) := by decide +kernel
theorem dX11_subtract_35 : decode cX11_subtract 35 = .ok (.ifCond .ge 9, 3) := by decide +kernel
theorem dX11_subtract_38 : decode cX11_subtract 38 = .ok (.aload_n 0, 1) := by decide +kernel
theorem dX11_subtract_39 : decode cX11_subtract 39 = .ok (.iconst 2, 1) := by decide +kernel
theorem dX11_subtract_40 : decode cX11_subtract 40 = .ok (.invokevirtual 127, 3) := by decide +kernel
theorem dX11_subtract_43 : decode cX11_subtract 43 = .ok (.ireturn, 1) := by decide +kernel
theorem dX11_subtract_44 : decode cX11_subtract 44 = .ok (.aload_n 0, 1) := by decide +kernel
theorem dX11_subtract_45 : decode cX11_subtract 45 = .ok (.invokevirtual 130, 3) := by decide +kernel
theorem dX11_subtract_48 : decode cX11_subtract 48 = .ok (.aload_n 0, 1) := by decide +kernel
theorem dX11_subtract_49 : decode cX11_subtract 49 = .ok (.iload_n 1, 1) := by decide +kernel
theorem dX11_subtract_50 : decode cX11_subtract 50 = .ok (.invokevirtual 134, 3) := by decide +kernel
theorem dX11_subtract_53 : decode cX11_subtract 53 = .ok (.aload_n 0, 1) := by decide +kernel
theorem dX11_subtract_54 : decode cX11_subtract 54 = .ok (.iload_n 1, 1) := by decide +kernel
theorem dX11_subtract_55 : decode cX11_subtract 55 = .ok (.invokevirtual 46, 3) := by decide +kernel
theorem dX11_subtract_58 : decode cX11_subtract 58 = .ok (.ireturn, 1) := by decide +kernel
theorem dX11_shift_0 : decode cX11_shift 0 = .ok (.aload_n 0, 1) := by decide +kernel
theorem dX11_shift_1 : decode cX11_shift 1 = .ok (.iconst 0, 1) := by decide +kernel
theorem dX11_shift_2 : decode cX11_shift 2 = .ok (.putfield 34, 3) := by decide +kernel
theorem dX11_shift_5 : decode cX11_shift 5 = .ok (.iload_n 1, 1) := by decide +kernel
theorem dX11_shift_6 : decode cX11_shift 6 = .ok (.invokestatic 42, 3) := by decide +kernel
theorem dX11_shift_9 : decode cX11_shift 9 = .ok (.ifCond .ne 9, 3) := by decide +kernel
theorem dX11_shift_12 : decode cX11_shift 12 = .ok (.aload_n 0, 1) := by decide +kernel
theorem dX11_shift_13 : decode cX11_shift 13 = .ok (.iconst 1, 1) := by decide +kernel
theorem dX11_shift_14 : decode cX11_shift 14 = .ok (.invokevirtual 127, 3) := by decide +kernel
theorem dX11_shift_17 : decode cX11_shift 17 = .ok (.ireturn, 1) := by decide +kernel
theorem dX11_shift_18 : decode cX11_shift 18 = .ok (.iload_n 2, 1) := by decide +kernel
theorem dX11_shift_19 : decode cX11_shift 19 = .ok (.bipush (-3), 2) := by decide +kernel
theorem dX11_shift_21 : decode cX11_shift 21 = .ok (.iconst 3, 1) := by decide +kernel
theorem dX11_shift_22 : decode cX11_shift 22 = .ok (.invokestatic 38, 3) := by decide +kernel
theorem dX11_shift_25 : decode cX11_shift 25 = .ok (.ifCond .ne 9, 3) := by decide +kernel
theorem dX11_shift_28 : decode cX11_shift 28 = .ok (.aload_n 0, 1) := by decide +kernel
theorem dX11_shift_29 : decode cX11_shift 29 = .ok (.iconst 2, 1) := by decide +kernel
theorem dX11_shift_30 : decode cX11_shift 30 = .ok (.invokevirtual 127, 3) := by decide +kernel
theorem dX11_shift_33 : decode cX11_shift 33 = .ok (.ireturn, 1) := by decide +kernel
theorem dX11_shift_34 : decode cX11_shift 34 = .ok (.aload_n 0, 1) := by decide +kernel
theorem dX11_shift_35 : decode cX11_shift 35 = .ok (.iload_n 1, 1) := by decide +kernel
theorem dX11_shift_36 : decode cX11_shift 36 = .ok (.iload_n 2, 1) := by decide +kernel
theorem dX11_shift_37 : decode cX11_shift 37 = .ok (.invokevirtual 141, 3) := by decide +kernel
theorem dX11_shift_40 : decode cX11_shift 40 = .ok (.ifCond .le 9, 3) := by decide +kernel
theorem dX11_shift_43 : decode cX11_shift 43 = .ok (.aload_n 0, 1) := by decide +kernel
theorem dX11_shift_44 : decode cX11_shift 44 = .ok (.iconst 3, 1) := by decide +kernel
theorem dX11_shift_45 : decode cX11_shift 45 = .ok (.invokevirtual 127, 3) := by decide +kernel
theorem dX11_shift_48 : decode cX11_shift 48 = .ok (.ireturn, 1) := by decide +kernel
theorem dX11_shift_49 : decode cX11_shift 49 = .ok (.aload_n 0, 1) := by decide +kernel
theorem dX11_shift_50 : decode cX11_shift 50 = .ok (.invokevirtual 130, 3) := by decide +kernel
theorem dX11_shift_53 : decode cX11_shift 53 = .ok (.aload_n 0, 1) := by decide +kernel
theorem dX11_shift_54 : decode cX11_shift 54 = .ok (.iload_n 1, 1) := by decide +kernel
theorem dX11_shift_55 : decode cX11_shift 55 = .ok (.invokevirtual 134, 3) := by decide +kernel
theorem dX11_shift_58 : decode cX11_shift 58 = .ok (.aload_n 0, 1) := by decide +kernel
theorem dX11_shift_59 : decode cX11_shift 59 = .ok (.iload_n 1, 1) := by decide +kernel
theorem dX11_shift_60 : decode cX11_shift 60 = .ok (.invokevirtual 50, 3) := by decide +kernel
theorem dX11_shift_63 : decode cX11_shift 63 = .ok (.ireturn, 1) := by decide +kernel
theorem dX11_pay_0 : decode cX11_pay 0 = .ok (.aload_n 0, 1) := by decide +kernel
theorem dX11_pay_1 : decode cX11_pay 1 = .ok (.iconst 0, 1) := by decide +kernel
theorem dX11_pay_2 : decode cX11_pay 2 = .ok (.putfield 34, 3) := by decide +kernel
theorem dX11_pay_5 : decode cX11_pay 5 = .ok (.iload_n 1, 1) := by decide +kernel
theorem dX11_pay_6 : decode cX11_pay 6 = .ok (.iload_n 2, 1) := by decide +kernel
theorem dX11_pay_7 : decode cX11_pay 7 = .ok (.invokestatic 137, 3) := by decide +kernel
theorem dX11_pay_10 : decode cX11_pay 10 = .ok (.ifCond .ne 9, 3) := by decide +kernel
theorem dX11_pay_13 : decode cX11_pay 13 = .ok (.aload_n 0, 1) := by decide +kernel
theorem dX11_pay_14 : decode cX11_pay 14 = .ok (.iconst 1, 1) := by decide +kernel
theorem dX11_pay_15 : decode cX11_pay 15 = .ok (.invokevirtual 127, 3) := by decide +kernel
theorem dX11_pay_18 : decode cX11_pay 18 = .ok (.ireturn, 1) := by decide +kernel
theorem dX11_pay_19 : decode cX11_pay 19 = .ok (.iload_n 1, 1) := by decide +kernel
theorem dX11_pay_20 : decode cX11_pay 20 = .ok (.iload_n 2, 1) := by decide +kernel
theorem dX11_pay_21 : decode cX11_pay 21 = .ok (.if_icmp .eq 13, 3) := by decide +kernel
theorem dX11_pay_24 : decode cX11_pay 24 = .ok (.iload_n 3, 1) := by decide +kernel
theorem dX11_pay_25 : decode cX11_pay 25 = .ok (.iconst 1, 1) := by decide +kernel
theorem dX11_pay_26 : decode cX11_pay 26 = .ok (.ldc 144, 2) := by decide +kernel
theorem dX11_pay_28 : decode cX11_pay 28 = .ok (.invokestatic 38, 3) := by decide +kernel
theorem dX11_pay_31 : decode cX11_pay 31 = .ok (.ifCond .ne 9, 3) := by decide +kernel
theorem dX11_pay_34 : decode cX11_pay 34 = .ok (.aload_n 0, 1) := by decide +kernel
theorem dX11_pay_35 : decode cX11_pay 35 = .ok (.iconst 2, 1) := by decide +kernel
theorem dX11_pay_36 : decode cX11_pay 36 = .ok (.invokevirtual 127, 3) := by decide +kernel
theorem dX11_pay_39 : decode cX11_pay 39 = .ok (.ireturn, 1) := by decide +kernel
theorem dX11_pay_40 : decode cX11_pay 40 = .ok (.aload_n 0, 1) := by decide +kernel
theorem dX11_pay_41 : decode cX11_pay 41 = .ok (.iload_n 1, 1) := by decide +kernel
theorem dX11_pay_42 : decode cX11_pay 42 = .ok (.invokevirtual 82, 3) := by decide +kernel
theorem dX11_pay_45 : decode cX11_pay 45 = .ok (.iload_n 3, 1) := by decide +kernel
theorem dX11_pay_46 : decode cX11_pay 46 = .ok (.if_icmp .lt 12, 3) := by decide +kernel
theorem dX11_pay_49 : decode cX11_pay 49 = .ok (.aload_n 0, 1) := by decide +kernel
theorem dX11_pay_50 : decode cX11_pay 50 = .ok (.iload_n 2, 1) := by decide +kernel
theorem dX11_pay_51 : decode cX11_pay 51 = .ok (.iload_n 3, 1) := by decide +kernel
theorem dX11_pay_52 : decode cX11_pay 52 = .ok (.invokevirtual 145, 3) := by decide +kernel
theorem dX11_pay_55 : decode cX11_pay 55 = .ok (.ifCond .le 9, 3) := by decide +kernel
theorem dX11_pay_58 : decode cX11_pay 58 = .ok (.aload_n 0, 1) := by decide +kernel
theorem dX11_pay_59 : decode cX11_pay 59 = .ok (.iconst 3, 1) := by decide +kernel
theorem dX11_pay_60 : decode cX11_pay 60 = .ok (.invokevirtual 127, 3) := by decide +kernel
theorem dX11_pay_63 : decode cX11_pay 63 = .ok (.ireturn, 1) := by decide +kernel
theorem dX11_pay_64 : decode cX11_pay 64 = .ok (.aload_n 0, 1) := by decide +kernel
theorem dX11_pay_65 : decode cX11_pay 65 = .ok (.invokevirtual 130, 3) := by decide +kernel
theorem dX11_pay_68 : decode cX11_pay 68 = .ok (.aload_n 0, 1) := by decide +kernel
theorem dX11_pay_69 : decode cX11_pay 69 = .ok (.iload_n 2, 1) := by decide +kernel
theorem dX11_pay_70 : decode cX11_pay 70 = .ok (.invokevirtual 134, 3) := by decide +kernel
theorem dX11_pay_73 : decode cX11_pay 73 = .ok (.aload_n 0, 1) := by decide +kernel
theorem dX11_pay_74 : decode cX11_pay 74 = .ok (.iload_n 1, 1) := by decide +kernel
theorem dX11_pay_75 : decode cX11_pay 75 = .ok (.iload_n 3, 1) := by decide +kernel
theorem dX11_pay_76 : decode cX11_pay 76 = .ok (.ineg, 1) := by decide +kernel
theorem dX11_pay_77 : decode cX11_pay 77 = .ok (.invokevirtual 145, 3) := by decide +kernel
theorem dX11_pay_80 : decode cX11_pay 80 = .ok (.pop, 1) := by decide +kernel
theorem dX11_pay_81 : decode cX11_pay 81 = .ok (.aload_n 0, 1) := by decide +kernel
theorem dX11_pay_82 : decode cX11_pay 82 = .ok (.iload_n 1, 1) := by decide +kernel
theorem dX11_pay_83 : decode cX11_pay 83 = .ok (.invokevirtual 134, 3) := by decide +kernel
theorem dX11_pay_86 : decode cX11_pay 86 = .ok (.aload_n 0, 1) := by decide +kernel
theorem dX11_pay_87 : decode cX11_pay 87 = .ok (.iload_n 1, 1) := by decide +kernel
theorem dX11_pay_88 : decode cX11_pay 88 = .ok (.invokevirtual 46, 3) := by decide +kernel
theorem dX11_pay_91 : decode cX11_pay 91 = .ok (.ireturn, 1) := by decide +kernel
theorem dX11_append_0 : decode cX11_append 0 = .ok (.aload_n 0, 1) := by decide +kernel
theorem dX11_append_1 : decode cX11_append 1 = .ok (.iconst 0, 1) := by decide +kernel
theorem dX11_append_2 : decode cX11_append 2 = .ok (.putfield 34, 3) := by decide +kernel
theorem dX11_append_5 : decode cX11_append 5 = .ok (.iload_n 1, 1) := by decide +kernel
theorem dX11_append_6 : decode cX11_append 6 = .ok (.bipush 33, 2) := by decide +kernel
theorem dX11_append_8 : decode cX11_append 8 = .ok (.bipush 126, 2) := by decide +kernel
theorem dX11_append_10 : decode cX11_append 10 = .ok (.invokestatic 38, 3) := by decide +kernel
theorem dX11_append_13 : decode cX11_append 13 = .ok (.ifCond .ne 9, 3) := by decide +kernel
theorem dX11_append_16 : decode cX11_append 16 = .ok (.aload_n 0, 1) := by decide +kernel
theorem dX11_append_17 : decode cX11_append 17 = .ok (.iconst 1, 1) := by decide +kernel
theorem dX11_append_18 : decode cX11_append 18 = .ok (.invokevirtual 127, 3) := by decide +kernel
theorem dX11_append_21 : decode cX11_append 21 = .ok (.ireturn, 1) := by decide +kernel
theorem dX11_append_22 : decode cX11_append 22 = .ok (.aload_n 0, 1) := by decide +kernel
theorem dX11_append_23 : decode cX11_append 23 = .ok (.getfield 148, 3) := by decide +kernel
theorem dX11_append_26 : decode cX11_append 26 = .ok (.bipush 60, 2) := by decide +kernel
theorem dX11_append_28 : decode cX11_append 28 = .ok (.if_icmp .ne 9, 3) := by decide +kernel
theorem dX11_append_31 : decode cX11_append 31 = .ok (.aload_n 0, 1) := by decide +kernel
theorem dX11_append_32 : decode cX11_append 32 = .ok (.iconst 2, 1) := by decide +kernel
theorem dX11_append_33 : decode cX11_append 33 = .ok (.invokevirtual 127, 3) := by decide +kernel
theorem dX11_append_36 : decode cX11_append 36 = .ok (.ireturn, 1) := by decide +kernel
theorem dX11_append_37 : decode cX11_append 37 = .ok (.aload_n 0, 1) := by decide +kernel
theorem dX11_append_38 : decode cX11_append 38 = .ok (.getfield 19, 3) := by decide +kernel
theorem dX11_append_41 : decode cX11_append 41 = .ok (.aload_n 0, 1) := by decide +kernel
theorem dX11_append_42 : decode cX11_append 42 = .ok (.getfield 148, 3) := by decide +kernel
theorem dX11_append_45 : decode cX11_append 45 = .ok (.iload_n 1, 1) := by decide +kernel
theorem dX11_append_46 : decode cX11_append 46 = .ok (.iastore, 1) := by decide +kernel
theorem dX11_append_47 : decode cX11_append 47 = .ok (.aload_n 0, 1) := by decide +kernel
theorem dX11_append_48 : decode cX11_append 48 = .ok (.dup, 1) := by decide +kernel
theorem dX11_append_49 : decode cX11_append 49 = .ok (.getfield 148, 3) := by decide +kernel
theorem dX11_append_52 : decode cX11_append 52 = .ok (.iconst 1, 1) := by decide +kernel
theorem dX11_append_53 : decode cX11_append 53 = .ok (.iadd, 1) := by decide +kernel
theorem dX11_append_54 : decode cX11_append 54 = .ok (.putfield 148, 3) := by decide +kernel
theorem dX11_append_57 : decode cX11_append 57 = .ok (.aload_n 0, 1) := by decide +kernel
theorem dX11_append_58 : decode cX11_append 58 = .ok (.getfield 148, 3) := by decide +kernel
theorem dX11_append_61 : decode cX11_append 61 = .ok (.ireturn, 1) := by decide +kernel
theorem dX11_clearBuffer_0 : decode cX11_clearBuffer 0 = .ok (.aload_n 0, 1) := by decide +kernel
theorem dX11_clearBuffer_1 : decode cX11_clearBuffer 1 = .ok (.iconst 0, 1) := by decide +kernel
theorem dX11_clearBuffer_2 : decode cX11_clearBuffer 2 = .ok (.putfield 34, 3) := by decide +kernel
theorem dX11_clearBuffer_5 : decode cX11_clearBuffer 5 = .ok (.aload_n 0, 1) := by decide +kernel
theorem dX11_clearBuffer_6 : decode cX11_clearBuffer 6 = .ok (.getfield 148, 3) := by decide +kernel
theorem dX11_clearBuffer_9 : decode cX11_clearBuffer 9 = .ok (.istore_n 1, 1) := by decide +kernel
theorem dX11_clearBuffer_10 : decode cX11_clearBuffer 10 = .ok (.aload_n 0, 1) := by decide +kernel
theorem dX11_clearBuffer_11 : decode cX11_clearBuffer 11 = .ok (.iconst 0, 1) := by decide +kernel
theorem dX11_clearBuffer_12 : decode cX11_clearBuffer 12 = .ok (.putfield 148, 3) := by decide +kernel
theorem dX11_clearBuffer_15 : decode cX11_clearBuffer 15 = .ok (.iload_n 1, 1) := by decide +kernel
theorem dX11_clearBuffer_16 : decode cX11_clearBuffer 16 = .ok (.ireturn, 1) := by decide +kernel
theorem dX11_signAt_0 : decode cX11_signAt 0 = .ok (.aload_n 0, 1) := by decide +kernel
theorem dX11_signAt_1 : decode cX11_signAt 1 = .ok (.getfield 151, 3) := by decide +kernel
theorem dX11_signAt_4 : decode cX11_signAt 4 = .ok (.aload_n 0, 1) := by decide +kernel
theorem dX11_signAt_5 : decode cX11_signAt 5 = .ok (.getfield 148, 3) := by decide +kernel
theorem dX11_signAt_8 : decode cX11_signAt 8 = .ok (.if_icmp .ge 15, 3) := by decide +kernel
theorem dX11_signAt_11 : decode cX11_signAt 11 = .ok (.aload_n 0, 1) := by decide +kernel
theorem dX11_signAt_12 : decode cX11_signAt 12 = .ok (.getfield 19, 3) := by decide +kernel
theorem dX11_signAt_15 : decode cX11_signAt 15 = .ok (.aload_n 0, 1) := by decide +kernel
theorem dX11_signAt_16 : decode cX11_signAt 16 = .ok (.getfield 151, 3) := by decide +kernel
theorem dX11_signAt_19 : decode cX11_signAt 19 = .ok (.iaload, 1) := by decide +kernel
theorem dX11_signAt_20 : decode cX11_signAt 20 = .ok (.goto 4, 3) := by decide +kernel
theorem dX11_signAt_23 : decode cX11_signAt 23 = .ok (.iconst 0, 1) := by decide +kernel
theorem dX11_signAt_24 : decode cX11_signAt 24 = .ok (.ireturn, 1) := by decide +kernel
theorem dX11_takes_0 : decode cX11_takes 0 = .ok (.aload_n 0, 1) := by decide +kernel
theorem dX11_takes_1 : decode cX11_takes 1 = .ok (.aload_n 0, 1) := by decide +kernel
theorem dX11_takes_2 : decode cX11_takes 2 = .ok (.getfield 154, 3) := by decide +kernel
theorem dX11_takes_5 : decode cX11_takes 5 = .ok (.ifCond .eq 19, 3) := by decide +kernel
theorem dX11_takes_8 : decode cX11_takes 8 = .ok (.aload_n 0, 1) := by decide +kernel
theorem dX11_takes_9 : decode cX11_takes 9 = .ok (.invokevirtual 158, 3) := by decide +kernel
theorem dX11_takes_12 : decode cX11_takes 12 = .ok (.iload_n 1, 1) := by decide +kernel
theorem dX11_takes_13 : decode cX11_takes 13 = .ok (.iload_n 2, 1) := by decide +kernel
theorem dX11_takes_14 : decode cX11_takes 14 = .ok (.invokestatic 38, 3) := by decide +kernel
theorem dX11_takes_17 : decode cX11_takes 17 = .ok (.ifCond .eq 7, 3) := by decide +kernel
theorem dX11_takes_20 : decode cX11_takes 20 = .ok (.iconst 1, 1) := by decide +kernel
theorem dX11_takes_21 : decode cX11_takes 21 = .ok (.goto 4, 3) := by decide +kernel
theorem dX11_takes_24 : decode cX11_takes 24 = .ok (.iconst 0, 1) := by decide +kernel
theorem dX11_takes_25 : decode cX11_takes 25 = .ok (.putfield 154, 3) := by decide +kernel
theorem dX11_takes_28 : decode cX11_takes 28 = .ok (.aload_n 0, 1) := by decide +kernel
theorem dX11_takes_29 : decode cX11_takes 29 = .ok (.invokevirtual 158, 3) := by decide +kernel
theorem dX11_takes_32 : decode cX11_takes 32 = .ok (.bipush 48, 2) := by decide +kernel
theorem dX11_takes_34 : decode cX11_takes 34 = .ok (.isub, 1) := by decide +kernel
theorem dX11_takes_35 : decode cX11_takes 35 = .ok (.istore_n 3, 1) := by decide +kernel
theorem dX11_takes_36 : decode cX11_takes 36 = .ok (.aload_n 0, 1) := by decide +kernel
theorem dX11_takes_37 : decode cX11_takes 37 = .ok (.dup, 1) := by decide +kernel
theorem dX11_takes_38 : decode cX11_takes 38 = .ok (.getfield 151, 3) := by decide +kernel
theorem dX11_takes_41 : decode cX11_takes 41 = .ok (.aload_n 0, 1) := by decide +kernel
theorem dX11_takes_42 : decode cX11_takes 42 = .ok (.getfield 154, 3) := by decide +kernel
theorem dX11_takes_45 : decode cX11_takes 45 = .ok (.ifCond .eq 7, 3) := by decide +kernel
theorem dX11_takes_48 : decode cX11_takes 48 = .ok (.iconst 1, 1) := by decide +kernel
theorem dX11_takes_49 : decode cX11_takes 49 = .ok (.goto 4, 3) := by decide +kernel
theorem dX11_takes_52 : decode cX11_takes 52 = .ok (.iconst 0, 1) := by decide +kernel
theorem dX11_takes_53 : decode cX11_takes 53 = .ok (.iadd, 1) := by decide +kernel
theorem dX11_takes_54 : decode cX11_takes 54 = .ok (.putfield 151, 3) := by decide +kernel
theorem dX11_takes_57 : decode cX11_takes 57 = .ok (.iload_n 3, 1) := by decide +kernel
theorem dX11_takes_58 : decode cX11_takes 58 = .ok (.ireturn, 1) := by decide +kernel
theorem dX11_value16_0 : decode cX11_value16 0 = .ok (.aload_n 0, 1) := by decide +kernel
theorem dX11_value16_1 : decode cX11_value16 1 = .ok (.invokevirtual 158, 3) := by decide +kernel
theorem dX11_value16_4 : decode cX11_value16 4 = .ok (.istore_n 1, 1) := by decide +kernel
theorem dX11_value16_5 : decode cX11_value16 5 = .ok (.iload_n 1, 1) := by decide +kernel
theorem dX11_value16_6 : decode cX11_value16 6 = .ok (.bipush 48, 2) := by decide +kernel
theorem dX11_value16_8 : decode cX11_value16 8 = .ok (.bipush 57, 2) := by decide +kernel
theorem dX11_value16_10 : decode cX11_value16 10 = .ok (.invokestatic 38, 3) := by decide +kernel
theorem dX11_value16_13 : decode cX11_value16 13 = .ok (.ifCond .eq 10, 3) := by decide +kernel
theorem dX11_value16_16 : decode cX11_value16 16 = .ok (.iload_n 1, 1) := by decide +kernel
theorem dX11_value16_17 : decode cX11_value16 17 = .ok (.bipush 48, 2) := by decide +kernel
theorem dX11_value16_19 : decode cX11_value16 19 = .ok (.isub, 1) := by decide +kernel
theorem dX11_value16_20 : decode cX11_value16 20 = .ok (.goto 25, 3) := by decide +kernel
theorem dX11_value16_23 : decode cX11_value16 23 = .ok (.iload_n 1, 1) := by decide +kernel
theorem dX11_value16_24 : decode cX11_value16 24 = .ok (.bipush 97, 2) := by decide +kernel
theorem dX11_value16_26 : decode cX11_value16 26 = .ok (.bipush 102, 2) := by decide +kernel
theorem dX11_value16_28 : decode cX11_value16 28 = .ok (.invokestatic 38, 3) := by decide +kernel
theorem dX11_value16_31 : decode cX11_value16 31 = .ok (.ifCond .eq 13, 3) := by decide +kernel
theorem dX11_value16_34 : decode cX11_value16 34 = .ok (.iload_n 1, 1) := by decide +kernel
theorem dX11_value16_35 : decode cX11_value16 35 = .ok (.bipush 97, 2) := by decide +kernel
theorem dX11_value16_37 : decode cX11_value16 37 = .ok (.isub, 1) := by decide +kernel
theorem dX11_value16_38 : decode cX11_value16 38 = .ok (.bipush 10, 2) := by decide +kernel
theorem dX11_value16_40 : decode cX11_value16 40 = .ok (.iadd, 1) := by decide +kernel
theorem dX11_value16_41 : decode cX11_value16 41 = .ok (.goto 4, 3) := by decide +kernel
theorem dX11_value16_44 : decode cX11_value16 44 = .ok (.iconst (-1), 1) := by decide +kernel
theorem dX11_value16_45 : decode cX11_value16 45 = .ok (.ireturn, 1) := by decide +kernel
theorem dX11_takesDigits_0 : decode cX11_takesDigits 0 = .ok (.iconst 0, 1) := by decide +kernel
theorem dX11_takesDigits_1 : decode cX11_takesDigits 1 = .ok (.istore_n 3, 1) := by decide +kernel
theorem dX11_takesDigits_2 : decode cX11_takesDigits 2 = .ok (.aload_n 0, 1) := by decide +kernel
theorem dX11_takesDigits_3 : decode cX11_takesDigits 3 = .ok (.getfield 154, 3) := by decide +kernel
theorem dX11_takesDigits_6 : decode cX11_takesDigits 6 = .ok (.ifCond .eq 44, 3) := by decide +kernel
theorem dX11_takesDigits_9 : decode cX11_takesDigits 9 = .ok (.iload_n 3, 1) := by decide +kernel
theorem dX11_takesDigits_10 : decode cX11_takesDigits 10 = .ok (.iload_n 2, 1) := by decide +kernel
theorem dX11_takesDigits_11 : decode cX11_takesDigits 11 = .ok (.if_icmp .ge 39, 3) := by decide +kernel
theorem dX11_takesDigits_14 : decode cX11_takesDigits 14 = .ok (.aload_n 0, 1) := by decide +kernel
theorem dX11_takesDigits_15 : decode cX11_takesDigits 15 = .ok (.invokevirtual 162, 3) := by decide +kernel
theorem dX11_takesDigits_18 : decode cX11_takesDigits 18 = .ok (.iconst (-1), 1) := by decide +kernel
theorem dX11_takesDigits_19 : decode cX11_takesDigits 19 = .ok (.if_icmp .eq 31, 3) := by decide +kernel
theorem dX11_takesDigits_22 : decode cX11_takesDigits 22 = .ok (.aload_n 0, 1) := by decide +kernel
theorem dX11_takesDigits_23 : decode cX11_takesDigits 23 = .ok (.getfield 22, 3) := by decide +kernel
theorem dX11_takesDigits_26 : decode cX11_takesDigits 26 = .ok (.iload_n 1, 1) := by decide +kernel
theorem dX11_takesDigits_27 : decode cX11_takesDigits 27 = .ok (.iload_n 3, 1) := by decide +kernel
theorem dX11_takesDigits_28 : decode cX11_takesDigits 28 = .ok (.iadd, 1) := by decide +kernel
theorem dX11_takesDigits_29 : decode cX11_takesDigits 29 = .ok (.aload_n 0, 1) := by decide +kernel
theorem dX11_takesDigits_30 : decode cX11_takesDigits 30 = .ok (.invokevirtual 162, 3) := by decide +kernel
theorem dX11_takesDigits_33 : decode cX11_takesDigits 33 = .ok (.iastore, 1) := by decide +kernel
theorem dX11_takesDigits_34 : decode cX11_takesDigits 34 = .ok (.iinc 3 1, 3) := by decide +kernel
theorem dX11_takesDigits_37 : decode cX11_takesDigits 37 = .ok (.aload_n 0, 1) := by decide +kernel
theorem dX11_takesDigits_38 : decode cX11_takesDigits 38 = .ok (.dup, 1) := by decide +kernel
theorem dX11_takesDigits_39 : decode cX11_takesDigits 39 = .ok (.getfield 151, 3) := by decide +kernel
theorem dX11_takesDigits_42 : decode cX11_takesDigits 42 = .ok (.iconst 1, 1) := by decide +kernel
theorem dX11_takesDigits_43 : decode cX11_takesDigits 43 = .ok (.iadd, 1) := by decide +kernel
theorem dX11_takesDigits_44 : decode cX11_takesDigits 44 = .ok (.putfield 151, 3) := by decide +kernel
theorem dX11_takesDigits_47 : decode cX11_takesDigits 47 = .ok (.goto (-45), 3) := by decide +kernel
theorem dX11_takesDigits_50 : decode cX11_takesDigits 50 = .ok (.aload_n 0, 1) := by decide +kernel
theorem dX11_takesDigits_51 : decode cX11_takesDigits 51 = .ok (.aload_n 0, 1) := by decide +kernel
theorem dX11_takesDigits_52 : decode cX11_takesDigits 52 = .ok (.getfield 154, 3) := by decide +kernel
theorem dX11_takesDigits_55 : decode cX11_takesDigits 55 = .ok (.ifCond .eq 11, 3) := by decide +kernel
theorem dX11_takesDigits_58 : decode cX11_takesDigits 58 = .ok (.iload_n 3, 1) := by decide +kernel
theorem dX11_takesDigits_59 : decode cX11_takesDigits 59 = .ok (.ifCond .le 7, 3) := by decide +kernel
theorem dX11_takesDigits_62 : decode cX11_takesDigits 62 = .ok (.iconst 1, 1) := by decide +kernel
theorem dX11_takesDigits_63 : decode cX11_takesDigits 63 = .ok (.goto 4, 3) := by decide +kernel
theorem dX11_takesDigits_66 : decode cX11_takesDigits 66 = .ok (.iconst 0, 1) := by decide +kernel
theorem dX11_takesDigits_67 : decode cX11_takesDigits 67 = .ok (.putfield 154, 3) := by decide +kernel
theorem dX11_takesDigits_70 : decode cX11_takesDigits 70 = .ok (.iload_n 3, 1) := by decide +kernel
theorem dX11_takesDigits_71 : decode cX11_takesDigits 71 = .ok (.ireturn, 1) := by decide +kernel
theorem dX11_readsNumber_0 : decode cX11_readsNumber 0 = .ok (.aload_n 0, 1) := by decide +kernel
theorem dX11_readsNumber_1 : decode cX11_readsNumber 1 = .ok (.invokevirtual 158, 3) := by decide +kernel
theorem dX11_readsNumber_4 : decode cX11_readsNumber 4 = .ok (.bipush 48, 2) := by decide +kernel
theorem dX11_readsNumber_6 : decode cX11_readsNumber 6 = .ok (.if_icmp .ne 7, 3) := by decide +kernel
theorem dX11_readsNumber_9 : decode cX11_readsNumber 9 = .ok (.iconst 1, 1) := by decide +kernel
theorem dX11_readsNumber_10 : decode cX11_readsNumber 10 = .ok (.goto 4, 3) := by decide +kernel
theorem dX11_readsNumber_13 : decode cX11_readsNumber 13 = .ok (.iconst 0, 1) := by decide +kernel
theorem dX11_readsNumber_14 : decode cX11_readsNumber 14 = .ok (.istore_n 2, 1) := by decide +kernel
theorem dX11_readsNumber_15 : decode cX11_readsNumber 15 = .ok (.aload_n 0, 1) := by decide +kernel
theorem dX11_readsNumber_16 : decode cX11_readsNumber 16 = .ok (.getfield 22, 3) := by decide +kernel
theorem dX11_readsNumber_19 : decode cX11_readsNumber 19 = .ok (.iload_n 1, 1) := by decide +kernel
theorem dX11_readsNumber_20 : decode cX11_readsNumber 20 = .ok (.iconst 3, 1) := by decide +kernel
theorem dX11_readsNumber_21 : decode cX11_readsNumber 21 = .ok (.iadd, 1) := by decide +kernel
theorem dX11_readsNumber_22 : decode cX11_readsNumber 22 = .ok (.aload_n 0, 1) := by decide +kernel
theorem dX11_readsNumber_23 : decode cX11_readsNumber 23 = .ok (.iload_n 1, 1) := by decide +kernel
theorem dX11_readsNumber_24 : decode cX11_readsNumber 24 = .ok (.bipush 6, 2) := by decide +kernel
theorem dX11_readsNumber_26 : decode cX11_readsNumber 26 = .ok (.iadd, 1) := by decide +kernel
theorem dX11_readsNumber_27 : decode cX11_readsNumber 27 = .ok (.iload_n 2, 1) := by decide +kernel
theorem dX11_readsNumber_28 : decode cX11_readsNumber 28 = .ok (.ifCond .eq 7, 3) := by decide +kernel
theorem dX11_readsNumber_31 : decode cX11_readsNumber 31 = .ok (.iconst 1, 1) := by decide +kernel
theorem dX11_readsNumber_32 : decode cX11_readsNumber 32 = .ok (.goto 5, 3) := by decide +kernel
theorem dX11_readsNumber_35 : decode cX11_readsNumber 35 = .ok (.bipush 8, 2) := by decide +kernel
theorem dX11_readsNumber_37 : decode cX11_readsNumber 37 = .ok (.invokevirtual 165, 3) := by decide +kernel
theorem dX11_readsNumber_40 : decode cX11_readsNumber 40 = .ok (.iastore, 1) := by decide +kernel
theorem dX11_readsNumber_41 : decode cX11_readsNumber 41 = .ok (.aload_n 0, 1) := by decide +kernel
theorem dX11_readsNumber_42 : decode cX11_readsNumber 42 = .ok (.getfield 154, 3) := by decide +kernel
theorem dX11_readsNumber_45 : decode cX11_readsNumber 45 = .ok (.ifCond .eq 100, 3) := by decide +kernel
theorem dX11_readsNumber_48 : decode cX11_readsNumber 48 = .ok (.aload_n 0, 1) := by decide +kernel
theorem dX11_readsNumber_49 : decode cX11_readsNumber 49 = .ok (.invokevirtual 158, 3) := by decide +kernel
theorem dX11_readsNumber_52 : decode cX11_readsNumber 52 = .ok (.bipush 46, 2) := by decide +kernel
theorem dX11_readsNumber_54 : decode cX11_readsNumber 54 = .ok (.if_icmp .ne 91, 3) := by decide +kernel
theorem dX11_readsNumber_57 : decode cX11_readsNumber 57 = .ok (.aload_n 0, 1) := by decide +kernel
theorem dX11_readsNumber_58 : decode cX11_readsNumber 58 = .ok (.dup, 1) := by decide +kernel
theorem dX11_readsNumber_59 : decode cX11_readsNumber 59 = .ok (.getfield 151, 3) := by decide +kernel
theorem dX11_readsNumber_62 : decode cX11_readsNumber 62 = .ok (.iconst 1, 1) := by decide +kernel
theorem dX11_readsNumber_63 : decode cX11_readsNumber 63 = .ok (.iadd, 1) := by decide +kernel
theorem dX11_readsNumber_64 : decode cX11_readsNumber 64 = .ok (.putfield 151, 3) := by decide +kernel
theorem dX11_readsNumber_67 : decode cX11_readsNumber 67 = .ok (.aload_n 0, 1) := by decide +kernel
theorem dX11_readsNumber_68 : decode cX11_readsNumber 68 = .ok (.invokevirtual 158, 3) := by decide +kernel
theorem dX11_readsNumber_71 : decode cX11_readsNumber 71 = .ok (.bipush 40, 2) := by decide +kernel
theorem dX11_readsNumber_73 : decode cX11_readsNumber 73 = .ok (.if_icmp .eq 20, 3) := by decide +kernel
theorem dX11_readsNumber_76 : decode cX11_readsNumber 76 = .ok (.aload_n 0, 1) := by decide +kernel
theorem dX11_readsNumber_77 : decode cX11_readsNumber 77 = .ok (.getfield 22, 3) := by decide +kernel
theorem dX11_readsNumber_80 : decode cX11_readsNumber 80 = .ok (.iload_n 1, 1) := by decide +kernel
theorem dX11_readsNumber_81 : decode cX11_readsNumber 81 = .ok (.iconst 4, 1) := by decide +kernel
theorem dX11_readsNumber_82 : decode cX11_readsNumber 82 = .ok (.iadd, 1) := by decide +kernel
theorem dX11_readsNumber_83 : decode cX11_readsNumber 83 = .ok (.aload_n 0, 1) := by decide +kernel
theorem dX11_readsNumber_84 : decode cX11_readsNumber 84 = .ok (.iload_n 1, 1) := by decide +kernel
theorem dX11_readsNumber_85 : decode cX11_readsNumber 85 = .ok (.bipush 14, 2) := by decide +kernel
theorem dX11_readsNumber_87 : decode cX11_readsNumber 87 = .ok (.iadd, 1) := by decide +kernel
theorem dX11_readsNumber_88 : decode cX11_readsNumber 88 = .ok (.iconst 4, 1) := by decide +kernel
theorem dX11_readsNumber_89 : decode cX11_readsNumber 89 = .ok (.invokevirtual 165, 3) := by decide +kernel
theorem dX11_readsNumber_92 : decode cX11_readsNumber 92 = .ok (.iastore, 1) := by decide +kernel
theorem dX11_readsNumber_93 : decode cX11_readsNumber 93 = .ok (.aload_n 0, 1) := by decide +kernel
theorem dX11_readsNumber_94 : decode cX11_readsNumber 94 = .ok (.getfield 154, 3) := by decide +kernel
theorem dX11_readsNumber_97 : decode cX11_readsNumber 97 = .ok (.ifCond .eq 48, 3) := by decide +kernel
theorem dX11_readsNumber_100 : decode cX11_readsNumber 100 = .ok (.aload_n 0, 1) := by decide +kernel
theorem dX11_readsNumber_101 : decode cX11_readsNumber 101 = .ok (.invokevirtual 158, 3) := by decide +kernel
theorem dX11_readsNumber_104 : decode cX11_readsNumber 104 = .ok (.bipush 40, 2) := by decide +kernel
theorem dX11_readsNumber_106 : decode cX11_readsNumber 106 = .ok (.if_icmp .ne 39, 3) := by decide +kernel
theorem dX11_readsNumber_109 : decode cX11_readsNumber 109 = .ok (.aload_n 0, 1) := by decide +kernel
theorem dX11_readsNumber_110 : decode cX11_readsNumber 110 = .ok (.dup, 1) := by decide +kernel
theorem dX11_readsNumber_111 : decode cX11_readsNumber 111 = .ok (.getfield 151, 3) := by decide +kernel
theorem dX11_readsNumber_114 : decode cX11_readsNumber 114 = .ok (.iconst 1, 1) := by decide +kernel
theorem dX11_readsNumber_115 : decode cX11_readsNumber 115 = .ok (.iadd, 1) := by decide +kernel
theorem dX11_readsNumber_116 : decode cX11_readsNumber 116 = .ok (.putfield 151, 3) := by decide +kernel
theorem dX11_readsNumber_119 : decode cX11_readsNumber 119 = .ok (.aload_n 0, 1) := by decide +kernel
theorem dX11_readsNumber_120 : decode cX11_readsNumber 120 = .ok (.getfield 22, 3) := by decide +kernel
theorem dX11_readsNumber_123 : decode cX11_readsNumber 123 = .ok (.iload_n 1, 1) := by decide +kernel
theorem dX11_readsNumber_124 : decode cX11_readsNumber 124 = .ok (.iconst 5, 1) := by decide +kernel
theorem dX11_readsNumber_125 : decode cX11_readsNumber 125 = .ok (.iadd, 1) := by decide +kernel
theorem dX11_readsNumber_126 : decode cX11_readsNumber 126 = .ok (.aload_n 0, 1) := by decide +kernel
theorem dX11_readsNumber_127 : decode cX11_readsNumber 127 = .ok (.iload_n 1, 1) := by decide +kernel
theorem dX11_readsNumber_128 : decode cX11_readsNumber 128 = .ok (.bipush 18, 2) := by decide +kernel
theorem dX11_readsNumber_130 : decode cX11_readsNumber 130 = .ok (.iadd, 1) := by decide +kernel
theorem dX11_readsNumber_131 : decode cX11_readsNumber 131 = .ok (.iconst 4, 1) := by decide +kernel
theorem dX11_readsNumber_132 : decode cX11_readsNumber 132 = .ok (.invokevirtual 165, 3) := by decide +kernel
theorem dX11_readsNumber_135 : decode cX11_readsNumber 135 = .ok (.iastore, 1) := by decide +kernel
theorem dX11_readsNumber_136 : decode cX11_readsNumber 136 = .ok (.aload_n 0, 1) := by decide +kernel
theorem dX11_readsNumber_137 : decode cX11_readsNumber 137 = .ok (.bipush 41, 2) := by decide +kernel
theorem dX11_readsNumber_139 : decode cX11_readsNumber 139 = .ok (.bipush 41, 2) := by decide +kernel
theorem dX11_readsNumber_141 : decode cX11_readsNumber 141 = .ok (.invokevirtual 168, 3) := by decide +kernel
theorem dX11_readsNumber_144 : decode cX11_readsNumber 144 = .ok (.pop, 1) := by decide +kernel
theorem dX11_readsNumber_145 : decode cX11_readsNumber 145 = .ok (.return_, 1) := by decide +kernel
theorem dX11_readsBase_0 : decode cX11_readsBase 0 = .ok (.aload_n 0, 1) := by decide +kernel
theorem dX11_readsBase_1 : decode cX11_readsBase 1 = .ok (.bipush 49, 2) := by decide +kernel
theorem dX11_readsBase_3 : decode cX11_readsBase 3 = .ok (.bipush 57, 2) := by decide +kernel
theorem dX11_readsBase_5 : decode cX11_readsBase 5 = .ok (.invokevirtual 168, 3) := by decide +kernel
theorem dX11_readsBase_8 : decode cX11_readsBase 8 = .ok (.istore_n 2, 1) := by decide +kernel
theorem dX11_readsBase_9 : decode cX11_readsBase 9 = .ok (.aload_n 0, 1) := by decide +kernel
theorem dX11_readsBase_10 : decode cX11_readsBase 10 = .ok (.getfield 154, 3) := by decide +kernel
theorem dX11_readsBase_13 : decode cX11_readsBase 13 = .ok (.ifCond .eq 20, 3) := by decide +kernel
theorem dX11_readsBase_16 : decode cX11_readsBase 16 = .ok (.iload_n 2, 1) := by decide +kernel
theorem dX11_readsBase_17 : decode cX11_readsBase 17 = .ok (.iconst 1, 1) := by decide +kernel
theorem dX11_readsBase_18 : decode cX11_readsBase 18 = .ok (.if_icmp .ne 15, 3) := by decide +kernel
theorem dX11_readsBase_21 : decode cX11_readsBase 21 = .ok (.bipush 10, 2) := by decide +kernel
theorem dX11_readsBase_23 : decode cX11_readsBase 23 = .ok (.aload_n 0, 1) := by decide +kernel
theorem dX11_readsBase_24 : decode cX11_readsBase 24 = .ok (.bipush 48, 2) := by decide +kernel
theorem dX11_readsBase_26 : decode cX11_readsBase 26 = .ok (.bipush 54, 2) := by decide +kernel
theorem dX11_readsBase_28 : decode cX11_readsBase 28 = .ok (.invokevirtual 168, 3) := by decide +kernel
theorem dX11_readsBase_31 : decode cX11_readsBase 31 = .ok (.iadd, 1) := by decide +kernel
theorem dX11_readsBase_32 : decode cX11_readsBase 32 = .ok (.istore_n 2, 1) := by decide +kernel
theorem dX11_readsBase_33 : decode cX11_readsBase 33 = .ok (.aload_n 0, 1) := by decide +kernel
theorem dX11_readsBase_34 : decode cX11_readsBase 34 = .ok (.getfield 22, 3) := by decide +kernel
theorem dX11_readsBase_37 : decode cX11_readsBase 37 = .ok (.iload_n 1, 1) := by decide +kernel
theorem dX11_readsBase_38 : decode cX11_readsBase 38 = .ok (.iconst 2, 1) := by decide +kernel
theorem dX11_readsBase_39 : decode cX11_readsBase 39 = .ok (.iadd, 1) := by decide +kernel
theorem dX11_readsBase_40 : decode cX11_readsBase 40 = .ok (.iload_n 2, 1) := by decide +kernel
theorem dX11_readsBase_41 : decode cX11_readsBase 41 = .ok (.iastore, 1) := by decide +kernel
theorem dX11_readsBase_42 : decode cX11_readsBase 42 = .ok (.return_, 1) := by decide +kernel
theorem dX11_readsPart_0 : decode cX11_readsPart 0 = .ok (.bipush 24, 2) := by decide +kernel
theorem dX11_readsPart_2 : decode cX11_readsPart 2 = .ok (.aload_n 0, 1) := by decide +kernel
theorem dX11_readsPart_3 : decode cX11_readsPart 3 = .ok (.getfield 171, 3) := by decide +kernel
theorem dX11_readsPart_6 : decode cX11_readsPart 6 = .ok (.imul, 1) := by decide +kernel
theorem dX11_readsPart_7 : decode cX11_readsPart 7 = .ok (.istore_n 1, 1) := by decide +kernel
theorem dX11_readsPart_8 : decode cX11_readsPart 8 = .ok (.aload_n 0, 1) := by decide +kernel
theorem dX11_readsPart_9 : decode cX11_readsPart 9 = .ok (.iconst 1, 1) := by decide +kernel
theorem dX11_readsPart_10 : decode cX11_readsPart 10 = .ok (.putfield 154, 3) := by decide +kernel
theorem dX11_readsPart_13 : decode cX11_readsPart 13 = .ok (.iconst 0, 1) := by decide +kernel
theorem dX11_readsPart_14 : decode cX11_readsPart 14 = .ok (.istore_n 2, 1) := by decide +kernel
theorem dX11_readsPart_15 : decode cX11_readsPart 15 = .ok (.iload_n 2, 1) := by decide +kernel
theorem dX11_readsPart_16 : decode cX11_readsPart 16 = .ok (.bipush 24, 2) := by decide +kernel
theorem dX11_readsPart_18 : decode cX11_readsPart 18 = .ok (.if_icmp .ge 18, 3) := by decide +kernel
theorem dX11_readsPart_21 : decode cX11_readsPart 21 = .ok (.aload_n 0, 1) := by decide +kernel
theorem dX11_readsPart_22 : decode cX11_readsPart 22 = .ok (.getfield 22, 3) := by decide +kernel
theorem dX11_readsPart_25 : decode cX11_readsPart 25 = .ok (.iload_n 1, 1) := by decide +kernel
theorem dX11_readsPart_26 : decode cX11_readsPart 26 = .ok (.iload_n 2, 1) := by decide +kernel
theorem dX11_readsPart_27 : decode cX11_readsPart 27 = .ok (.iadd, 1) := by decide +kernel
theorem dX11_readsPart_28 : decode cX11_readsPart 28 = .ok (.iconst 0, 1) := by decide +kernel
theorem dX11_readsPart_29 : decode cX11_readsPart 29 = .ok (.iastore, 1) := by decide +kernel
theorem dX11_readsPart_30 : decode cX11_readsPart 30 = .ok (.iinc 2 1, 3) := by decide +kernel
theorem dX11_readsPart_33 : decode cX11_readsPart 33 = .ok (.goto (-18), 3) := by decide +kernel
theorem dX11_readsPart_36 : decode cX11_readsPart 36 = .ok (.aload_n 0, 1) := by decide +kernel
theorem dX11_readsPart_37 : decode cX11_readsPart 37 = .ok (.invokevirtual 158, 3) := by decide +kernel
theorem dX11_readsPart_40 : decode cX11_readsPart 40 = .ok (.bipush 98, 2) := by decide +kernel
theorem dX11_readsPart_42 : decode cX11_readsPart 42 = .ok (.if_icmp .ne 31, 3) := by decide +kernel
theorem dX11_readsPart_45 : decode cX11_readsPart 45 = .ok (.aload_n 0, 1) := by decide +kernel
theorem dX11_readsPart_46 : decode cX11_readsPart 46 = .ok (.dup, 1) := by decide +kernel
theorem dX11_readsPart_47 : decode cX11_readsPart 47 = .ok (.getfield 151, 3) := by decide +kernel
theorem dX11_readsPart_50 : decode cX11_readsPart 50 = .ok (.iconst 1, 1) := by decide +kernel
theorem dX11_readsPart_51 : decode cX11_readsPart 51 = .ok (.iadd, 1) := by decide +kernel
theorem dX11_readsPart_52 : decode cX11_readsPart 52 = .ok (.putfield 151, 3) := by decide +kernel
theorem dX11_readsPart_55 : decode cX11_readsPart 55 = .ok (.aload_n 0, 1) := by decide +kernel
theorem dX11_readsPart_56 : decode cX11_readsPart 56 = .ok (.getfield 22, 3) := by decide +kernel
theorem dX11_readsPart_59 : decode cX11_readsPart 59 = .ok (.iload_n 1, 1) := by decide +kernel
theorem dX11_readsPart_60 : decode cX11_readsPart 60 = .ok (.iconst 1, 1) := by decide +kernel
theorem dX11_readsPart_61 : decode cX11_readsPart 61 = .ok (.iadd, 1) := by decide +kernel
theorem dX11_readsPart_62 : decode cX11_readsPart 62 = .ok (.bipush 98, 2) := by decide +kernel
theorem dX11_readsPart_64 : decode cX11_readsPart 64 = .ok (.iastore, 1) := by decide +kernel
theorem dX11_readsPart_65 : decode cX11_readsPart 65 = .ok (.aload_n 0, 1) := by decide +kernel
theorem dX11_readsPart_66 : decode cX11_readsPart 66 = .ok (.iload_n 1, 1) := by decide +kernel
theorem dX11_readsPart_67 : decode cX11_readsPart 67 = .ok (.invokevirtual 174, 3) := by decide +kernel
theorem dX11_readsPart_70 : decode cX11_readsPart 70 = .ok (.goto 127, 3) := by decide +kernel
theorem dX11_readsPart_73 : decode cX11_readsPart 73 = .ok (.aload_n 0, 1) := by decide +kernel
theorem dX11_readsPart_74 : decode cX11_readsPart 74 = .ok (.getfield 22, 3) := by decide +kernel
theorem dX11_readsPart_77 : decode cX11_readsPart 77 = .ok (.iload_n 1, 1) := by decide +kernel
theorem dX11_readsPart_78 : decode cX11_readsPart 78 = .ok (.aload_n 0, 1) := by decide +kernel
theorem dX11_readsPart_79 : decode cX11_readsPart 79 = .ok (.bipush 48, 2) := by decide +kernel
theorem dX11_readsPart_81 : decode cX11_readsPart 81 = .ok (.bipush 53, 2) := by decide +kernel
theorem dX11_readsPart_83 : decode cX11_readsPart 83 = .ok (.invokevirtual 168, 3) := by decide +kernel
theorem dX11_readsPart_86 : decode cX11_readsPart 86 = .ok (.iastore, 1) := by decide +kernel
theorem dX11_readsPart_87 : decode cX11_readsPart 87 = .ok (.aload_n 0, 1) := by decide +kernel
theorem dX11_readsPart_88 : decode cX11_readsPart 88 = .ok (.getfield 154, 3) := by decide +kernel
theorem dX11_readsPart_91 : decode cX11_readsPart 91 = .ok (.ifCond .eq 10, 3) := by decide +kernel
theorem dX11_readsPart_94 : decode cX11_readsPart 94 = .ok (.aload_n 0, 1) := by decide +kernel
theorem dX11_readsPart_95 : decode cX11_readsPart 95 = .ok (.invokevirtual 158, 3) := by decide +kernel
theorem dX11_readsPart_98 : decode cX11_readsPart 98 = .ok (.goto 4, 3) := by decide +kernel
theorem dX11_readsPart_101 : decode cX11_readsPart 101 = .ok (.iconst 0, 1) := by decide +kernel
theorem dX11_readsPart_102 : decode cX11_readsPart 102 = .ok (.istore_n 2, 1) := by decide +kernel
theorem dX11_readsPart_103 : decode cX11_readsPart 103 = .ok (.aload_n 0, 1) := by decide +kernel
theorem dX11_readsPart_104 : decode cX11_readsPart 104 = .ok (.iload_n 2, 1) := by decide +kernel
theorem dX11_readsPart_105 : decode cX11_readsPart 105 = .ok (.bipush 61, 2) := by decide +kernel
theorem dX11_readsPart_107 : decode cX11_readsPart 107 = .ok (.if_icmp .eq 15, 3) := by decide +kernel
theorem dX11_readsPart_110 : decode cX11_readsPart 110 = .ok (.iload_n 2, 1) := by decide +kernel
theorem dX11_readsPart_111 : decode cX11_readsPart 111 = .ok (.bipush 43, 2) := by decide +kernel
theorem dX11_readsPart_113 : decode cX11_readsPart 113 = .ok (.if_icmp .eq 9, 3) := by decide +kernel
theorem dX11_readsPart_116 : decode cX11_readsPart 116 = .ok (.iload_n 2, 1) := by decide +kernel
theorem dX11_readsPart_117 : decode cX11_readsPart 117 = .ok (.bipush 45, 2) := by decide +kernel
theorem dX11_readsPart_119 : decode cX11_readsPart 119 = .ok (.if_icmp .ne 7, 3) := by decide +kernel
theorem dX11_readsPart_122 : decode cX11_readsPart 122 = .ok (.iconst 1, 1) := by decide +kernel
theorem dX11_readsPart_123 : decode cX11_readsPart 123 = .ok (.goto 4, 3) := by decide +kernel
theorem dX11_readsPart_126 : decode cX11_readsPart 126 = .ok (.iconst 0, 1) := by decide +kernel
theorem dX11_readsPart_127 : decode cX11_readsPart 127 = .ok (.putfield 154, 3) := by decide +kernel
theorem dX11_readsPart_130 : decode cX11_readsPart 130 = .ok (.aload_n 0, 1) := by decide +kernel
theorem dX11_readsPart_131 : decode cX11_readsPart 131 = .ok (.dup, 1) := by decide +kernel
theorem dX11_readsPart_132 : decode cX11_readsPart 132 = .ok (.getfield 151, 3) := by decide +kernel
theorem dX11_readsPart_135 : decode cX11_readsPart 135 = .ok (.aload_n 0, 1) := by decide +kernel
theorem dX11_readsPart_136 : decode cX11_readsPart 136 = .ok (.getfield 154, 3) := by decide +kernel
theorem dX11_readsPart_139 : decode cX11_readsPart 139 = .ok (.ifCond .eq 7, 3) := by decide +kernel
theorem dX11_readsPart_142 : decode cX11_readsPart 142 = .ok (.iconst 1, 1) := by decide +kernel
theorem dX11_readsPart_143 : decode cX11_readsPart 143 = .ok (.goto 4, 3) := by decide +kernel
theorem dX11_readsPart_146 : decode cX11_readsPart 146 = .ok (.iconst 0, 1) := by decide +kernel
theorem dX11_readsPart_147 : decode cX11_readsPart 147 = .ok (.iadd, 1) := by decide +kernel
theorem dX11_readsPart_148 : decode cX11_readsPart 148 = .ok (.putfield 151, 3) := by decide +kernel
theorem dX11_readsPart_151 : decode cX11_readsPart 151 = .ok (.aload_n 0, 1) := by decide +kernel
theorem dX11_readsPart_152 : decode cX11_readsPart 152 = .ok (.getfield 22, 3) := by decide +kernel
theorem dX11_readsPart_155 : decode cX11_readsPart 155 = .ok (.iload_n 1, 1) := by decide +kernel
theorem dX11_readsPart_156 : decode cX11_readsPart 156 = .ok (.iconst 1, 1) := by decide +kernel
theorem dX11_readsPart_157 : decode cX11_readsPart 157 = .ok (.iadd, 1) := by decide +kernel
theorem dX11_readsPart_158 : decode cX11_readsPart 158 = .ok (.iload_n 2, 1) := by decide +kernel
theorem dX11_readsPart_159 : decode cX11_readsPart 159 = .ok (.iastore, 1) := by decide +kernel
theorem dX11_readsPart_160 : decode cX11_readsPart 160 = .ok (.aload_n 0, 1) := by decide +kernel
theorem dX11_readsPart_161 : decode cX11_readsPart 161 = .ok (.getfield 154, 3) := by decide +kernel
theorem dX11_readsPart_164 : decode cX11_readsPart 164 = .ok (.ifCond .eq 17, 3) := by decide +kernel
theorem dX11_readsPart_167 : decode cX11_readsPart 167 = .ok (.iload_n 2, 1) := by decide +kernel
theorem dX11_readsPart_168 : decode cX11_readsPart 168 = .ok (.bipush 61, 2) := by decide +kernel
theorem dX11_readsPart_170 : decode cX11_readsPart 170 = .ok (.if_icmp .ne 11, 3) := by decide +kernel
theorem dX11_readsPart_173 : decode cX11_readsPart 173 = .ok (.aload_n 0, 1) := by decide +kernel
theorem dX11_readsPart_174 : decode cX11_readsPart 174 = .ok (.iload_n 1, 1) := by decide +kernel
theorem dX11_readsPart_175 : decode cX11_readsPart 175 = .ok (.invokevirtual 177, 3) := by decide +kernel
theorem dX11_readsPart_178 : decode cX11_readsPart 178 = .ok (.goto 19, 3) := by decide +kernel
theorem dX11_readsPart_181 : decode cX11_readsPart 181 = .ok (.aload_n 0, 1) := by decide +kernel
theorem dX11_readsPart_182 : decode cX11_readsPart 182 = .ok (.getfield 22, 3) := by decide +kernel
theorem dX11_readsPart_185 : decode cX11_readsPart 185 = .ok (.iload_n 1, 1) := by decide +kernel
theorem dX11_readsPart_186 : decode cX11_readsPart 186 = .ok (.iconst 2, 1) := by decide +kernel
theorem dX11_readsPart_187 : decode cX11_readsPart 187 = .ok (.iadd, 1) := by decide +kernel
theorem dX11_readsPart_188 : decode cX11_readsPart 188 = .ok (.aload_n 0, 1) := by decide +kernel
theorem dX11_readsPart_189 : decode cX11_readsPart 189 = .ok (.bipush 48, 2) := by decide +kernel
theorem dX11_readsPart_191 : decode cX11_readsPart 191 = .ok (.bipush 53, 2) := by decide +kernel
theorem dX11_readsPart_193 : decode cX11_readsPart 193 = .ok (.invokevirtual 168, 3) := by decide +kernel
theorem dX11_readsPart_196 : decode cX11_readsPart 196 = .ok (.iastore, 1) := by decide +kernel
theorem dX11_readsPart_197 : decode cX11_readsPart 197 = .ok (.aload_n 0, 1) := by decide +kernel
theorem dX11_readsPart_198 : decode cX11_readsPart 198 = .ok (.dup, 1) := by decide +kernel
theorem dX11_readsPart_199 : decode cX11_readsPart 199 = .ok (.getfield 171, 3) := by decide +kernel
theorem dX11_readsPart_202 : decode cX11_readsPart 202 = .ok (.aload_n 0, 1) := by decide +kernel
theorem dX11_readsPart_203 : decode cX11_readsPart 203 = .ok (.getfield 154, 3) := by decide +kernel
theorem dX11_readsPart_206 : decode cX11_readsPart 206 = .ok (.ifCond .eq 7, 3) := by decide +kernel
theorem dX11_readsPart_209 : decode cX11_readsPart 209 = .ok (.iconst 1, 1) := by decide +kernel
theorem dX11_readsPart_210 : decode cX11_readsPart 210 = .ok (.goto 4, 3) := by decide +kernel
theorem dX11_readsPart_213 : decode cX11_readsPart 213 = .ok (.iconst 0, 1) := by decide +kernel
theorem dX11_readsPart_214 : decode cX11_readsPart 214 = .ok (.iadd, 1) := by decide +kernel
theorem dX11_readsPart_215 : decode cX11_readsPart 215 = .ok (.putfield 171, 3) := by decide +kernel
theorem dX11_readsPart_218 : decode cX11_readsPart 218 = .ok (.return_, 1) := by decide +kernel
theorem dX11_readsEntries_0 : decode cX11_readsEntries 0 = .ok (.aload_n 0, 1) := by decide +kernel
theorem dX11_readsEntries_1 : decode cX11_readsEntries 1 = .ok (.iconst 0, 1) := by decide +kernel
theorem dX11_readsEntries_2 : decode cX11_readsEntries 2 = .ok (.putfield 151, 3) := by decide +kernel
theorem dX11_readsEntries_5 : decode cX11_readsEntries 5 = .ok (.aload_n 0, 1) := by decide +kernel
theorem dX11_readsEntries_6 : decode cX11_readsEntries 6 = .ok (.iconst 0, 1) := by decide +kernel
theorem dX11_readsEntries_7 : decode cX11_readsEntries 7 = .ok (.putfield 171, 3) := by decide +kernel
theorem dX11_readsEntries_10 : decode cX11_readsEntries 10 = .ok (.aload_n 0, 1) := by decide +kernel
theorem dX11_readsEntries_11 : decode cX11_readsEntries 11 = .ok (.invokevirtual 180, 3) := by decide +kernel
theorem dX11_readsEntries_14 : decode cX11_readsEntries 14 = .ok (.aload_n 0, 1) := by decide +kernel
theorem dX11_readsEntries_15 : decode cX11_readsEntries 15 = .ok (.getfield 154, 3) := by decide +kernel
theorem dX11_readsEntries_18 : decode cX11_readsEntries 18 = .ok (.ifCond .eq 37, 3) := by decide +kernel
theorem dX11_readsEntries_21 : decode cX11_readsEntries 21 = .ok (.aload_n 0, 1) := by decide +kernel
theorem dX11_readsEntries_22 : decode cX11_readsEntries 22 = .ok (.getfield 151, 3) := by decide +kernel
theorem dX11_readsEntries_25 : decode cX11_readsEntries 25 = .ok (.aload_n 0, 1) := by decide +kernel
theorem dX11_readsEntries_26 : decode cX11_readsEntries 26 = .ok (.getfield 148, 3) := by decide +kernel
theorem dX11_readsEntries_29 : decode cX11_readsEntries 29 = .ok (.if_icmp .ge 26, 3) := by decide +kernel
theorem dX11_readsEntries_32 : decode cX11_readsEntries 32 = .ok (.aload_n 0, 1) := by decide +kernel
theorem dX11_readsEntries_33 : decode cX11_readsEntries 33 = .ok (.bipush 59, 2) := by decide +kernel
theorem dX11_readsEntries_35 : decode cX11_readsEntries 35 = .ok (.bipush 59, 2) := by decide +kernel
theorem dX11_readsEntries_37 : decode cX11_readsEntries 37 = .ok (.invokevirtual 168, 3) := by decide +kernel
theorem dX11_readsEntries_40 : decode cX11_readsEntries 40 = .ok (.pop, 1) := by decide +kernel
theorem dX11_readsEntries_41 : decode cX11_readsEntries 41 = .ok (.aload_n 0, 1) := by decide +kernel
theorem dX11_readsEntries_42 : decode cX11_readsEntries 42 = .ok (.getfield 154, 3) := by decide +kernel
theorem dX11_readsEntries_45 : decode cX11_readsEntries 45 = .ok (.ifCond .eq (-31), 3) := by decide +kernel
theorem dX11_readsEntries_48 : decode cX11_readsEntries 48 = .ok (.aload_n 0, 1) := by decide +kernel
theorem dX11_readsEntries_49 : decode cX11_readsEntries 49 = .ok (.invokevirtual 180, 3) := by decide +kernel
theorem dX11_readsEntries_52 : decode cX11_readsEntries 52 = .ok (.goto (-38), 3) := by decide +kernel
theorem dX11_readsEntries_55 : decode cX11_readsEntries 55 = .ok (.aload_n 0, 1) := by decide +kernel
theorem dX11_readsEntries_56 : decode cX11_readsEntries 56 = .ok (.getfield 154, 3) := by decide +kernel
theorem dX11_readsEntries_59 : decode cX11_readsEntries 59 = .ok (.ireturn, 1) := by decide +kernel
theorem dX11_firstError_0 : decode cX11_firstError 0 = .ok (.aload_n 0, 1) := by decide +kernel
theorem dX11_firstError_1 : decode cX11_firstError 1 = .ok (.iconst 0, 1) := by decide +kernel
theorem dX11_firstError_2 : decode cX11_firstError 2 = .ok (.putfield 34, 3) := by decide +kernel
theorem dX11_firstError_5 : decode cX11_firstError 5 = .ok (.aload_n 0, 1) := by decide +kernel
theorem dX11_firstError_6 : decode cX11_firstError 6 = .ok (.invokevirtual 183, 3) := by decide +kernel
theorem dX11_firstError_9 : decode cX11_firstError 9 = .ok (.ifCond .eq 10, 3) := by decide +kernel
theorem dX11_firstError_12 : decode cX11_firstError 12 = .ok (.aload_n 0, 1) := by decide +kernel
theorem dX11_firstError_13 : decode cX11_firstError 13 = .ok (.getfield 148, 3) := by decide +kernel
theorem dX11_firstError_16 : decode cX11_firstError 16 = .ok (.goto 7, 3) := by decide +kernel
theorem dX11_firstError_19 : decode cX11_firstError 19 = .ok (.aload_n 0, 1) := by decide +kernel
theorem dX11_firstError_20 : decode cX11_firstError 20 = .ok (.getfield 151, 3) := by decide +kernel
theorem dX11_firstError_23 : decode cX11_firstError 23 = .ok (.ireturn, 1) := by decide +kernel
theorem dX11_digitsOf_0 : decode cX11_digitsOf 0 = .ok (.lconst 0, 1) := by decide +kernel
theorem dX11_digitsOf_1 : decode cX11_digitsOf 1 = .ok (.lstore_n 3, 1) := by decide +kernel
theorem dX11_digitsOf_2 : decode cX11_digitsOf 2 = .ok (.iconst 0, 1) := by decide +kernel
theorem dX11_digitsOf_3 : decode cX11_digitsOf 3 = .ok (.istore 5, 2) := by decide +kernel
theorem dX11_digitsOf_5 : decode cX11_digitsOf 5 = .ok (.iload 5, 2) := by decide +kernel
theorem dX11_digitsOf_7 : decode cX11_digitsOf 7 = .ok (.iload_n 2, 1) := by decide +kernel
theorem dX11_digitsOf_8 : decode cX11_digitsOf 8 = .ok (.if_icmp .ge 30, 3) := by decide +kernel
theorem dX11_digitsOf_11 : decode cX11_digitsOf 11 = .ok (.lload_n 3, 1) := by decide +kernel
theorem dX11_digitsOf_12 : decode cX11_digitsOf 12 = .ok (.aload_n 0, 1) := by decide +kernel
theorem dX11_digitsOf_13 : decode cX11_digitsOf 13 = .ok (.getfield 7, 3) := by decide +kernel
theorem dX11_digitsOf_16 : decode cX11_digitsOf 16 = .ok (.iconst 0, 1) := by decide +kernel
theorem dX11_digitsOf_17 : decode cX11_digitsOf 17 = .ok (.iaload, 1) := by decide +kernel
theorem dX11_digitsOf_18 : decode cX11_digitsOf 18 = .ok (.i2l, 1) := by decide +kernel
theorem dX11_digitsOf_19 : decode cX11_digitsOf 19 = .ok (.lmul, 1) := by decide +kernel
theorem dX11_digitsOf_20 : decode cX11_digitsOf 20 = .ok (.aload_n 0, 1) := by decide +kernel
theorem dX11_digitsOf_21 : decode cX11_digitsOf 21 = .ok (.getfield 22, 3) := by decide +kernel
theorem dX11_digitsOf_24 : decode cX11_digitsOf 24 = .ok (.iload_n 1, 1) := by decide +kernel
theorem dX11_digitsOf_25 : decode cX11_digitsOf 25 = .ok (.iload 5, 2) := by decide +kernel
theorem dX11_digitsOf_27 : decode cX11_digitsOf 27 = .ok (.iadd, 1) := by decide +kernel
theorem dX11_digitsOf_28 : decode cX11_digitsOf 28 = .ok (.iaload, 1) := by decide +kernel
theorem dX11_digitsOf_29 : decode cX11_digitsOf 29 = .ok (.i2l, 1) := by decide +kernel
theorem dX11_digitsOf_30 : decode cX11_digitsOf 30 = .ok (.ladd, 1) := by decide +kernel
theorem dX11_digitsOf_31 : decode cX11_digitsOf 31 = .ok (.lstore_n 3, 1) := by decide +kernel
theorem dX11_digitsOf_32 : decode cX11_digitsOf 32 = .ok (.iinc 5 1, 3) := by decide +kernel
theorem dX11_digitsOf_35 : decode cX11_digitsOf 35 = .ok (.goto (-30), 3) := by decide +kernel
theorem dX11_digitsOf_38 : decode cX11_digitsOf 38 = .ok (.lload_n 3, 1) := by decide +kernel
theorem dX11_digitsOf_39 : decode cX11_digitsOf 39 = .ok (.lreturn, 1) := by decide +kernel
theorem dX11_areBelow_0 : decode cX11_areBelow 0 = .ok (.iconst 1, 1) := by decide +kernel
theorem dX11_areBelow_1 : decode cX11_areBelow 1 = .ok (.istore_n 3, 1) := by decide +kernel
theorem dX11_areBelow_2 : decode cX11_areBelow 2 = .ok (.iconst 0, 1) := by decide +kernel
theorem dX11_areBelow_3 : decode cX11_areBelow 3 = .ok (.istore 4, 2) := by decide +kernel
theorem dX11_areBelow_5 : decode cX11_areBelow 5 = .ok (.iload 4, 2) := by decide +kernel
theorem dX11_areBelow_7 : decode cX11_areBelow 7 = .ok (.iload_n 2, 1) := by decide +kernel
theorem dX11_areBelow_8 : decode cX11_areBelow 8 = .ok (.if_icmp .ge 37, 3) := by decide +kernel
theorem dX11_areBelow_11 : decode cX11_areBelow 11 = .ok (.iload_n 3, 1) := by decide +kernel
theorem dX11_areBelow_12 : decode cX11_areBelow 12 = .ok (.ifCond .eq 25, 3) := by decide +kernel
theorem dX11_areBelow_15 : decode cX11_areBelow 15 = .ok (.aload_n 0, 1) := by decide +kernel
theorem dX11_areBelow_16 : decode cX11_areBelow 16 = .ok (.getfield 22, 3) := by decide +kernel
theorem dX11_areBelow_19 : decode cX11_areBelow 19 = .ok (.iload_n 1, 1) := by decide +kernel
theorem dX11_areBelow_20 : decode cX11_areBelow 20 = .ok (.iload 4, 2) := by decide +kernel
theorem dX11_areBelow_22 : decode cX11_areBelow 22 = .ok (.iadd, 1) := by decide +kernel
theorem dX11_areBelow_23 : decode cX11_areBelow 23 = .ok (.iaload, 1) := by decide +kernel
theorem dX11_areBelow_24 : decode cX11_areBelow 24 = .ok (.aload_n 0, 1) := by decide +kernel
theorem dX11_areBelow_25 : decode cX11_areBelow 25 = .ok (.getfield 7, 3) := by decide +kernel
theorem dX11_areBelow_28 : decode cX11_areBelow 28 = .ok (.iconst 0, 1) := by decide +kernel
theorem dX11_areBelow_29 : decode cX11_areBelow 29 = .ok (.iaload, 1) := by decide +kernel
theorem dX11_areBelow_30 : decode cX11_areBelow 30 = .ok (.if_icmp .ge 7, 3) := by decide +kernel
theorem dX11_areBelow_33 : decode cX11_areBelow 33 = .ok (.iconst 1, 1) := by decide +kernel
theorem dX11_areBelow_34 : decode cX11_areBelow 34 = .ok (.goto 4, 3) := by decide +kernel
theorem dX11_areBelow_37 : decode cX11_areBelow 37 = .ok (.iconst 0, 1) := by decide +kernel
theorem dX11_areBelow_38 : decode cX11_areBelow 38 = .ok (.istore_n 3, 1) := by decide +kernel
theorem dX11_areBelow_39 : decode cX11_areBelow 39 = .ok (.iinc 4 1, 3) := by decide +kernel
theorem dX11_areBelow_42 : decode cX11_areBelow 42 = .ok (.goto (-37), 3) := by decide +kernel
theorem dX11_areBelow_45 : decode cX11_areBelow 45 = .ok (.iload_n 3, 1) := by decide +kernel
theorem dX11_areBelow_46 : decode cX11_areBelow 46 = .ok (.ireturn, 1) := by decide +kernel
theorem dX11_makesNumber_0 : decode cX11_makesNumber 0 = .ok (.aload_n 0, 1) := by decide +kernel
theorem dX11_makesNumber_1 : decode cX11_makesNumber 1 = .ok (.getfield 22, 3) := by decide +kernel
theorem dX11_makesNumber_4 : decode cX11_makesNumber 4 = .ok (.iload_n 1, 1) := by decide +kernel
theorem dX11_makesNumber_5 : decode cX11_makesNumber 5 = .ok (.iconst 3, 1) := by decide +kernel
theorem dX11_makesNumber_6 : decode cX11_makesNumber 6 = .ok (.iadd, 1) := by decide +kernel
theorem dX11_makesNumber_7 : decode cX11_makesNumber 7 = .ok (.iaload, 1) := by decide +kernel
theorem dX11_makesNumber_8 : decode cX11_makesNumber 8 = .ok (.istore_n 2, 1) := by decide +kernel
theorem dX11_makesNumber_9 : decode cX11_makesNumber 9 = .ok (.aload_n 0, 1) := by decide +kernel
theorem dX11_makesNumber_10 : decode cX11_makesNumber 10 = .ok (.getfield 22, 3) := by decide +kernel
theorem dX11_makesNumber_13 : decode cX11_makesNumber 13 = .ok (.iload_n 1, 1) := by decide +kernel
theorem dX11_makesNumber_14 : decode cX11_makesNumber 14 = .ok (.iconst 4, 1) := by decide +kernel
theorem dX11_makesNumber_15 : decode cX11_makesNumber 15 = .ok (.iadd, 1) := by decide +kernel
theorem dX11_makesNumber_16 : decode cX11_makesNumber 16 = .ok (.iaload, 1) := by decide +kernel
theorem dX11_makesNumber_17 : decode cX11_makesNumber 17 = .ok (.istore_n 3, 1) := by decide +kernel
theorem dX11_makesNumber_18 : decode cX11_makesNumber 18 = .ok (.aload_n 0, 1) := by decide +kernel
theorem dX11_makesNumber_19 : decode cX11_makesNumber 19 = .ok (.getfield 22, 3) := by decide +kernel
theorem dX11_makesNumber_22 : decode cX11_makesNumber 22 = .ok (.iload_n 1, 1) := by decide +kernel
theorem dX11_makesNumber_23 : decode cX11_makesNumber 23 = .ok (.iconst 5, 1) := by decide +kernel
theorem dX11_makesNumber_24 : decode cX11_makesNumber 24 = .ok (.iadd, 1) := by decide +kernel
theorem dX11_makesNumber_25 : decode cX11_makesNumber 25 = .ok (.iaload, 1) := by decide +kernel
theorem dX11_makesNumber_26 : decode cX11_makesNumber 26 = .ok (.istore 4, 2) := by decide +kernel
theorem dX11_makesNumber_28 : decode cX11_makesNumber 28 = .ok (.aload_n 0, 1) := by decide +kernel
theorem dX11_makesNumber_29 : decode cX11_makesNumber 29 = .ok (.iload_n 1, 1) := by decide +kernel
theorem dX11_makesNumber_30 : decode cX11_makesNumber 30 = .ok (.bipush 6, 2) := by decide +kernel
theorem dX11_makesNumber_32 : decode cX11_makesNumber 32 = .ok (.iadd, 1) := by decide +kernel
theorem dX11_makesNumber_33 : decode cX11_makesNumber 33 = .ok (.iload_n 2, 1) := by decide +kernel
theorem dX11_makesNumber_34 : decode cX11_makesNumber 34 = .ok (.invokevirtual 187, 3) := by decide +kernel
theorem dX11_makesNumber_37 : decode cX11_makesNumber 37 = .ok (.ifCond .eq 28, 3) := by decide +kernel
theorem dX11_makesNumber_40 : decode cX11_makesNumber 40 = .ok (.aload_n 0, 1) := by decide +kernel
theorem dX11_makesNumber_41 : decode cX11_makesNumber 41 = .ok (.iload_n 1, 1) := by decide +kernel
theorem dX11_makesNumber_42 : decode cX11_makesNumber 42 = .ok (.bipush 14, 2) := by decide +kernel
theorem dX11_makesNumber_44 : decode cX11_makesNumber 44 = .ok (.iadd, 1) := by decide +kernel
theorem dX11_makesNumber_45 : decode cX11_makesNumber 45 = .ok (.iload_n 3, 1) := by decide +kernel
theorem dX11_makesNumber_46 : decode cX11_makesNumber 46 = .ok (.invokevirtual 187, 3) := by decide +kernel
theorem dX11_makesNumber_49 : decode cX11_makesNumber 49 = .ok (.ifCond .eq 16, 3) := by decide +kernel
theorem dX11_makesNumber_52 : decode cX11_makesNumber 52 = .ok (.aload_n 0, 1) := by decide +kernel
theorem dX11_makesNumber_53 : decode cX11_makesNumber 53 = .ok (.iload_n 1, 1) := by decide +kernel
theorem dX11_makesNumber_54 : decode cX11_makesNumber 54 = .ok (.bipush 18, 2) := by decide +kernel
theorem dX11_makesNumber_56 : decode cX11_makesNumber 56 = .ok (.iadd, 1) := by decide +kernel
theorem dX11_makesNumber_57 : decode cX11_makesNumber 57 = .ok (.iload 4, 2) := by decide +kernel
theorem dX11_makesNumber_59 : decode cX11_makesNumber 59 = .ok (.invokevirtual 187, 3) := by decide +kernel
theorem dX11_makesNumber_62 : decode cX11_makesNumber 62 = .ok (.ifCond .ne 5, 3) := by decide +kernel
theorem dX11_makesNumber_65 : decode cX11_makesNumber 65 = .ok (.iconst 1, 1) := by decide +kernel
theorem dX11_makesNumber_66 : decode cX11_makesNumber 66 = .ok (.ireturn, 1) := by decide +kernel
theorem dX11_makesNumber_67 : decode cX11_makesNumber 67 = .ok (.aload_n 0, 1) := by decide +kernel
theorem dX11_makesNumber_68 : decode cX11_makesNumber 68 = .ok (.iload_n 1, 1) := by decide +kernel
theorem dX11_makesNumber_69 : decode cX11_makesNumber 69 = .ok (.bipush 6, 2) := by decide +kernel
theorem dX11_makesNumber_71 : decode cX11_makesNumber 71 = .ok (.iadd, 1) := by decide +kernel
theorem dX11_makesNumber_72 : decode cX11_makesNumber 72 = .ok (.iload_n 2, 1) := by decide +kernel
theorem dX11_makesNumber_73 : decode cX11_makesNumber 73 = .ok (.invokevirtual 190, 3) := by decide +kernel
theorem dX11_makesNumber_76 : decode cX11_makesNumber 76 = .ok (.lstore 5, 2) := by decide +kernel
theorem dX11_makesNumber_78 : decode cX11_makesNumber 78 = .ok (.lload 5, 2) := by decide +kernel
theorem dX11_makesNumber_80 : decode cX11_makesNumber 80 = .ok (.ldc2_w 67, 3) := by decide +kernel
theorem dX11_makesNumber_83 : decode cX11_makesNumber 83 = .ok (.lcmp, 1) := by decide +kernel
theorem dX11_makesNumber_84 : decode cX11_makesNumber 84 = .ok (.ifCond .le 5, 3) := by decide +kernel
theorem dX11_makesNumber_87 : decode cX11_makesNumber 87 = .ok (.iconst 2, 1) := by decide +kernel
theorem dX11_makesNumber_88 : decode cX11_makesNumber 88 = .ok (.ireturn, 1) := by decide +kernel
theorem dX11_makesNumber_89 : decode cX11_makesNumber 89 = .ok (.iload 4, 2) := by decide +kernel
theorem dX11_makesNumber_91 : decode cX11_makesNumber 91 = .ok (.ifCond .ne 7, 3) := by decide +kernel
theorem dX11_makesNumber_94 : decode cX11_makesNumber 94 = .ok (.lconst 1, 1) := by decide +kernel
theorem dX11_makesNumber_95 : decode cX11_makesNumber 95 = .ok (.goto 12, 3) := by decide +kernel
theorem dX11_makesNumber_98 : decode cX11_makesNumber 98 = .ok (.aload_n 0, 1) := by decide +kernel
theorem dX11_makesNumber_99 : decode cX11_makesNumber 99 = .ok (.iload 4, 2) := by decide +kernel
theorem dX11_makesNumber_101 : decode cX11_makesNumber 101 = .ok (.invokevirtual 75, 3) := by decide +kernel
theorem dX11_makesNumber_104 : decode cX11_makesNumber 104 = .ok (.i2l, 1) := by decide +kernel
theorem dX11_makesNumber_105 : decode cX11_makesNumber 105 = .ok (.lconst 1, 1) := by decide +kernel
theorem dX11_makesNumber_106 : decode cX11_makesNumber 106 = .ok (.lsub, 1) := by decide +kernel
theorem dX11_makesNumber_107 : decode cX11_makesNumber 107 = .ok (.lstore 7, 2) := by decide +kernel
theorem dX11_makesNumber_109 : decode cX11_makesNumber 109 = .ok (.aload_n 0, 1) := by decide +kernel
theorem dX11_makesNumber_110 : decode cX11_makesNumber 110 = .ok (.iload_n 1, 1) := by decide +kernel
theorem dX11_makesNumber_111 : decode cX11_makesNumber 111 = .ok (.bipush 14, 2) := by decide +kernel
theorem dX11_makesNumber_113 : decode cX11_makesNumber 113 = .ok (.iadd, 1) := by decide +kernel
theorem dX11_makesNumber_114 : decode cX11_makesNumber 114 = .ok (.iload_n 3, 1) := by decide +kernel
theorem dX11_makesNumber_115 : decode cX11_makesNumber 115 = .ok (.invokevirtual 190, 3) := by decide +kernel
theorem dX11_makesNumber_118 : decode cX11_makesNumber 118 = .ok (.lload 7, 2) := by decide +kernel
theorem dX11_makesNumber_120 : decode cX11_makesNumber 120 = .ok (.lmul, 1) := by decide +kernel
theorem dX11_makesNumber_121 : decode cX11_makesNumber 121 = .ok (.aload_n 0, 1) := by decide +kernel
theorem dX11_makesNumber_122 : decode cX11_makesNumber 122 = .ok (.iload_n 1, 1) := by decide +kernel
theorem dX11_makesNumber_123 : decode cX11_makesNumber 123 = .ok (.bipush 18, 2) := by decide +kernel
theorem dX11_makesNumber_125 : decode cX11_makesNumber 125 = .ok (.iadd, 1) := by decide +kernel
theorem dX11_makesNumber_126 : decode cX11_makesNumber 126 = .ok (.iload 4, 2) := by decide +kernel
theorem dX11_makesNumber_128 : decode cX11_makesNumber 128 = .ok (.invokevirtual 190, 3) := by decide +kernel
theorem dX11_makesNumber_131 : decode cX11_makesNumber 131 = .ok (.ladd, 1) := by decide +kernel
theorem dX11_makesNumber_132 : decode cX11_makesNumber 132 = .ok (.lstore 9, 2) := by decide +kernel
theorem dX11_makesNumber_134 : decode cX11_makesNumber 134 = .ok (.aload_n 0, 1) := by decide +kernel
theorem dX11_makesNumber_135 : decode cX11_makesNumber 135 = .ok (.iload_n 3, 1) := by decide +kernel
theorem dX11_makesNumber_136 : decode cX11_makesNumber 136 = .ok (.invokevirtual 75, 3) := by decide +kernel
theorem dX11_makesNumber_139 : decode cX11_makesNumber 139 = .ok (.i2l, 1) := by decide +kernel
theorem dX11_makesNumber_140 : decode cX11_makesNumber 140 = .ok (.lload 7, 2) := by decide +kernel
theorem dX11_makesNumber_142 : decode cX11_makesNumber 142 = .ok (.lmul, 1) := by decide +kernel
theorem dX11_makesNumber_143 : decode cX11_makesNumber 143 = .ok (.lstore 11, 2) := by decide +kernel
theorem dX11_makesNumber_145 : decode cX11_makesNumber 145 = .ok (.aload_n 0, 1) := by decide +kernel
theorem dX11_makesNumber_146 : decode cX11_makesNumber 146 = .ok (.lload 5, 2) := by decide +kernel
theorem dX11_makesNumber_148 : decode cX11_makesNumber 148 = .ok (.lload 11, 2) := by decide +kernel
theorem dX11_makesNumber_150 : decode cX11_makesNumber 150 = .ok (.lmul, 1) := by decide +kernel
theorem dX11_makesNumber_151 : decode cX11_makesNumber 151 = .ok (.lload 9, 2) := by decide +kernel
theorem dX11_makesNumber_153 : decode cX11_makesNumber 153 = .ok (.ladd, 1) := by decide +kernel
theorem dX11_makesNumber_154 : decode cX11_makesNumber 154 = .ok (.lload 11, 2) := by decide +kernel
theorem dX11_makesNumber_156 : decode cX11_makesNumber 156 = .ok (.invokevirtual 71, 3) := by decide +kernel
theorem dX11_makesNumber_159 : decode cX11_makesNumber 159 = .ok (.ifCond .le 7, 3) := by decide +kernel
theorem dX11_makesNumber_162 : decode cX11_makesNumber 162 = .ok (.iconst 2, 1) := by decide +kernel
theorem dX11_makesNumber_163 : decode cX11_makesNumber 163 = .ok (.goto 4, 3) := by decide +kernel
theorem dX11_makesNumber_166 : decode cX11_makesNumber 166 = .ok (.iconst 0, 1) := by decide +kernel
theorem dX11_makesNumber_167 : decode cX11_makesNumber 167 = .ok (.ireturn, 1) := by decide +kernel
theorem dX11_does_0 : decode cX11_does 0 = .ok (.aload_n 0, 1) := by decide +kernel
theorem dX11_does_1 : decode cX11_does 1 = .ok (.getfield 22, 3) := by decide +kernel
theorem dX11_does_4 : decode cX11_does 4 = .ok (.iload_n 1, 1) := by decide +kernel
theorem dX11_does_5 : decode cX11_does 5 = .ok (.iaload, 1) := by decide +kernel
theorem dX11_does_6 : decode cX11_does 6 = .ok (.istore_n 2, 1) := by decide +kernel
theorem dX11_does_7 : decode cX11_does 7 = .ok (.aload_n 0, 1) := by decide +kernel
theorem dX11_does_8 : decode cX11_does 8 = .ok (.getfield 22, 3) := by decide +kernel
theorem dX11_does_11 : decode cX11_does 11 = .ok (.iload_n 1, 1) := by decide +kernel
theorem dX11_does_12 : decode cX11_does 12 = .ok (.iconst 2, 1) := by decide +kernel
theorem dX11_does_13 : decode cX11_does 13 = .ok (.iadd, 1) := by decide +kernel
theorem dX11_does_14 : decode cX11_does 14 = .ok (.iaload, 1) := by decide +kernel
theorem dX11_does_15 : decode cX11_does 15 = .ok (.istore_n 3, 1) := by decide +kernel
theorem dX11_does_16 : decode cX11_does 16 = .ok (.iconst 0, 1) := by decide +kernel
theorem dX11_does_17 : decode cX11_does 17 = .ok (.istore 4, 2) := by decide +kernel
theorem dX11_does_19 : decode cX11_does 19 = .ok (.aload_n 0, 1) := by decide +kernel
theorem dX11_does_20 : decode cX11_does 20 = .ok (.getfield 22, 3) := by decide +kernel
theorem dX11_does_23 : decode cX11_does 23 = .ok (.iload_n 1, 1) := by decide +kernel
theorem dX11_does_24 : decode cX11_does 24 = .ok (.iconst 1, 1) := by decide +kernel
theorem dX11_does_25 : decode cX11_does 25 = .ok (.iadd, 1) := by decide +kernel
theorem dX11_does_26 : decode cX11_does 26 = .ok (.iaload, 1) := by decide +kernel
theorem dX11_does_27 : decode cX11_does 27 = .ok (.lookupswitch 72 #[(43, 52), (61, 42), (98, 33)], 33) := by decide +kernel
theorem dX11_does_60 : decode cX11_does 60 = .ok (.aload_n 0, 1) := by decide +kernel
theorem dX11_does_61 : decode cX11_does 61 = .ok (.getfield 7, 3) := by decide +kernel
theorem dX11_does_64 : decode cX11_does 64 = .ok (.iconst 0, 1) := by decide +kernel
theorem dX11_does_65 : decode cX11_does 65 = .ok (.iload_n 3, 1) := by decide +kernel
theorem dX11_does_66 : decode cX11_does 66 = .ok (.iastore, 1) := by decide +kernel
theorem dX11_does_67 : decode cX11_does 67 = .ok (.iconst 0, 1) := by decide +kernel
theorem dX11_does_68 : decode cX11_does 68 = .ok (.ireturn, 1) := by decide +kernel
theorem dX11_does_69 : decode cX11_does 69 = .ok (.aload_n 0, 1) := by decide +kernel
theorem dX11_does_70 : decode cX11_does 70 = .ok (.iload_n 1, 1) := by decide +kernel
theorem dX11_does_71 : decode cX11_does 71 = .ok (.invokevirtual 194, 3) := by decide +kernel
theorem dX11_does_74 : decode cX11_does 74 = .ok (.istore 4, 2) := by decide +kernel
theorem dX11_does_76 : decode cX11_does 76 = .ok (.goto 57, 3) := by decide +kernel
theorem dX11_does_79 : decode cX11_does 79 = .ok (.aload_n 0, 1) := by decide +kernel
theorem dX11_does_80 : decode cX11_does 80 = .ok (.iload_n 2, 1) := by decide +kernel
theorem dX11_does_81 : decode cX11_does 81 = .ok (.iload_n 3, 1) := by decide +kernel
theorem dX11_does_82 : decode cX11_does 82 = .ok (.iconst 1, 1) := by decide +kernel
theorem dX11_does_83 : decode cX11_does 83 = .ok (.invokevirtual 120, 3) := by decide +kernel
theorem dX11_does_86 : decode cX11_does 86 = .ok (.ifCond .le 7, 3) := by decide +kernel
theorem dX11_does_89 : decode cX11_does 89 = .ok (.iconst 2, 1) := by decide +kernel
theorem dX11_does_90 : decode cX11_does 90 = .ok (.goto 4, 3) := by decide +kernel
theorem dX11_does_93 : decode cX11_does 93 = .ok (.iconst 0, 1) := by decide +kernel
theorem dX11_does_94 : decode cX11_does 94 = .ok (.istore 4, 2) := by decide +kernel
theorem dX11_does_96 : decode cX11_does 96 = .ok (.goto 37, 3) := by decide +kernel
theorem dX11_does_99 : decode cX11_does 99 = .ok (.aload_n 0, 1) := by decide +kernel
theorem dX11_does_100 : decode cX11_does 100 = .ok (.iload_n 2, 1) := by decide +kernel
theorem dX11_does_101 : decode cX11_does 101 = .ok (.iload_n 3, 1) := by decide +kernel
theorem dX11_does_102 : decode cX11_does 102 = .ok (.iconst (-1), 1) := by decide +kernel
theorem dX11_does_103 : decode cX11_does 103 = .ok (.invokevirtual 120, 3) := by decide +kernel
theorem dX11_does_106 : decode cX11_does 106 = .ok (.ifCond .le 7, 3) := by decide +kernel
theorem dX11_does_109 : decode cX11_does 109 = .ok (.iconst 2, 1) := by decide +kernel
theorem dX11_does_110 : decode cX11_does 110 = .ok (.goto 4, 3) := by decide +kernel
theorem dX11_does_113 : decode cX11_does 113 = .ok (.iconst 0, 1) := by decide +kernel
theorem dX11_does_114 : decode cX11_does 114 = .ok (.istore 4, 2) := by decide +kernel
theorem dX11_does_116 : decode cX11_does 116 = .ok (.aload_n 0, 1) := by decide +kernel
theorem dX11_does_117 : decode cX11_does 117 = .ok (.getfield 60, 3) := by decide +kernel
theorem dX11_does_120 : decode cX11_does 120 = .ok (.lconst 0, 1) := by decide +kernel
theorem dX11_does_121 : decode cX11_does 121 = .ok (.lcmp, 1) := by decide +kernel
theorem dX11_does_122 : decode cX11_does 122 = .ok (.ifCond .ge 7, 3) := by decide +kernel
theorem dX11_does_125 : decode cX11_does 125 = .ok (.iconst 3, 1) := by decide +kernel
theorem dX11_does_126 : decode cX11_does 126 = .ok (.goto 5, 3) := by decide +kernel
theorem dX11_does_129 : decode cX11_does 129 = .ok (.iload 4, 2) := by decide +kernel
theorem dX11_does_131 : decode cX11_does 131 = .ok (.istore 4, 2) := by decide +kernel
theorem dX11_does_133 : decode cX11_does 133 = .ok (.iload 4, 2) := by decide +kernel
theorem dX11_does_135 : decode cX11_does 135 = .ok (.ifCond .ne 8, 3) := by decide +kernel
theorem dX11_does_138 : decode cX11_does 138 = .ok (.aload_n 0, 1) := by decide +kernel
theorem dX11_does_139 : decode cX11_does 139 = .ok (.iload_n 2, 1) := by decide +kernel
theorem dX11_does_140 : decode cX11_does 140 = .ok (.invokevirtual 134, 3) := by decide +kernel
theorem dX11_does_143 : decode cX11_does 143 = .ok (.iload 4, 2) := by decide +kernel
theorem dX11_does_145 : decode cX11_does 145 = .ok (.ireturn, 1) := by decide +kernel
theorem dX11_enter_0 : decode cX11_enter 0 = .ok (.aload_n 0, 1) := by decide +kernel
theorem dX11_enter_1 : decode cX11_enter 1 = .ok (.iconst 0, 1) := by decide +kernel
theorem dX11_enter_2 : decode cX11_enter 2 = .ok (.putfield 34, 3) := by decide +kernel
theorem dX11_enter_5 : decode cX11_enter 5 = .ok (.aload_n 0, 1) := by decide +kernel
theorem dX11_enter_6 : decode cX11_enter 6 = .ok (.invokevirtual 183, 3) := by decide +kernel
theorem dX11_enter_9 : decode cX11_enter 9 = .ok (.ifCond .ne 9, 3) := by decide +kernel
theorem dX11_enter_12 : decode cX11_enter 12 = .ok (.aload_n 0, 1) := by decide +kernel
theorem dX11_enter_13 : decode cX11_enter 13 = .ok (.iconst 1, 1) := by decide +kernel
theorem dX11_enter_14 : decode cX11_enter 14 = .ok (.invokevirtual 127, 3) := by decide +kernel
theorem dX11_enter_17 : decode cX11_enter 17 = .ok (.ireturn, 1) := by decide +kernel
theorem dX11_enter_18 : decode cX11_enter 18 = .ok (.aload_n 0, 1) := by decide +kernel
theorem dX11_enter_19 : decode cX11_enter 19 = .ok (.invokevirtual 130, 3) := by decide +kernel
theorem dX11_enter_22 : decode cX11_enter 22 = .ok (.aload_n 0, 1) := by decide +kernel
theorem dX11_enter_23 : decode cX11_enter 23 = .ok (.iconst 0, 1) := by decide +kernel
theorem dX11_enter_24 : decode cX11_enter 24 = .ok (.putfield 148, 3) := by decide +kernel
theorem dX11_enter_27 : decode cX11_enter 27 = .ok (.iconst 0, 1) := by decide +kernel
theorem dX11_enter_28 : decode cX11_enter 28 = .ok (.istore_n 1, 1) := by decide +kernel
theorem dX11_enter_29 : decode cX11_enter 29 = .ok (.iconst 0, 1) := by decide +kernel
theorem dX11_enter_30 : decode cX11_enter 30 = .ok (.istore_n 2, 1) := by decide +kernel
theorem dX11_enter_31 : decode cX11_enter 31 = .ok (.iload_n 1, 1) := by decide +kernel
theorem dX11_enter_32 : decode cX11_enter 32 = .ok (.aload_n 0, 1) := by decide +kernel
theorem dX11_enter_33 : decode cX11_enter 33 = .ok (.getfield 171, 3) := by decide +kernel
theorem dX11_enter_36 : decode cX11_enter 36 = .ok (.if_icmp .ge 31, 3) := by decide +kernel
theorem dX11_enter_39 : decode cX11_enter 39 = .ok (.iload_n 2, 1) := by decide +kernel
theorem dX11_enter_40 : decode cX11_enter 40 = .ok (.ifCond .ne 27, 3) := by decide +kernel
theorem dX11_enter_43 : decode cX11_enter 43 = .ok (.aload_n 0, 1) := by decide +kernel
theorem dX11_enter_44 : decode cX11_enter 44 = .ok (.bipush 24, 2) := by decide +kernel
theorem dX11_enter_46 : decode cX11_enter 46 = .ok (.iload_n 1, 1) := by decide +kernel
theorem dX11_enter_47 : decode cX11_enter 47 = .ok (.imul, 1) := by decide +kernel
theorem dX11_enter_48 : decode cX11_enter 48 = .ok (.invokevirtual 197, 3) := by decide +kernel
theorem dX11_enter_51 : decode cX11_enter 51 = .ok (.istore_n 2, 1) := by decide +kernel
theorem dX11_enter_52 : decode cX11_enter 52 = .ok (.iload_n 1, 1) := by decide +kernel
theorem dX11_enter_53 : decode cX11_enter 53 = .ok (.iload_n 2, 1) := by decide +kernel
theorem dX11_enter_54 : decode cX11_enter 54 = .ok (.ifCond .ne 7, 3) := by decide +kernel
theorem dX11_enter_57 : decode cX11_enter 57 = .ok (.iconst 1, 1) := by decide +kernel
theorem dX11_enter_58 : decode cX11_enter 58 = .ok (.goto 4, 3) := by decide +kernel
theorem dX11_enter_61 : decode cX11_enter 61 = .ok (.iconst 0, 1) := by decide +kernel
theorem dX11_enter_62 : decode cX11_enter 62 = .ok (.iadd, 1) := by decide +kernel
theorem dX11_enter_63 : decode cX11_enter 63 = .ok (.istore_n 1, 1) := by decide +kernel
theorem dX11_enter_64 : decode cX11_enter 64 = .ok (.goto (-33), 3) := by decide +kernel
theorem dX11_enter_67 : decode cX11_enter 67 = .ok (.aload_n 0, 1) := by decide +kernel
theorem dX11_enter_68 : decode cX11_enter 68 = .ok (.getfield 7, 3) := by decide +kernel
theorem dX11_enter_71 : decode cX11_enter 71 = .ok (.iconst 1, 1) := by decide +kernel
theorem dX11_enter_72 : decode cX11_enter 72 = .ok (.iload_n 2, 1) := by decide +kernel
theorem dX11_enter_73 : decode cX11_enter 73 = .ok (.ifCond .ne 7, 3) := by decide +kernel
theorem dX11_enter_76 : decode cX11_enter 76 = .ok (.iconst (-1), 1) := by decide +kernel
theorem dX11_enter_77 : decode cX11_enter 77 = .ok (.goto 4, 3) := by decide +kernel
theorem dX11_enter_80 : decode cX11_enter 80 = .ok (.iload_n 1, 1) := by decide +kernel
theorem dX11_enter_81 : decode cX11_enter 81 = .ok (.iastore, 1) := by decide +kernel
theorem dX11_enter_82 : decode cX11_enter 82 = .ok (.aload_n 0, 1) := by decide +kernel
theorem dX11_enter_83 : decode cX11_enter 83 = .ok (.getfield 7, 3) := by decide +kernel
theorem dX11_enter_86 : decode cX11_enter 86 = .ok (.iconst 2, 1) := by decide +kernel
theorem dX11_enter_87 : decode cX11_enter 87 = .ok (.iload_n 2, 1) := by decide +kernel
theorem dX11_enter_88 : decode cX11_enter 88 = .ok (.iastore, 1) := by decide +kernel
theorem dX11_enter_89 : decode cX11_enter 89 = .ok (.iload_n 1, 1) := by decide +kernel
theorem dX11_enter_90 : decode cX11_enter 90 = .ok (.ireturn, 1) := by decide +kernel
theorem dX11_hasStopped_0 : decode cX11_hasStopped 0 = .ok (.aload_n 0, 1) := by decide +kernel
theorem dX11_hasStopped_1 : decode cX11_hasStopped 1 = .ok (.iconst 0, 1) := by decide +kernel
theorem dX11_hasStopped_2 : decode cX11_hasStopped 2 = .ok (.putfield 34, 3) := by decide +kernel
theorem dX11_hasStopped_5 : decode cX11_hasStopped 5 = .ok (.aload_n 0, 1) := by decide +kernel
theorem dX11_hasStopped_6 : decode cX11_hasStopped 6 = .ok (.getfield 7, 3) := by decide +kernel
theorem dX11_hasStopped_9 : decode cX11_hasStopped 9 = .ok (.iconst 1, 1) := by decide +kernel
theorem dX11_hasStopped_10 : decode cX11_hasStopped 10 = .ok (.iaload, 1) := by decide +kernel
theorem dX11_hasStopped_11 : decode cX11_hasStopped 11 = .ok (.iconst (-1), 1) := by decide +kernel
theorem dX11_hasStopped_12 : decode cX11_hasStopped 12 = .ok (.if_icmp .eq 7, 3) := by decide +kernel
theorem dX11_hasStopped_15 : decode cX11_hasStopped 15 = .ok (.iconst 1, 1) := by decide +kernel
theorem dX11_hasStopped_16 : decode cX11_hasStopped 16 = .ok (.goto 4, 3) := by decide +kernel
theorem dX11_hasStopped_19 : decode cX11_hasStopped 19 = .ok (.iconst 0, 1) := by decide +kernel
theorem dX11_hasStopped_20 : decode cX11_hasStopped 20 = .ok (.ireturn, 1) := by decide +kernel
theorem dX11_stoppedPart_0 : decode cX11_stoppedPart 0 = .ok (.aload_n 0, 1) := by decide +kernel
theorem dX11_stoppedPart_1 : decode cX11_stoppedPart 1 = .ok (.iconst 0, 1) := by decide +kernel
theorem dX11_stoppedPart_2 : decode cX11_stoppedPart 2 = .ok (.putfield 34, 3) := by decide +kernel
theorem dX11_stoppedPart_5 : decode cX11_stoppedPart 5 = .ok (.aload_n 0, 1) := by decide +kernel
theorem dX11_stoppedPart_6 : decode cX11_stoppedPart 6 = .ok (.getfield 7, 3) := by decide +kernel
theorem dX11_stoppedPart_9 : decode cX11_stoppedPart 9 = .ok (.iconst 1, 1) := by decide +kernel
theorem dX11_stoppedPart_10 : decode cX11_stoppedPart 10 = .ok (.iaload, 1) := by decide +kernel
theorem dX11_stoppedPart_11 : decode cX11_stoppedPart 11 = .ok (.iconst (-1), 1) := by decide +kernel
theorem dX11_stoppedPart_12 : decode cX11_stoppedPart 12 = .ok (.if_icmp .ne 11, 3) := by decide +kernel
theorem dX11_stoppedPart_15 : decode cX11_stoppedPart 15 = .ok (.aload_n 0, 1) := by decide +kernel
theorem dX11_stoppedPart_16 : decode cX11_stoppedPart 16 = .ok (.iconst 1, 1) := by decide +kernel
theorem dX11_stoppedPart_17 : decode cX11_stoppedPart 17 = .ok (.invokevirtual 127, 3) := by decide +kernel
theorem dX11_stoppedPart_20 : decode cX11_stoppedPart 20 = .ok (.goto 9, 3) := by decide +kernel
theorem dX11_stoppedPart_23 : decode cX11_stoppedPart 23 = .ok (.aload_n 0, 1) := by decide +kernel
theorem dX11_stoppedPart_24 : decode cX11_stoppedPart 24 = .ok (.getfield 7, 3) := by decide +kernel
theorem dX11_stoppedPart_27 : decode cX11_stoppedPart 27 = .ok (.iconst 1, 1) := by decide +kernel
theorem dX11_stoppedPart_28 : decode cX11_stoppedPart 28 = .ok (.iaload, 1) := by decide +kernel
theorem dX11_stoppedPart_29 : decode cX11_stoppedPart 29 = .ok (.ireturn, 1) := by decide +kernel
theorem dX11_whyStopped_0 : decode cX11_whyStopped 0 = .ok (.aload_n 0, 1) := by decide +kernel
theorem dX11_whyStopped_1 : decode cX11_whyStopped 1 = .ok (.iconst 0, 1) := by decide +kernel
theorem dX11_whyStopped_2 : decode cX11_whyStopped 2 = .ok (.putfield 34, 3) := by decide +kernel
theorem dX11_whyStopped_5 : decode cX11_whyStopped 5 = .ok (.aload_n 0, 1) := by decide +kernel
theorem dX11_whyStopped_6 : decode cX11_whyStopped 6 = .ok (.getfield 7, 3) := by decide +kernel
theorem dX11_whyStopped_9 : decode cX11_whyStopped 9 = .ok (.iconst 1, 1) := by decide +kernel
theorem dX11_whyStopped_10 : decode cX11_whyStopped 10 = .ok (.iaload, 1) := by decide +kernel
theorem dX11_whyStopped_11 : decode cX11_whyStopped 11 = .ok (.iconst (-1), 1) := by decide +kernel
theorem dX11_whyStopped_12 : decode cX11_whyStopped 12 = .ok (.if_icmp .ne 11, 3) := by decide +kernel
theorem dX11_whyStopped_15 : decode cX11_whyStopped 15 = .ok (.aload_n 0, 1) := by decide +kernel
theorem dX11_whyStopped_16 : decode cX11_whyStopped 16 = .ok (.iconst 1, 1) := by decide +kernel
theorem dX11_whyStopped_17 : decode cX11_whyStopped 17 = .ok (.invokevirtual 127, 3) := by decide +kernel
theorem dX11_whyStopped_20 : decode cX11_whyStopped 20 = .ok (.goto 9, 3) := by decide +kernel
theorem dX11_whyStopped_23 : decode cX11_whyStopped 23 = .ok (.aload_n 0, 1) := by decide +kernel
theorem dX11_whyStopped_24 : decode cX11_whyStopped 24 = .ok (.getfield 7, 3) := by decide +kernel
theorem dX11_whyStopped_27 : decode cX11_whyStopped 27 = .ok (.iconst 2, 1) := by decide +kernel
theorem dX11_whyStopped_28 : decode cX11_whyStopped 28 = .ok (.iaload, 1) := by decide +kernel
theorem dX11_whyStopped_29 : decode cX11_whyStopped 29 = .ok (.ireturn, 1) := by decide +kernel
theorem dX11_undo_0 : decode cX11_undo 0 = .ok (.aload_n 0, 1) := by decide +kernel
theorem dX11_undo_1 : decode cX11_undo 1 = .ok (.iconst 0, 1) := by decide +kernel
theorem dX11_undo_2 : decode cX11_undo 2 = .ok (.putfield 34, 3) := by decide +kernel
theorem dX11_undo_5 : decode cX11_undo 5 = .ok (.aload_n 0, 1) := by decide +kernel
theorem dX11_undo_6 : decode cX11_undo 6 = .ok (.getfield 53, 3) := by decide +kernel
theorem dX11_undo_9 : decode cX11_undo 9 = .ok (.ifCond .ne 9, 3) := by decide +kernel
theorem dX11_undo_12 : decode cX11_undo 12 = .ok (.aload_n 0, 1) := by decide +kernel
theorem dX11_undo_13 : decode cX11_undo 13 = .ok (.iconst 1, 1) := by decide +kernel
theorem dX11_undo_14 : decode cX11_undo 14 = .ok (.invokevirtual 127, 3) := by decide +kernel
theorem dX11_undo_17 : decode cX11_undo 17 = .ok (.ireturn, 1) := by decide +kernel
theorem dX11_undo_18 : decode cX11_undo 18 = .ok (.aload_n 0, 1) := by decide +kernel
theorem dX11_undo_19 : decode cX11_undo 19 = .ok (.dup, 1) := by decide +kernel
theorem dX11_undo_20 : decode cX11_undo 20 = .ok (.getfield 53, 3) := by decide +kernel
theorem dX11_undo_23 : decode cX11_undo 23 = .ok (.iconst 1, 1) := by decide +kernel
theorem dX11_undo_24 : decode cX11_undo 24 = .ok (.isub, 1) := by decide +kernel
theorem dX11_undo_25 : decode cX11_undo 25 = .ok (.putfield 53, 3) := by decide +kernel
theorem dX11_undo_28 : decode cX11_undo 28 = .ok (.iconst 0, 1) := by decide +kernel
theorem dX11_undo_29 : decode cX11_undo 29 = .ok (.istore_n 1, 1) := by decide +kernel
theorem dX11_undo_30 : decode cX11_undo 30 = .ok (.iload_n 1, 1) := by decide +kernel
theorem dX11_undo_31 : decode cX11_undo 31 = .ok (.bipush 15, 2) := by decide +kernel
theorem dX11_undo_33 : decode cX11_undo 33 = .ok (.if_icmp .ge 29, 3) := by decide +kernel
theorem dX11_undo_36 : decode cX11_undo 36 = .ok (.aload_n 0, 1) := by decide +kernel
theorem dX11_undo_37 : decode cX11_undo 37 = .ok (.getfield 7, 3) := by decide +kernel
theorem dX11_undo_40 : decode cX11_undo 40 = .ok (.iload_n 1, 1) := by decide +kernel
theorem dX11_undo_41 : decode cX11_undo 41 = .ok (.aload_n 0, 1) := by decide +kernel
theorem dX11_undo_42 : decode cX11_undo 42 = .ok (.getfield 13, 3) := by decide +kernel
theorem dX11_undo_45 : decode cX11_undo 45 = .ok (.bipush 15, 2) := by decide +kernel
theorem dX11_undo_47 : decode cX11_undo 47 = .ok (.aload_n 0, 1) := by decide +kernel
theorem dX11_undo_48 : decode cX11_undo 48 = .ok (.getfield 53, 3) := by decide +kernel
theorem dX11_undo_51 : decode cX11_undo 51 = .ok (.imul, 1) := by decide +kernel
theorem dX11_undo_52 : decode cX11_undo 52 = .ok (.iload_n 1, 1) := by decide +kernel
theorem dX11_undo_53 : decode cX11_undo 53 = .ok (.iadd, 1) := by decide +kernel
theorem dX11_undo_54 : decode cX11_undo 54 = .ok (.iaload, 1) := by decide +kernel
theorem dX11_undo_55 : decode cX11_undo 55 = .ok (.iastore, 1) := by decide +kernel
theorem dX11_undo_56 : decode cX11_undo 56 = .ok (.iinc 1 1, 3) := by decide +kernel
theorem dX11_undo_59 : decode cX11_undo 59 = .ok (.goto (-29), 3) := by decide +kernel
theorem dX11_undo_62 : decode cX11_undo 62 = .ok (.aload_n 0, 1) := by decide +kernel
theorem dX11_undo_63 : decode cX11_undo 63 = .ok (.getfield 53, 3) := by decide +kernel
theorem dX11_undo_66 : decode cX11_undo 66 = .ok (.ireturn, 1) := by decide +kernel
theorem dX11_keep_0 : decode cX11_keep 0 = .ok (.aload_n 0, 1) := by decide +kernel
theorem dX11_keep_1 : decode cX11_keep 1 = .ok (.iconst 0, 1) := by decide +kernel
theorem dX11_keep_2 : decode cX11_keep 2 = .ok (.putfield 34, 3) := by decide +kernel
theorem dX11_keep_5 : decode cX11_keep 5 = .ok (.iconst 0, 1) := by decide +kernel
theorem dX11_keep_6 : decode cX11_keep 6 = .ok (.istore_n 1, 1) := by decide +kernel
theorem dX11_keep_7 : decode cX11_keep 7 = .ok (.iload_n 1, 1) := by decide +kernel
theorem dX11_keep_8 : decode cX11_keep 8 = .ok (.bipush 15, 2) := by decide +kernel
theorem dX11_keep_10 : decode cX11_keep 10 = .ok (.if_icmp .ge 21, 3) := by decide +kernel
theorem dX11_keep_13 : decode cX11_keep 13 = .ok (.aload_n 0, 1) := by decide +kernel
theorem dX11_keep_14 : decode cX11_keep 14 = .ok (.getfield 16, 3) := by decide +kernel
theorem dX11_keep_17 : decode cX11_keep 17 = .ok (.iload_n 1, 1) := by decide +kernel
theorem dX11_keep_18 : decode cX11_keep 18 = .ok (.aload_n 0, 1) := by decide +kernel
theorem dX11_keep_19 : decode cX11_keep 19 = .ok (.getfield 7, 3) := by decide +kernel
theorem dX11_keep_22 : decode cX11_keep 22 = .ok (.iload_n 1, 1) := by decide +kernel
theorem dX11_keep_23 : decode cX11_keep 23 = .ok (.iaload, 1) := by decide +kernel
theorem dX11_keep_24 : decode cX11_keep 24 = .ok (.iastore, 1) := by decide +kernel
theorem dX11_keep_25 : decode cX11_keep 25 = .ok (.iinc 1 1, 3) := by decide +kernel
theorem dX11_keep_28 : decode cX11_keep 28 = .ok (.goto (-21), 3) := by decide +kernel
theorem dX11_keep_31 : decode cX11_keep 31 = .ok (.aload_n 0, 1) := by decide +kernel
theorem dX11_keep_32 : decode cX11_keep 32 = .ok (.iconst 1, 1) := by decide +kernel
theorem dX11_keep_33 : decode cX11_keep 33 = .ok (.putfield 200, 3) := by decide +kernel
theorem dX11_keep_36 : decode cX11_keep 36 = .ok (.aload_n 0, 1) := by decide +kernel
theorem dX11_keep_37 : decode cX11_keep 37 = .ok (.getfield 7, 3) := by decide +kernel
theorem dX11_keep_40 : decode cX11_keep 40 = .ok (.iconst 0, 1) := by decide +kernel
theorem dX11_keep_41 : decode cX11_keep 41 = .ok (.iaload, 1) := by decide +kernel
theorem dX11_keep_42 : decode cX11_keep 42 = .ok (.ireturn, 1) := by decide +kernel
theorem dX11_restore_0 : decode cX11_restore 0 = .ok (.aload_n 0, 1) := by decide +kernel
theorem dX11_restore_1 : decode cX11_restore 1 = .ok (.iconst 0, 1) := by decide +kernel
theorem dX11_restore_2 : decode cX11_restore 2 = .ok (.putfield 34, 3) := by decide +kernel
theorem dX11_restore_5 : decode cX11_restore 5 = .ok (.aload_n 0, 1) := by decide +kernel
theorem dX11_restore_6 : decode cX11_restore 6 = .ok (.getfield 200, 3) := by decide +kernel
theorem dX11_restore_9 : decode cX11_restore 9 = .ok (.ifCond .ne 9, 3) := by decide +kernel
theorem dX11_restore_12 : decode cX11_restore 12 = .ok (.aload_n 0, 1) := by decide +kernel
theorem dX11_restore_13 : decode cX11_restore 13 = .ok (.iconst 1, 1) := by decide +kernel
theorem dX11_restore_14 : decode cX11_restore 14 = .ok (.invokevirtual 127, 3) := by decide +kernel
theorem dX11_restore_17 : decode cX11_restore 17 = .ok (.ireturn, 1) := by decide +kernel
theorem dX11_restore_18 : decode cX11_restore 18 = .ok (.aload_n 0, 1) := by decide +kernel
theorem dX11_restore_19 : decode cX11_restore 19 = .ok (.invokevirtual 130, 3) := by decide +kernel
theorem dX11_restore_22 : decode cX11_restore 22 = .ok (.iconst 0, 1) := by decide +kernel
theorem dX11_restore_23 : decode cX11_restore 23 = .ok (.istore_n 1, 1) := by decide +kernel
theorem dX11_restore_24 : decode cX11_restore 24 = .ok (.iload_n 1, 1) := by decide +kernel
theorem dX11_restore_25 : decode cX11_restore 25 = .ok (.bipush 15, 2) := by decide +kernel
theorem dX11_restore_27 : decode cX11_restore 27 = .ok (.if_icmp .ge 21, 3) := by decide +kernel
theorem dX11_restore_30 : decode cX11_restore 30 = .ok (.aload_n 0, 1) := by decide +kernel
theorem dX11_restore_31 : decode cX11_restore 31 = .ok (.getfield 7, 3) := by decide +kernel
theorem dX11_restore_34 : decode cX11_restore 34 = .ok (.iload_n 1, 1) := by decide +kernel
theorem dX11_restore_35 : decode cX11_restore 35 = .ok (.aload_n 0, 1) := by decide +kernel
theorem dX11_restore_36 : decode cX11_restore 36 = .ok (.getfield 16, 3) := by decide +kernel
theorem dX11_restore_39 : decode cX11_restore 39 = .ok (.iload_n 1, 1) := by decide +kernel
theorem dX11_restore_40 : decode cX11_restore 40 = .ok (.iaload, 1) := by decide +kernel
theorem dX11_restore_41 : decode cX11_restore 41 = .ok (.iastore, 1) := by decide +kernel
theorem dX11_restore_42 : decode cX11_restore 42 = .ok (.iinc 1 1, 3) := by decide +kernel
theorem dX11_restore_45 : decode cX11_restore 45 = .ok (.goto (-21), 3) := by decide +kernel
theorem dX11_restore_48 : decode cX11_restore 48 = .ok (.aload_n 0, 1) := by decide +kernel
theorem dX11_restore_49 : decode cX11_restore 49 = .ok (.getfield 7, 3) := by decide +kernel
theorem dX11_restore_52 : decode cX11_restore 52 = .ok (.iconst 0, 1) := by decide +kernel
theorem dX11_restore_53 : decode cX11_restore 53 = .ok (.iaload, 1) := by decide +kernel
theorem dX11_restore_54 : decode cX11_restore 54 = .ok (.ireturn, 1) := by decide +kernel
theorem dX11_savedStates_0 : decode cX11_savedStates 0 = .ok (.aload_n 0, 1) := by decide +kernel
theorem dX11_savedStates_1 : decode cX11_savedStates 1 = .ok (.iconst 0, 1) := by decide +kernel
theorem dX11_savedStates_2 : decode cX11_savedStates 2 = .ok (.putfield 34, 3) := by decide +kernel
theorem dX11_savedStates_5 : decode cX11_savedStates 5 = .ok (.aload_n 0, 1) := by decide +kernel
theorem dX11_savedStates_6 : decode cX11_savedStates 6 = .ok (.getfield 53, 3) := by decide +kernel
theorem dX11_savedStates_9 : decode cX11_savedStates 9 = .ok (.ireturn, 1) := by decide +kernel
theorem dX11_base_0 : decode cX11_base 0 = .ok (.aload_n 0, 1) := by decide +kernel
theorem dX11_base_1 : decode cX11_base 1 = .ok (.iconst 0, 1) := by decide +kernel
theorem dX11_base_2 : decode cX11_base 2 = .ok (.putfield 34, 3) := by decide +kernel
theorem dX11_base_5 : decode cX11_base 5 = .ok (.aload_n 0, 1) := by decide +kernel
theorem dX11_base_6 : decode cX11_base 6 = .ok (.getfield 7, 3) := by decide +kernel
theorem dX11_base_9 : decode cX11_base 9 = .ok (.iconst 0, 1) := by decide +kernel
theorem dX11_base_10 : decode cX11_base 10 = .ok (.iaload, 1) := by decide +kernel
theorem dX11_base_11 : decode cX11_base 11 = .ok (.ireturn, 1) := by decide +kernel
theorem dX11_numerator_0 : decode cX11_numerator 0 = .ok (.aload_n 0, 1) := by decide +kernel
theorem dX11_numerator_1 : decode cX11_numerator 1 = .ok (.iconst 0, 1) := by decide +kernel
theorem dX11_numerator_2 : decode cX11_numerator 2 = .ok (.putfield 34, 3) := by decide +kernel
theorem dX11_numerator_5 : decode cX11_numerator 5 = .ok (.iload_n 1, 1) := by decide +kernel
theorem dX11_numerator_6 : decode cX11_numerator 6 = .ok (.invokestatic 42, 3) := by decide +kernel
theorem dX11_numerator_9 : decode cX11_numerator 9 = .ok (.ifCond .eq 11, 3) := by decide +kernel
theorem dX11_numerator_12 : decode cX11_numerator 12 = .ok (.aload_n 0, 1) := by decide +kernel
theorem dX11_numerator_13 : decode cX11_numerator 13 = .ok (.iload_n 1, 1) := by decide +kernel
theorem dX11_numerator_14 : decode cX11_numerator 14 = .ok (.invokevirtual 46, 3) := by decide +kernel
theorem dX11_numerator_17 : decode cX11_numerator 17 = .ok (.goto 8, 3) := by decide +kernel
theorem dX11_numerator_20 : decode cX11_numerator 20 = .ok (.aload_n 0, 1) := by decide +kernel
theorem dX11_numerator_21 : decode cX11_numerator 21 = .ok (.iconst 1, 1) := by decide +kernel
theorem dX11_numerator_22 : decode cX11_numerator 22 = .ok (.invokevirtual 127, 3) := by decide +kernel
theorem dX11_numerator_25 : decode cX11_numerator 25 = .ok (.ireturn, 1) := by decide +kernel
theorem dX11_denominator_0 : decode cX11_denominator 0 = .ok (.aload_n 0, 1) := by decide +kernel
theorem dX11_denominator_1 : decode cX11_denominator 1 = .ok (.iconst 0, 1) := by decide +kernel
theorem dX11_denominator_2 : decode cX11_denominator 2 = .ok (.putfield 34, 3) := by decide +kernel
theorem dX11_denominator_5 : decode cX11_denominator 5 = .ok (.iload_n 1, 1) := by decide +kernel
theorem dX11_denominator_6 : decode cX11_denominator 6 = .ok (.invokestatic 42, 3) := by decide +kernel
theorem dX11_denominator_9 : decode cX11_denominator 9 = .ok (.ifCond .eq 11, 3) := by decide +kernel
theorem dX11_denominator_12 : decode cX11_denominator 12 = .ok (.aload_n 0, 1) := by decide +kernel
theorem dX11_denominator_13 : decode cX11_denominator 13 = .ok (.iload_n 1, 1) := by decide +kernel
theorem dX11_denominator_14 : decode cX11_denominator 14 = .ok (.invokevirtual 50, 3) := by decide +kernel
theorem dX11_denominator_17 : decode cX11_denominator 17 = .ok (.goto 8, 3) := by decide +kernel
theorem dX11_denominator_20 : decode cX11_denominator 20 = .ok (.aload_n 0, 1) := by decide +kernel
theorem dX11_denominator_21 : decode cX11_denominator 21 = .ok (.iconst 1, 1) := by decide +kernel
theorem dX11_denominator_22 : decode cX11_denominator 22 = .ok (.invokevirtual 127, 3) := by decide +kernel
theorem dX11_denominator_25 : decode cX11_denominator 25 = .ok (.ireturn, 1) := by decide +kernel
theorem dX11_whole_0 : decode cX11_whole 0 = .ok (.aload_n 0, 1) := by decide +kernel
theorem dX11_whole_1 : decode cX11_whole 1 = .ok (.iconst 0, 1) := by decide +kernel
theorem dX11_whole_2 : decode cX11_whole 2 = .ok (.putfield 34, 3) := by decide +kernel
theorem dX11_whole_5 : decode cX11_whole 5 = .ok (.iload_n 1, 1) := by decide +kernel
theorem dX11_whole_6 : decode cX11_whole 6 = .ok (.invokestatic 42, 3) := by decide +kernel
theorem dX11_whole_9 : decode cX11_whole 9 = .ok (.ifCond .eq 11, 3) := by decide +kernel
theorem dX11_whole_12 : decode cX11_whole 12 = .ok (.aload_n 0, 1) := by decide +kernel
theorem dX11_whole_13 : decode cX11_whole 13 = .ok (.iload_n 1, 1) := by decide +kernel
theorem dX11_whole_14 : decode cX11_whole 14 = .ok (.invokevirtual 82, 3) := by decide +kernel
theorem dX11_whole_17 : decode cX11_whole 17 = .ok (.goto 8, 3) := by decide +kernel
theorem dX11_whole_20 : decode cX11_whole 20 = .ok (.aload_n 0, 1) := by decide +kernel
theorem dX11_whole_21 : decode cX11_whole 21 = .ok (.iconst 1, 1) := by decide +kernel
theorem dX11_whole_22 : decode cX11_whole 22 = .ok (.invokevirtual 127, 3) := by decide +kernel
theorem dX11_whole_25 : decode cX11_whole 25 = .ok (.ireturn, 1) := by decide +kernel
theorem dX11_compare_0 : decode cX11_compare 0 = .ok (.aload_n 0, 1) := by decide +kernel
theorem dX11_compare_1 : decode cX11_compare 1 = .ok (.iconst 0, 1) := by decide +kernel
theorem dX11_compare_2 : decode cX11_compare 2 = .ok (.putfield 34, 3) := by decide +kernel
theorem dX11_compare_5 : decode cX11_compare 5 = .ok (.iload_n 1, 1) := by decide +kernel
theorem dX11_compare_6 : decode cX11_compare 6 = .ok (.iload_n 2, 1) := by decide +kernel
theorem dX11_compare_7 : decode cX11_compare 7 = .ok (.invokestatic 137, 3) := by decide +kernel
theorem dX11_compare_10 : decode cX11_compare 10 = .ok (.ifCond .eq 12, 3) := by decide +kernel
theorem dX11_compare_13 : decode cX11_compare 13 = .ok (.aload_n 0, 1) := by decide +kernel
theorem dX11_compare_14 : decode cX11_compare 14 = .ok (.iload_n 1, 1) := by decide +kernel
theorem dX11_compare_15 : decode cX11_compare 15 = .ok (.iload_n 2, 1) := by decide +kernel
theorem dX11_compare_16 : decode cX11_compare 16 = .ok (.invokevirtual 78, 3) := by decide +kernel
theorem dX11_compare_19 : decode cX11_compare 19 = .ok (.goto 8, 3) := by decide +kernel
theorem dX11_compare_22 : decode cX11_compare 22 = .ok (.aload_n 0, 1) := by decide +kernel
theorem dX11_compare_23 : decode cX11_compare 23 = .ok (.iconst 1, 1) := by decide +kernel
theorem dX11_compare_24 : decode cX11_compare 24 = .ok (.invokevirtual 127, 3) := by decide +kernel
theorem dX11_compare_27 : decode cX11_compare 27 = .ok (.ireturn, 1) := by decide +kernel
theorem dX11_richest_0 : decode cX11_richest 0 = .ok (.aload_n 0, 1) := by decide +kernel
theorem dX11_richest_1 : decode cX11_richest 1 = .ok (.iconst 0, 1) := by decide +kernel
theorem dX11_richest_2 : decode cX11_richest 2 = .ok (.putfield 34, 3) := by decide +kernel
theorem dX11_richest_5 : decode cX11_richest 5 = .ok (.aload_n 0, 1) := by decide +kernel
theorem dX11_richest_6 : decode cX11_richest 6 = .ok (.invokevirtual 203, 3) := by decide +kernel
theorem dX11_richest_9 : decode cX11_richest 9 = .ok (.ireturn, 1) := by decide +kernel
theorem dX11_hasDigits_0 : decode cX11_hasDigits 0 = .ok (.aload_n 0, 1) := by decide +kernel
theorem dX11_hasDigits_1 : decode cX11_hasDigits 1 = .ok (.iload_n 1, 1) := by decide +kernel
theorem dX11_hasDigits_2 : decode cX11_hasDigits 2 = .ok (.invokestatic 42, 3) := by decide +kernel
theorem dX11_hasDigits_5 : decode cX11_hasDigits 5 = .ok (.ifCond .eq 7, 3) := by decide +kernel
theorem dX11_hasDigits_8 : decode cX11_hasDigits 8 = .ok (.iconst 0, 1) := by decide +kernel
theorem dX11_hasDigits_9 : decode cX11_hasDigits 9 = .ok (.goto 4, 3) := by decide +kernel
theorem dX11_hasDigits_12 : decode cX11_hasDigits 12 = .ok (.iconst 1, 1) := by decide +kernel
theorem dX11_hasDigits_13 : decode cX11_hasDigits 13 = .ok (.putfield 34, 3) := by decide +kernel
theorem dX11_hasDigits_16 : decode cX11_hasDigits 16 = .ok (.aload_n 0, 1) := by decide +kernel
theorem dX11_hasDigits_17 : decode cX11_hasDigits 17 = .ok (.getfield 34, 3) := by decide +kernel
theorem dX11_hasDigits_20 : decode cX11_hasDigits 20 = .ok (.ifCond .ne 8, 3) := by decide +kernel
theorem dX11_hasDigits_23 : decode cX11_hasDigits 23 = .ok (.aload_n 0, 1) := by decide +kernel
theorem dX11_hasDigits_24 : decode cX11_hasDigits 24 = .ok (.iload_n 1, 1) := by decide +kernel
theorem dX11_hasDigits_25 : decode cX11_hasDigits 25 = .ok (.invokevirtual 88, 3) := by decide +kernel
theorem dX11_hasDigits_28 : decode cX11_hasDigits 28 = .ok (.aload_n 0, 1) := by decide +kernel
theorem dX11_hasDigits_29 : decode cX11_hasDigits 29 = .ok (.getfield 34, 3) := by decide +kernel
theorem dX11_hasDigits_32 : decode cX11_hasDigits 32 = .ok (.ifCond .ne 7, 3) := by decide +kernel
theorem dX11_hasDigits_35 : decode cX11_hasDigits 35 = .ok (.iconst 1, 1) := by decide +kernel
theorem dX11_hasDigits_36 : decode cX11_hasDigits 36 = .ok (.goto 4, 3) := by decide +kernel
theorem dX11_hasDigits_39 : decode cX11_hasDigits 39 = .ok (.iconst 0, 1) := by decide +kernel
theorem dX11_hasDigits_40 : decode cX11_hasDigits 40 = .ok (.ireturn, 1) := by decide +kernel
theorem dX11_wholeDigits_0 : decode cX11_wholeDigits 0 = .ok (.aload_n 0, 1) := by decide +kernel
theorem dX11_wholeDigits_1 : decode cX11_wholeDigits 1 = .ok (.iload_n 1, 1) := by decide +kernel
theorem dX11_wholeDigits_2 : decode cX11_wholeDigits 2 = .ok (.invokevirtual 206, 3) := by decide +kernel
theorem dX11_wholeDigits_5 : decode cX11_wholeDigits 5 = .ok (.ifCond .eq 10, 3) := by decide +kernel
theorem dX11_wholeDigits_8 : decode cX11_wholeDigits 8 = .ok (.aload_n 0, 1) := by decide +kernel
theorem dX11_wholeDigits_9 : decode cX11_wholeDigits 9 = .ok (.getfield 85, 3) := by decide +kernel
theorem dX11_wholeDigits_12 : decode cX11_wholeDigits 12 = .ok (.goto 4, 3) := by decide +kernel
theorem dX11_wholeDigits_15 : decode cX11_wholeDigits 15 = .ok (.iconst 0, 1) := by decide +kernel
theorem dX11_wholeDigits_16 : decode cX11_wholeDigits 16 = .ok (.ireturn, 1) := by decide +kernel
theorem dX11_tellsDigit_0 : decode cX11_tellsDigit 0 = .ok (.aload_n 0, 1) := by decide +kernel
theorem dX11_tellsDigit_1 : decode cX11_tellsDigit 1 = .ok (.iload_n 1, 1) := by decide +kernel
theorem dX11_tellsDigit_2 : decode cX11_tellsDigit 2 = .ok (.invokevirtual 206, 3) := by decide +kernel
theorem dX11_tellsDigit_5 : decode cX11_tellsDigit 5 = .ok (.ifCond .ne 5, 3) := by decide +kernel
theorem dX11_tellsDigit_8 : decode cX11_tellsDigit 8 = .ok (.iconst 0, 1) := by decide +kernel
theorem dX11_tellsDigit_9 : decode cX11_tellsDigit 9 = .ok (.ireturn, 1) := by decide +kernel
theorem dX11_tellsDigit_10 : decode cX11_tellsDigit 10 = .ok (.iload_n 2, 1) := by decide +kernel
theorem dX11_tellsDigit_11 : decode cX11_tellsDigit 11 = .ok (.iconst 0, 1) := by decide +kernel
theorem dX11_tellsDigit_12 : decode cX11_tellsDigit 12 = .ok (.aload_n 0, 1) := by decide +kernel
theorem dX11_tellsDigit_13 : decode cX11_tellsDigit 13 = .ok (.getfield 85, 3) := by decide +kernel
theorem dX11_tellsDigit_16 : decode cX11_tellsDigit 16 = .ok (.iconst 1, 1) := by decide +kernel
theorem dX11_tellsDigit_17 : decode cX11_tellsDigit 17 = .ok (.isub, 1) := by decide +kernel
theorem dX11_tellsDigit_18 : decode cX11_tellsDigit 18 = .ok (.invokestatic 38, 3) := by decide +kernel
theorem dX11_tellsDigit_21 : decode cX11_tellsDigit 21 = .ok (.ifCond .eq 12, 3) := by decide +kernel
theorem dX11_tellsDigit_24 : decode cX11_tellsDigit 24 = .ok (.aload_n 0, 1) := by decide +kernel
theorem dX11_tellsDigit_25 : decode cX11_tellsDigit 25 = .ok (.getfield 25, 3) := by decide +kernel
theorem dX11_tellsDigit_28 : decode cX11_tellsDigit 28 = .ok (.iload_n 2, 1) := by decide +kernel
theorem dX11_tellsDigit_29 : decode cX11_tellsDigit 29 = .ok (.iaload, 1) := by decide +kernel
theorem dX11_tellsDigit_30 : decode cX11_tellsDigit 30 = .ok (.goto 8, 3) := by decide +kernel
theorem dX11_tellsDigit_33 : decode cX11_tellsDigit 33 = .ok (.aload_n 0, 1) := by decide +kernel
theorem dX11_tellsDigit_34 : decode cX11_tellsDigit 34 = .ok (.iconst 1, 1) := by decide +kernel
theorem dX11_tellsDigit_35 : decode cX11_tellsDigit 35 = .ok (.invokevirtual 127, 3) := by decide +kernel
theorem dX11_tellsDigit_38 : decode cX11_tellsDigit 38 = .ok (.ireturn, 1) := by decide +kernel
theorem dX11_wholeDigit_0 : decode cX11_wholeDigit 0 = .ok (.aload_n 0, 1) := by decide +kernel
theorem dX11_wholeDigit_1 : decode cX11_wholeDigit 1 = .ok (.iload_n 1, 1) := by decide +kernel
theorem dX11_wholeDigit_2 : decode cX11_wholeDigit 2 = .ok (.iload_n 2, 1) := by decide +kernel
theorem dX11_wholeDigit_3 : decode cX11_wholeDigit 3 = .ok (.invokevirtual 209, 3) := by decide +kernel
theorem dX11_wholeDigit_6 : decode cX11_wholeDigit 6 = .ok (.ireturn, 1) := by decide +kernel
theorem dX11_wholeDigitByPowers_0 : decode cX11_wholeDigitByPowers 0 = .ok (.aload_n 0, 1) := by decide +kernel
theorem dX11_wholeDigitByPowers_1 : decode cX11_wholeDigitByPowers 1 = .ok (.iload_n 1, 1) := by decide +kernel
theorem dX11_wholeDigitByPowers_2 : decode cX11_wholeDigitByPowers 2 = .ok (.iload_n 2, 1) := by decide +kernel
theorem dX11_wholeDigitByPowers_3 : decode cX11_wholeDigitByPowers 3 = .ok (.invokevirtual 209, 3) := by decide +kernel
theorem dX11_wholeDigitByPowers_6 : decode cX11_wholeDigitByPowers 6 = .ok (.ireturn, 1) := by decide +kernel
theorem dX11_digitSum_0 : decode cX11_digitSum 0 = .ok (.aload_n 0, 1) := by decide +kernel
theorem dX11_digitSum_1 : decode cX11_digitSum 1 = .ok (.iconst 0, 1) := by decide +kernel
theorem dX11_digitSum_2 : decode cX11_digitSum 2 = .ok (.putfield 34, 3) := by decide +kernel
theorem dX11_digitSum_5 : decode cX11_digitSum 5 = .ok (.iload_n 1, 1) := by decide +kernel
theorem dX11_digitSum_6 : decode cX11_digitSum 6 = .ok (.invokestatic 42, 3) := by decide +kernel
theorem dX11_digitSum_9 : decode cX11_digitSum 9 = .ok (.ifCond .eq 11, 3) := by decide +kernel
theorem dX11_digitSum_12 : decode cX11_digitSum 12 = .ok (.aload_n 0, 1) := by decide +kernel
theorem dX11_digitSum_13 : decode cX11_digitSum 13 = .ok (.iload_n 1, 1) := by decide +kernel
theorem dX11_digitSum_14 : decode cX11_digitSum 14 = .ok (.invokevirtual 212, 3) := by decide +kernel
theorem dX11_digitSum_17 : decode cX11_digitSum 17 = .ok (.goto 8, 3) := by decide +kernel
theorem dX11_digitSum_20 : decode cX11_digitSum 20 = .ok (.aload_n 0, 1) := by decide +kernel
theorem dX11_digitSum_21 : decode cX11_digitSum 21 = .ok (.iconst 1, 1) := by decide +kernel
theorem dX11_digitSum_22 : decode cX11_digitSum 22 = .ok (.invokevirtual 127, 3) := by decide +kernel
theorem dX11_digitSum_25 : decode cX11_digitSum 25 = .ok (.ireturn, 1) := by decide +kernel
theorem dX11_left_0 : decode cX11_left 0 = .ok (.aload_n 0, 1) := by decide +kernel
theorem dX11_left_1 : decode cX11_left 1 = .ok (.iconst 0, 1) := by decide +kernel
theorem dX11_left_2 : decode cX11_left 2 = .ok (.putfield 34, 3) := by decide +kernel
theorem dX11_left_5 : decode cX11_left 5 = .ok (.iload_n 1, 1) := by decide +kernel
theorem dX11_left_6 : decode cX11_left 6 = .ok (.invokestatic 42, 3) := by decide +kernel
theorem dX11_left_9 : decode cX11_left 9 = .ok (.ifCond .eq 20, 3) := by decide +kernel
theorem dX11_left_12 : decode cX11_left 12 = .ok (.aload_n 0, 1) := by decide +kernel
theorem dX11_left_13 : decode cX11_left 13 = .ok (.iload_n 1, 1) := by decide +kernel
theorem dX11_left_14 : decode cX11_left 14 = .ok (.invokevirtual 82, 3) := by decide +kernel
theorem dX11_left_17 : decode cX11_left 17 = .ok (.aload_n 0, 1) := by decide +kernel
theorem dX11_left_18 : decode cX11_left 18 = .ok (.getfield 7, 3) := by decide +kernel
theorem dX11_left_21 : decode cX11_left 21 = .ok (.iconst 0, 1) := by decide +kernel
theorem dX11_left_22 : decode cX11_left 22 = .ok (.iaload, 1) := by decide +kernel
theorem dX11_left_23 : decode cX11_left 23 = .ok (.iconst 1, 1) := by decide +kernel
theorem dX11_left_24 : decode cX11_left 24 = .ok (.isub, 1) := by decide +kernel
theorem dX11_left_25 : decode cX11_left 25 = .ok (.irem, 1) := by decide +kernel
theorem dX11_left_26 : decode cX11_left 26 = .ok (.goto 8, 3) := by decide +kernel
theorem dX11_left_29 : decode cX11_left 29 = .ok (.aload_n 0, 1) := by decide +kernel
theorem dX11_left_30 : decode cX11_left 30 = .ok (.iconst 1, 1) := by decide +kernel
theorem dX11_left_31 : decode cX11_left 31 = .ok (.invokevirtual 127, 3) := by decide +kernel
theorem dX11_left_34 : decode cX11_left 34 = .ok (.ireturn, 1) := by decide +kernel
theorem dX11_leftByDigits_0 : decode cX11_leftByDigits 0 = .ok (.aload_n 0, 1) := by decide +kernel
theorem dX11_leftByDigits_1 : decode cX11_leftByDigits 1 = .ok (.iload_n 1, 1) := by decide +kernel
theorem dX11_leftByDigits_2 : decode cX11_leftByDigits 2 = .ok (.invokevirtual 215, 3) := by decide +kernel
theorem dX11_leftByDigits_5 : decode cX11_leftByDigits 5 = .ok (.ireturn, 1) := by decide +kernel
theorem dX11_leftByDividing_0 : decode cX11_leftByDividing 0 = .ok (.aload_n 0, 1) := by decide +kernel
theorem dX11_leftByDividing_1 : decode cX11_leftByDividing 1 = .ok (.iload_n 1, 1) := by decide +kernel
theorem dX11_leftByDividing_2 : decode cX11_leftByDividing 2 = .ok (.invokevirtual 215, 3) := by decide +kernel
theorem dX11_leftByDividing_5 : decode cX11_leftByDividing 5 = .ok (.ireturn, 1) := by decide +kernel
theorem dX11_headLength_0 : decode cX11_headLength 0 = .ok (.aload_n 0, 1) := by decide +kernel
theorem dX11_headLength_1 : decode cX11_headLength 1 = .ok (.iconst 0, 1) := by decide +kernel
theorem dX11_headLength_2 : decode cX11_headLength 2 = .ok (.putfield 34, 3) := by decide +kernel
theorem dX11_headLength_5 : decode cX11_headLength 5 = .ok (.iload_n 1, 1) := by decide +kernel
theorem dX11_headLength_6 : decode cX11_headLength 6 = .ok (.invokestatic 42, 3) := by decide +kernel
theorem dX11_headLength_9 : decode cX11_headLength 9 = .ok (.ifCond .eq 20, 3) := by decide +kernel
theorem dX11_headLength_12 : decode cX11_headLength 12 = .ok (.aload_n 0, 1) := by decide +kernel
theorem dX11_headLength_13 : decode cX11_headLength 13 = .ok (.iload_n 1, 1) := by decide +kernel
theorem dX11_headLength_14 : decode cX11_headLength 14 = .ok (.invokevirtual 50, 3) := by decide +kernel
theorem dX11_headLength_17 : decode cX11_headLength 17 = .ok (.aload_n 0, 1) := by decide +kernel
theorem dX11_headLength_18 : decode cX11_headLength 18 = .ok (.getfield 7, 3) := by decide +kernel
theorem dX11_headLength_21 : decode cX11_headLength 21 = .ok (.iconst 0, 1) := by decide +kernel
theorem dX11_headLength_22 : decode cX11_headLength 22 = .ok (.iaload, 1) := by decide +kernel
theorem dX11_headLength_23 : decode cX11_headLength 23 = .ok (.invokestatic 92, 3) := by decide +kernel
theorem dX11_headLength_26 : decode cX11_headLength 26 = .ok (.goto 8, 3) := by decide +kernel
theorem dX11_headLength_29 : decode cX11_headLength 29 = .ok (.aload_n 0, 1) := by decide +kernel
theorem dX11_headLength_30 : decode cX11_headLength 30 = .ok (.iconst 1, 1) := by decide +kernel
theorem dX11_headLength_31 : decode cX11_headLength 31 = .ok (.invokevirtual 127, 3) := by decide +kernel
theorem dX11_headLength_34 : decode cX11_headLength 34 = .ok (.ireturn, 1) := by decide +kernel
theorem dX11_tellsPeriod_0 : decode cX11_tellsPeriod 0 = .ok (.aload_n 0, 1) := by decide +kernel
theorem dX11_tellsPeriod_1 : decode cX11_tellsPeriod 1 = .ok (.iconst 0, 1) := by decide +kernel
theorem dX11_tellsPeriod_2 : decode cX11_tellsPeriod 2 = .ok (.putfield 34, 3) := by decide +kernel
theorem dX11_tellsPeriod_5 : decode cX11_tellsPeriod 5 = .ok (.iload_n 1, 1) := by decide +kernel
theorem dX11_tellsPeriod_6 : decode cX11_tellsPeriod 6 = .ok (.invokestatic 42, 3) := by decide +kernel
theorem dX11_tellsPeriod_9 : decode cX11_tellsPeriod 9 = .ok (.ifCond .eq 20, 3) := by decide +kernel
theorem dX11_tellsPeriod_12 : decode cX11_tellsPeriod 12 = .ok (.aload_n 0, 1) := by decide +kernel
theorem dX11_tellsPeriod_13 : decode cX11_tellsPeriod 13 = .ok (.iload_n 1, 1) := by decide +kernel
theorem dX11_tellsPeriod_14 : decode cX11_tellsPeriod 14 = .ok (.invokevirtual 50, 3) := by decide +kernel
theorem dX11_tellsPeriod_17 : decode cX11_tellsPeriod 17 = .ok (.aload_n 0, 1) := by decide +kernel
theorem dX11_tellsPeriod_18 : decode cX11_tellsPeriod 18 = .ok (.getfield 7, 3) := by decide +kernel
theorem dX11_tellsPeriod_21 : decode cX11_tellsPeriod 21 = .ok (.iconst 0, 1) := by decide +kernel
theorem dX11_tellsPeriod_22 : decode cX11_tellsPeriod 22 = .ok (.iaload, 1) := by decide +kernel
theorem dX11_tellsPeriod_23 : decode cX11_tellsPeriod 23 = .ok (.invokestatic 95, 3) := by decide +kernel
theorem dX11_tellsPeriod_26 : decode cX11_tellsPeriod 26 = .ok (.goto 8, 3) := by decide +kernel
theorem dX11_tellsPeriod_29 : decode cX11_tellsPeriod 29 = .ok (.aload_n 0, 1) := by decide +kernel
theorem dX11_tellsPeriod_30 : decode cX11_tellsPeriod 30 = .ok (.iconst 1, 1) := by decide +kernel
theorem dX11_tellsPeriod_31 : decode cX11_tellsPeriod 31 = .ok (.invokevirtual 127, 3) := by decide +kernel
theorem dX11_tellsPeriod_34 : decode cX11_tellsPeriod 34 = .ok (.ireturn, 1) := by decide +kernel
theorem dX11_periodLength_0 : decode cX11_periodLength 0 = .ok (.aload_n 0, 1) := by decide +kernel
theorem dX11_periodLength_1 : decode cX11_periodLength 1 = .ok (.iload_n 1, 1) := by decide +kernel
theorem dX11_periodLength_2 : decode cX11_periodLength 2 = .ok (.invokevirtual 218, 3) := by decide +kernel
theorem dX11_periodLength_5 : decode cX11_periodLength 5 = .ok (.ireturn, 1) := by decide +kernel
theorem dX11_periodByOrder_0 : decode cX11_periodByOrder 0 = .ok (.aload_n 0, 1) := by decide +kernel
theorem dX11_periodByOrder_1 : decode cX11_periodByOrder 1 = .ok (.iload_n 1, 1) := by decide +kernel
theorem dX11_periodByOrder_2 : decode cX11_periodByOrder 2 = .ok (.invokevirtual 218, 3) := by decide +kernel
theorem dX11_periodByOrder_5 : decode cX11_periodByOrder 5 = .ok (.ireturn, 1) := by decide +kernel
theorem dX11_digitBehind_0 : decode cX11_digitBehind 0 = .ok (.aload_n 0, 1) := by decide +kernel
theorem dX11_digitBehind_1 : decode cX11_digitBehind 1 = .ok (.iconst 0, 1) := by decide +kernel
theorem dX11_digitBehind_2 : decode cX11_digitBehind 2 = .ok (.putfield 34, 3) := by decide +kernel
theorem dX11_digitBehind_5 : decode cX11_digitBehind 5 = .ok (.iload_n 1, 1) := by decide +kernel
theorem dX11_digitBehind_6 : decode cX11_digitBehind 6 = .ok (.invokestatic 42, 3) := by decide +kernel
theorem dX11_digitBehind_9 : decode cX11_digitBehind 9 = .ok (.ifCond .ne 9, 3) := by decide +kernel
theorem dX11_digitBehind_12 : decode cX11_digitBehind 12 = .ok (.aload_n 0, 1) := by decide +kernel
theorem dX11_digitBehind_13 : decode cX11_digitBehind 13 = .ok (.iconst 1, 1) := by decide +kernel
theorem dX11_digitBehind_14 : decode cX11_digitBehind 14 = .ok (.invokevirtual 127, 3) := by decide +kernel
theorem dX11_digitBehind_17 : decode cX11_digitBehind 17 = .ok (.ireturn, 1) := by decide +kernel
theorem dX11_digitBehind_18 : decode cX11_digitBehind 18 = .ok (.iload_n 2, 1) := by decide +kernel
theorem dX11_digitBehind_19 : decode cX11_digitBehind 19 = .ok (.iconst 0, 1) := by decide +kernel
theorem dX11_digitBehind_20 : decode cX11_digitBehind 20 = .ok (.sipush 2000, 3) := by decide +kernel
theorem dX11_digitBehind_23 : decode cX11_digitBehind 23 = .ok (.invokestatic 38, 3) := by decide +kernel
theorem dX11_digitBehind_26 : decode cX11_digitBehind 26 = .ok (.ifCond .eq 12, 3) := by decide +kernel
theorem dX11_digitBehind_29 : decode cX11_digitBehind 29 = .ok (.aload_n 0, 1) := by decide +kernel
theorem dX11_digitBehind_30 : decode cX11_digitBehind 30 = .ok (.iload_n 1, 1) := by decide +kernel
theorem dX11_digitBehind_31 : decode cX11_digitBehind 31 = .ok (.iload_n 2, 1) := by decide +kernel
theorem dX11_digitBehind_32 : decode cX11_digitBehind 32 = .ok (.invokevirtual 101, 3) := by decide +kernel
theorem dX11_digitBehind_35 : decode cX11_digitBehind 35 = .ok (.goto 8, 3) := by decide +kernel
theorem dX11_digitBehind_38 : decode cX11_digitBehind 38 = .ok (.aload_n 0, 1) := by decide +kernel
theorem dX11_digitBehind_39 : decode cX11_digitBehind 39 = .ok (.iconst 2, 1) := by decide +kernel
theorem dX11_digitBehind_40 : decode cX11_digitBehind 40 = .ok (.invokevirtual 127, 3) := by decide +kernel
theorem dX11_digitBehind_43 : decode cX11_digitBehind 43 = .ok (.ireturn, 1) := by decide +kernel
theorem dX11_shortestBase_0 : decode cX11_shortestBase 0 = .ok (.aload_n 0, 1) := by decide +kernel
theorem dX11_shortestBase_1 : decode cX11_shortestBase 1 = .ok (.iconst 0, 1) := by decide +kernel
theorem dX11_shortestBase_2 : decode cX11_shortestBase 2 = .ok (.putfield 34, 3) := by decide +kernel
theorem dX11_shortestBase_5 : decode cX11_shortestBase 5 = .ok (.iload_n 1, 1) := by decide +kernel
theorem dX11_shortestBase_6 : decode cX11_shortestBase 6 = .ok (.invokestatic 42, 3) := by decide +kernel
theorem dX11_shortestBase_9 : decode cX11_shortestBase 9 = .ok (.ifCond .eq 11, 3) := by decide +kernel
theorem dX11_shortestBase_12 : decode cX11_shortestBase 12 = .ok (.aload_n 0, 1) := by decide +kernel
theorem dX11_shortestBase_13 : decode cX11_shortestBase 13 = .ok (.iload_n 1, 1) := by decide +kernel
theorem dX11_shortestBase_14 : decode cX11_shortestBase 14 = .ok (.invokevirtual 221, 3) := by decide +kernel
theorem dX11_shortestBase_17 : decode cX11_shortestBase 17 = .ok (.goto 8, 3) := by decide +kernel
theorem dX11_shortestBase_20 : decode cX11_shortestBase 20 = .ok (.aload_n 0, 1) := by decide +kernel
theorem dX11_shortestBase_21 : decode cX11_shortestBase 21 = .ok (.iconst 1, 1) := by decide +kernel
theorem dX11_shortestBase_22 : decode cX11_shortestBase 22 = .ok (.invokevirtual 127, 3) := by decide +kernel
theorem dX11_shortestBase_25 : decode cX11_shortestBase 25 = .ok (.ireturn, 1) := by decide +kernel
theorem dX11_writtenLength_0 : decode cX11_writtenLength 0 = .ok (.aload_n 0, 1) := by decide +kernel
theorem dX11_writtenLength_1 : decode cX11_writtenLength 1 = .ok (.iconst 0, 1) := by decide +kernel
theorem dX11_writtenLength_2 : decode cX11_writtenLength 2 = .ok (.putfield 34, 3) := by decide +kernel
theorem dX11_writtenLength_5 : decode cX11_writtenLength 5 = .ok (.iload_n 1, 1) := by decide +kernel
theorem dX11_writtenLength_6 : decode cX11_writtenLength 6 = .ok (.invokestatic 42, 3) := by decide +kernel
theorem dX11_writtenLength_9 : decode cX11_writtenLength 9 = .ok (.ifCond .eq 11, 3) := by decide +kernel
theorem dX11_writtenLength_12 : decode cX11_writtenLength 12 = .ok (.aload_n 0, 1) := by decide +kernel
theorem dX11_writtenLength_13 : decode cX11_writtenLength 13 = .ok (.iload_n 1, 1) := by decide +kernel
theorem dX11_writtenLength_14 : decode cX11_writtenLength 14 = .ok (.invokevirtual 224, 3) := by decide +kernel
theorem dX11_writtenLength_17 : decode cX11_writtenLength 17 = .ok (.goto 8, 3) := by decide +kernel
theorem dX11_writtenLength_20 : decode cX11_writtenLength 20 = .ok (.aload_n 0, 1) := by decide +kernel
theorem dX11_writtenLength_21 : decode cX11_writtenLength 21 = .ok (.iconst 1, 1) := by decide +kernel
theorem dX11_writtenLength_22 : decode cX11_writtenLength 22 = .ok (.invokevirtual 127, 3) := by decide +kernel
theorem dX11_writtenLength_25 : decode cX11_writtenLength 25 = .ok (.ireturn, 1) := by decide +kernel
theorem dX11_writtenAt_0 : decode cX11_writtenAt 0 = .ok (.aload_n 0, 1) := by decide +kernel
theorem dX11_writtenAt_1 : decode cX11_writtenAt 1 = .ok (.iconst 0, 1) := by decide +kernel
theorem dX11_writtenAt_2 : decode cX11_writtenAt 2 = .ok (.putfield 34, 3) := by decide +kernel
theorem dX11_writtenAt_5 : decode cX11_writtenAt 5 = .ok (.iload_n 1, 1) := by decide +kernel
theorem dX11_writtenAt_6 : decode cX11_writtenAt 6 = .ok (.invokestatic 42, 3) := by decide +kernel
theorem dX11_writtenAt_9 : decode cX11_writtenAt 9 = .ok (.ifCond .eq 27, 3) := by decide +kernel
theorem dX11_writtenAt_12 : decode cX11_writtenAt 12 = .ok (.iload_n 2, 1) := by decide +kernel
theorem dX11_writtenAt_13 : decode cX11_writtenAt 13 = .ok (.iconst 0, 1) := by decide +kernel
theorem dX11_writtenAt_14 : decode cX11_writtenAt 14 = .ok (.aload_n 0, 1) := by decide +kernel
theorem dX11_writtenAt_15 : decode cX11_writtenAt 15 = .ok (.iload_n 1, 1) := by decide +kernel
theorem dX11_writtenAt_16 : decode cX11_writtenAt 16 = .ok (.invokevirtual 224, 3) := by decide +kernel
theorem dX11_writtenAt_19 : decode cX11_writtenAt 19 = .ok (.iconst 1, 1) := by decide +kernel
theorem dX11_writtenAt_20 : decode cX11_writtenAt 20 = .ok (.isub, 1) := by decide +kernel
theorem dX11_writtenAt_21 : decode cX11_writtenAt 21 = .ok (.invokestatic 38, 3) := by decide +kernel
theorem dX11_writtenAt_24 : decode cX11_writtenAt 24 = .ok (.ifCond .eq 12, 3) := by decide +kernel
theorem dX11_writtenAt_27 : decode cX11_writtenAt 27 = .ok (.aload_n 0, 1) := by decide +kernel
theorem dX11_writtenAt_28 : decode cX11_writtenAt 28 = .ok (.iload_n 1, 1) := by decide +kernel
theorem dX11_writtenAt_29 : decode cX11_writtenAt 29 = .ok (.iload_n 2, 1) := by decide +kernel
theorem dX11_writtenAt_30 : decode cX11_writtenAt 30 = .ok (.invokevirtual 227, 3) := by decide +kernel
theorem dX11_writtenAt_33 : decode cX11_writtenAt 33 = .ok (.goto 8, 3) := by decide +kernel
theorem dX11_writtenAt_36 : decode cX11_writtenAt 36 = .ok (.aload_n 0, 1) := by decide +kernel
theorem dX11_writtenAt_37 : decode cX11_writtenAt 37 = .ok (.iconst 1, 1) := by decide +kernel
theorem dX11_writtenAt_38 : decode cX11_writtenAt 38 = .ok (.invokevirtual 127, 3) := by decide +kernel
theorem dX11_writtenAt_41 : decode cX11_writtenAt 41 = .ok (.ireturn, 1) := by decide +kernel
theorem dX11_hasColumns_0 : decode cX11_hasColumns 0 = .ok (.aload_n 0, 1) := by decide +kernel
theorem dX11_hasColumns_1 : decode cX11_hasColumns 1 = .ok (.iload_n 1, 1) := by decide +kernel
theorem dX11_hasColumns_2 : decode cX11_hasColumns 2 = .ok (.iload_n 2, 1) := by decide +kernel
theorem dX11_hasColumns_3 : decode cX11_hasColumns 3 = .ok (.invokestatic 137, 3) := by decide +kernel
theorem dX11_hasColumns_6 : decode cX11_hasColumns 6 = .ok (.ifCond .eq 7, 3) := by decide +kernel
theorem dX11_hasColumns_9 : decode cX11_hasColumns 9 = .ok (.iconst 0, 1) := by decide +kernel
theorem dX11_hasColumns_10 : decode cX11_hasColumns 10 = .ok (.goto 4, 3) := by decide +kernel
theorem dX11_hasColumns_13 : decode cX11_hasColumns 13 = .ok (.iconst 1, 1) := by decide +kernel
theorem dX11_hasColumns_14 : decode cX11_hasColumns 14 = .ok (.putfield 34, 3) := by decide +kernel
theorem dX11_hasColumns_17 : decode cX11_hasColumns 17 = .ok (.aload_n 0, 1) := by decide +kernel
theorem dX11_hasColumns_18 : decode cX11_hasColumns 18 = .ok (.getfield 34, 3) := by decide +kernel
theorem dX11_hasColumns_21 : decode cX11_hasColumns 21 = .ok (.ifCond .ne 9, 3) := by decide +kernel
theorem dX11_hasColumns_24 : decode cX11_hasColumns 24 = .ok (.aload_n 0, 1) := by decide +kernel
theorem dX11_hasColumns_25 : decode cX11_hasColumns 25 = .ok (.iload_n 1, 1) := by decide +kernel
theorem dX11_hasColumns_26 : decode cX11_hasColumns 26 = .ok (.iload_n 2, 1) := by decide +kernel
theorem dX11_hasColumns_27 : decode cX11_hasColumns 27 = .ok (.invokevirtual 230, 3) := by decide +kernel
theorem dX11_hasColumns_30 : decode cX11_hasColumns 30 = .ok (.aload_n 0, 1) := by decide +kernel
theorem dX11_hasColumns_31 : decode cX11_hasColumns 31 = .ok (.getfield 34, 3) := by decide +kernel
theorem dX11_hasColumns_34 : decode cX11_hasColumns 34 = .ok (.ifCond .ne 7, 3) := by decide +kernel
theorem dX11_hasColumns_37 : decode cX11_hasColumns 37 = .ok (.iconst 1, 1) := by decide +kernel
theorem dX11_hasColumns_38 : decode cX11_hasColumns 38 = .ok (.goto 4, 3) := by decide +kernel
theorem dX11_hasColumns_41 : decode cX11_hasColumns 41 = .ok (.iconst 0, 1) := by decide +kernel
theorem dX11_hasColumns_42 : decode cX11_hasColumns 42 = .ok (.ireturn, 1) := by decide +kernel
theorem dX11_carries_0 : decode cX11_carries 0 = .ok (.aload_n 0, 1) := by decide +kernel
theorem dX11_carries_1 : decode cX11_carries 1 = .ok (.iload_n 1, 1) := by decide +kernel
theorem dX11_carries_2 : decode cX11_carries 2 = .ok (.iload_n 2, 1) := by decide +kernel
theorem dX11_carries_3 : decode cX11_carries 3 = .ok (.invokevirtual 234, 3) := by decide +kernel
theorem dX11_carries_6 : decode cX11_carries 6 = .ok (.ifCond .eq 10, 3) := by decide +kernel
theorem dX11_carries_9 : decode cX11_carries 9 = .ok (.aload_n 0, 1) := by decide +kernel
theorem dX11_carries_10 : decode cX11_carries 10 = .ok (.getfield 110, 3) := by decide +kernel
theorem dX11_carries_13 : decode cX11_carries 13 = .ok (.goto 4, 3) := by decide +kernel
theorem dX11_carries_16 : decode cX11_carries 16 = .ok (.iconst 0, 1) := by decide +kernel
theorem dX11_carries_17 : decode cX11_carries 17 = .ok (.ireturn, 1) := by decide +kernel
theorem dX11_longestChain_0 : decode cX11_longestChain 0 = .ok (.aload_n 0, 1) := by decide +kernel
theorem dX11_longestChain_1 : decode cX11_longestChain 1 = .ok (.iload_n 1, 1) := by decide +kernel
theorem dX11_longestChain_2 : decode cX11_longestChain 2 = .ok (.iload_n 2, 1) := by decide +kernel
theorem dX11_longestChain_3 : decode cX11_longestChain 3 = .ok (.invokevirtual 234, 3) := by decide +kernel
theorem dX11_longestChain_6 : decode cX11_longestChain 6 = .ok (.ifCond .eq 10, 3) := by decide +kernel
theorem dX11_longestChain_9 : decode cX11_longestChain 9 = .ok (.aload_n 0, 1) := by decide +kernel
theorem dX11_longestChain_10 : decode cX11_longestChain 10 = .ok (.getfield 113, 3) := by decide +kernel
theorem dX11_longestChain_13 : decode cX11_longestChain 13 = .ok (.goto 4, 3) := by decide +kernel
theorem dX11_longestChain_16 : decode cX11_longestChain 16 = .ok (.iconst 0, 1) := by decide +kernel
theorem dX11_longestChain_17 : decode cX11_longestChain 17 = .ok (.ireturn, 1) := by decide +kernel
theorem dX11_sumDigit_0 : decode cX11_sumDigit 0 = .ok (.aload_n 0, 1) := by decide +kernel
theorem dX11_sumDigit_1 : decode cX11_sumDigit 1 = .ok (.iload_n 1, 1) := by decide +kernel
theorem dX11_sumDigit_2 : decode cX11_sumDigit 2 = .ok (.iload_n 2, 1) := by decide +kernel
theorem dX11_sumDigit_3 : decode cX11_sumDigit 3 = .ok (.invokevirtual 234, 3) := by decide +kernel
theorem dX11_sumDigit_6 : decode cX11_sumDigit 6 = .ok (.ifCond .ne 5, 3) := by decide +kernel
theorem dX11_sumDigit_9 : decode cX11_sumDigit 9 = .ok (.iconst 0, 1) := by decide +kernel
theorem dX11_sumDigit_10 : decode cX11_sumDigit 10 = .ok (.ireturn, 1) := by decide +kernel
theorem dX11_sumDigit_11 : decode cX11_sumDigit 11 = .ok (.iload_n 3, 1) := by decide +kernel
theorem dX11_sumDigit_12 : decode cX11_sumDigit 12 = .ok (.iconst 0, 1) := by decide +kernel
theorem dX11_sumDigit_13 : decode cX11_sumDigit 13 = .ok (.aload_n 0, 1) := by decide +kernel
theorem dX11_sumDigit_14 : decode cX11_sumDigit 14 = .ok (.getfield 107, 3) := by decide +kernel
theorem dX11_sumDigit_17 : decode cX11_sumDigit 17 = .ok (.iconst 1, 1) := by decide +kernel
theorem dX11_sumDigit_18 : decode cX11_sumDigit 18 = .ok (.isub, 1) := by decide +kernel
theorem dX11_sumDigit_19 : decode cX11_sumDigit 19 = .ok (.invokestatic 38, 3) := by decide +kernel
theorem dX11_sumDigit_22 : decode cX11_sumDigit 22 = .ok (.ifCond .eq 12, 3) := by decide +kernel
theorem dX11_sumDigit_25 : decode cX11_sumDigit 25 = .ok (.aload_n 0, 1) := by decide +kernel
theorem dX11_sumDigit_26 : decode cX11_sumDigit 26 = .ok (.getfield 31, 3) := by decide +kernel
theorem dX11_sumDigit_29 : decode cX11_sumDigit 29 = .ok (.iload_n 3, 1) := by decide +kernel
theorem dX11_sumDigit_30 : decode cX11_sumDigit 30 = .ok (.iaload, 1) := by decide +kernel
theorem dX11_sumDigit_31 : decode cX11_sumDigit 31 = .ok (.goto 8, 3) := by decide +kernel
theorem dX11_sumDigit_34 : decode cX11_sumDigit 34 = .ok (.aload_n 0, 1) := by decide +kernel
theorem dX11_sumDigit_35 : decode cX11_sumDigit 35 = .ok (.iconst 1, 1) := by decide +kernel
theorem dX11_sumDigit_36 : decode cX11_sumDigit 36 = .ok (.invokevirtual 127, 3) := by decide +kernel
theorem dX11_sumDigit_39 : decode cX11_sumDigit 39 = .ok (.ireturn, 1) := by decide +kernel
theorem dX11_sumByColumns_0 : decode cX11_sumByColumns 0 = .ok (.aload_n 0, 1) := by decide +kernel
theorem dX11_sumByColumns_1 : decode cX11_sumByColumns 1 = .ok (.iconst 0, 1) := by decide +kernel
theorem dX11_sumByColumns_2 : decode cX11_sumByColumns 2 = .ok (.putfield 34, 3) := by decide +kernel
theorem dX11_sumByColumns_5 : decode cX11_sumByColumns 5 = .ok (.iload_n 1, 1) := by decide +kernel
theorem dX11_sumByColumns_6 : decode cX11_sumByColumns 6 = .ok (.iload_n 2, 1) := by decide +kernel
theorem dX11_sumByColumns_7 : decode cX11_sumByColumns 7 = .ok (.invokestatic 137, 3) := by decide +kernel
theorem dX11_sumByColumns_10 : decode cX11_sumByColumns 10 = .ok (.ifCond .eq 19, 3) := by decide +kernel
theorem dX11_sumByColumns_13 : decode cX11_sumByColumns 13 = .ok (.aload_n 0, 1) := by decide +kernel
theorem dX11_sumByColumns_14 : decode cX11_sumByColumns 14 = .ok (.iload_n 1, 1) := by decide +kernel
theorem dX11_sumByColumns_15 : decode cX11_sumByColumns 15 = .ok (.invokevirtual 82, 3) := by decide +kernel
theorem dX11_sumByColumns_18 : decode cX11_sumByColumns 18 = .ok (.i2l, 1) := by decide +kernel
theorem dX11_sumByColumns_19 : decode cX11_sumByColumns 19 = .ok (.aload_n 0, 1) := by decide +kernel
theorem dX11_sumByColumns_20 : decode cX11_sumByColumns 20 = .ok (.iload_n 2, 1) := by decide +kernel
theorem dX11_sumByColumns_21 : decode cX11_sumByColumns 21 = .ok (.invokevirtual 82, 3) := by decide +kernel
theorem dX11_sumByColumns_24 : decode cX11_sumByColumns 24 = .ok (.i2l, 1) := by decide +kernel
theorem dX11_sumByColumns_25 : decode cX11_sumByColumns 25 = .ok (.ladd, 1) := by decide +kernel
theorem dX11_sumByColumns_26 : decode cX11_sumByColumns 26 = .ok (.goto 9, 3) := by decide +kernel
theorem dX11_sumByColumns_29 : decode cX11_sumByColumns 29 = .ok (.aload_n 0, 1) := by decide +kernel
theorem dX11_sumByColumns_30 : decode cX11_sumByColumns 30 = .ok (.iconst 1, 1) := by decide +kernel
theorem dX11_sumByColumns_31 : decode cX11_sumByColumns 31 = .ok (.invokevirtual 127, 3) := by decide +kernel
theorem dX11_sumByColumns_34 : decode cX11_sumByColumns 34 = .ok (.i2l, 1) := by decide +kernel
theorem dX11_sumByColumns_35 : decode cX11_sumByColumns 35 = .ok (.lreturn, 1) := by decide +kernel
theorem dX11_readIn_0 : decode cX11_readIn 0 = .ok (.aload_n 0, 1) := by decide +kernel
theorem dX11_readIn_1 : decode cX11_readIn 1 = .ok (.iconst 0, 1) := by decide +kernel
theorem dX11_readIn_2 : decode cX11_readIn 2 = .ok (.putfield 34, 3) := by decide +kernel
theorem dX11_readIn_5 : decode cX11_readIn 5 = .ok (.iload_n 1, 1) := by decide +kernel
theorem dX11_readIn_6 : decode cX11_readIn 6 = .ok (.invokestatic 42, 3) := by decide +kernel
theorem dX11_readIn_9 : decode cX11_readIn 9 = .ok (.ifCond .ne 10, 3) := by decide +kernel
theorem dX11_readIn_12 : decode cX11_readIn 12 = .ok (.aload_n 0, 1) := by decide +kernel
theorem dX11_readIn_13 : decode cX11_readIn 13 = .ok (.iconst 1, 1) := by decide +kernel
theorem dX11_readIn_14 : decode cX11_readIn 14 = .ok (.invokevirtual 127, 3) := by decide +kernel
theorem dX11_readIn_17 : decode cX11_readIn 17 = .ok (.i2l, 1) := by decide +kernel
theorem dX11_readIn_18 : decode cX11_readIn 18 = .ok (.lreturn, 1) := by decide +kernel
theorem dX11_readIn_19 : decode cX11_readIn 19 = .ok (.iload_n 2, 1) := by decide +kernel
theorem dX11_readIn_20 : decode cX11_readIn 20 = .ok (.invokestatic 124, 3) := by decide +kernel
theorem dX11_readIn_23 : decode cX11_readIn 23 = .ok (.ifCond .eq 12, 3) := by decide +kernel
theorem dX11_readIn_26 : decode cX11_readIn 26 = .ok (.aload_n 0, 1) := by decide +kernel
theorem dX11_readIn_27 : decode cX11_readIn 27 = .ok (.iload_n 1, 1) := by decide +kernel
theorem dX11_readIn_28 : decode cX11_readIn 28 = .ok (.iload_n 2, 1) := by decide +kernel
theorem dX11_readIn_29 : decode cX11_readIn 29 = .ok (.invokevirtual 237, 3) := by decide +kernel
theorem dX11_readIn_32 : decode cX11_readIn 32 = .ok (.goto 9, 3) := by decide +kernel
theorem dX11_readIn_35 : decode cX11_readIn 35 = .ok (.aload_n 0, 1) := by decide +kernel
theorem dX11_readIn_36 : decode cX11_readIn 36 = .ok (.iconst 2, 1) := by decide +kernel
theorem dX11_readIn_37 : decode cX11_readIn 37 = .ok (.invokevirtual 127, 3) := by decide +kernel
theorem dX11_readIn_40 : decode cX11_readIn 40 = .ok (.i2l, 1) := by decide +kernel
theorem dX11_readIn_41 : decode cX11_readIn 41 = .ok (.lreturn, 1) := by decide +kernel
theorem dX11_whyNoSum_0 : decode cX11_whyNoSum 0 = .ok (.aload_n 0, 1) := by decide +kernel
theorem dX11_whyNoSum_1 : decode cX11_whyNoSum 1 = .ok (.iconst 0, 1) := by decide +kernel
theorem dX11_whyNoSum_2 : decode cX11_whyNoSum 2 = .ok (.putfield 34, 3) := by decide +kernel
theorem dX11_whyNoSum_5 : decode cX11_whyNoSum 5 = .ok (.iload_n 1, 1) := by decide +kernel
theorem dX11_whyNoSum_6 : decode cX11_whyNoSum 6 = .ok (.iload_n 2, 1) := by decide +kernel
theorem dX11_whyNoSum_7 : decode cX11_whyNoSum 7 = .ok (.invokestatic 137, 3) := by decide +kernel
theorem dX11_whyNoSum_10 : decode cX11_whyNoSum 10 = .ok (.ifCond .eq 13, 3) := by decide +kernel
theorem dX11_whyNoSum_13 : decode cX11_whyNoSum 13 = .ok (.aload_n 0, 1) := by decide +kernel
theorem dX11_whyNoSum_14 : decode cX11_whyNoSum 14 = .ok (.iload_n 1, 1) := by decide +kernel
theorem dX11_whyNoSum_15 : decode cX11_whyNoSum 15 = .ok (.iload_n 2, 1) := by decide +kernel
theorem dX11_whyNoSum_16 : decode cX11_whyNoSum 16 = .ok (.iconst 1, 1) := by decide +kernel
theorem dX11_whyNoSum_17 : decode cX11_whyNoSum 17 = .ok (.invokevirtual 120, 3) := by decide +kernel
theorem dX11_whyNoSum_20 : decode cX11_whyNoSum 20 = .ok (.goto 8, 3) := by decide +kernel
theorem dX11_whyNoSum_23 : decode cX11_whyNoSum 23 = .ok (.aload_n 0, 1) := by decide +kernel
theorem dX11_whyNoSum_24 : decode cX11_whyNoSum 24 = .ok (.iconst 1, 1) := by decide +kernel
theorem dX11_whyNoSum_25 : decode cX11_whyNoSum 25 = .ok (.invokevirtual 127, 3) := by decide +kernel
theorem dX11_whyNoSum_28 : decode cX11_whyNoSum 28 = .ok (.ireturn, 1) := by decide +kernel
theorem dX11_periodOfSum_0 : decode cX11_periodOfSum 0 = .ok (.aload_n 0, 1) := by decide +kernel
theorem dX11_periodOfSum_1 : decode cX11_periodOfSum 1 = .ok (.iconst 0, 1) := by decide +kernel
theorem dX11_periodOfSum_2 : decode cX11_periodOfSum 2 = .ok (.putfield 34, 3) := by decide +kernel
theorem dX11_periodOfSum_5 : decode cX11_periodOfSum 5 = .ok (.iload_n 1, 1) := by decide +kernel
theorem dX11_periodOfSum_6 : decode cX11_periodOfSum 6 = .ok (.iload_n 2, 1) := by decide +kernel
theorem dX11_periodOfSum_7 : decode cX11_periodOfSum 7 = .ok (.invokestatic 137, 3) := by decide +kernel
theorem dX11_periodOfSum_10 : decode cX11_periodOfSum 10 = .ok (.ifCond .eq 12, 3) := by decide +kernel
theorem dX11_periodOfSum_13 : decode cX11_periodOfSum 13 = .ok (.aload_n 0, 1) := by decide +kernel
theorem dX11_periodOfSum_14 : decode cX11_periodOfSum 14 = .ok (.iload_n 1, 1) := by decide +kernel
theorem dX11_periodOfSum_15 : decode cX11_periodOfSum 15 = .ok (.iload_n 2, 1) := by decide +kernel
theorem dX11_periodOfSum_16 : decode cX11_periodOfSum 16 = .ok (.invokevirtual 240, 3) := by decide +kernel
theorem dX11_periodOfSum_19 : decode cX11_periodOfSum 19 = .ok (.goto 8, 3) := by decide +kernel
theorem dX11_periodOfSum_22 : decode cX11_periodOfSum 22 = .ok (.aload_n 0, 1) := by decide +kernel
theorem dX11_periodOfSum_23 : decode cX11_periodOfSum 23 = .ok (.iconst 1, 1) := by decide +kernel
theorem dX11_periodOfSum_24 : decode cX11_periodOfSum 24 = .ok (.invokevirtual 127, 3) := by decide +kernel
theorem dX11_periodOfSum_27 : decode cX11_periodOfSum 27 = .ok (.ireturn, 1) := by decide +kernel
theorem dX11_value_0 : decode cX11_value 0 = .ok (.aload_n 0, 1) := by decide +kernel
theorem dX11_value_1 : decode cX11_value 1 = .ok (.iload_n 1, 1) := by decide +kernel
theorem dX11_value_2 : decode cX11_value 2 = .ok (.invokevirtual 46, 3) := by decide +kernel
theorem dX11_value_5 : decode cX11_value 5 = .ok (.i2d, 1) := by decide +kernel
theorem dX11_value_6 : decode cX11_value 6 = .ok (.aload_n 0, 1) := by decide +kernel
theorem dX11_value_7 : decode cX11_value 7 = .ok (.iload_n 1, 1) := by decide +kernel
theorem dX11_value_8 : decode cX11_value 8 = .ok (.invokevirtual 50, 3) := by decide +kernel
theorem dX11_value_11 : decode cX11_value 11 = .ok (.i2d, 1) := by decide +kernel
theorem dX11_value_12 : decode cX11_value 12 = .ok (.ddiv, 1) := by decide +kernel
theorem dX11_value_13 : decode cX11_value 13 = .ok (.dreturn, 1) := by decide +kernel
theorem dX11_share_0 : decode cX11_share 0 = .ok (.dconst 0, 1) := by decide +kernel
theorem dX11_share_1 : decode cX11_share 1 = .ok (.dstore_n 2, 1) := by decide +kernel
theorem dX11_share_2 : decode cX11_share 2 = .ok (.iconst 0, 1) := by decide +kernel
theorem dX11_share_3 : decode cX11_share 3 = .ok (.istore 4, 2) := by decide +kernel
theorem dX11_share_5 : decode cX11_share 5 = .ok (.iload 4, 2) := by decide +kernel
theorem dX11_share_7 : decode cX11_share 7 = .ok (.bipush 6, 2) := by decide +kernel
theorem dX11_share_9 : decode cX11_share 9 = .ok (.if_icmp .ge 18, 3) := by decide +kernel
theorem dX11_share_12 : decode cX11_share 12 = .ok (.dload_n 2, 1) := by decide +kernel
theorem dX11_share_13 : decode cX11_share 13 = .ok (.aload_n 0, 1) := by decide +kernel
theorem dX11_share_14 : decode cX11_share 14 = .ok (.iload 4, 2) := by decide +kernel
theorem dX11_share_16 : decode cX11_share 16 = .ok (.invokevirtual 243, 3) := by decide +kernel
theorem dX11_share_19 : decode cX11_share 19 = .ok (.dadd, 1) := by decide +kernel
theorem dX11_share_20 : decode cX11_share 20 = .ok (.dstore_n 2, 1) := by decide +kernel
theorem dX11_share_21 : decode cX11_share 21 = .ok (.iinc 4 1, 3) := by decide +kernel
theorem dX11_share_24 : decode cX11_share 24 = .ok (.goto (-19), 3) := by decide +kernel
theorem dX11_share_27 : decode cX11_share 27 = .ok (.dload_n 2, 1) := by decide +kernel
theorem dX11_share_28 : decode cX11_share 28 = .ok (.dconst 0, 1) := by decide +kernel
theorem dX11_share_29 : decode cX11_share 29 = .ok (.dcmp .l, 1) := by decide +kernel
theorem dX11_share_30 : decode cX11_share 30 = .ok (.ifCond .ne 7, 3) := by decide +kernel
theorem dX11_share_33 : decode cX11_share 33 = .ok (.dconst 0, 1) := by decide +kernel
theorem dX11_share_34 : decode cX11_share 34 = .ok (.goto 10, 3) := by decide +kernel
theorem dX11_share_37 : decode cX11_share 37 = .ok (.aload_n 0, 1) := by decide +kernel
theorem dX11_share_38 : decode cX11_share 38 = .ok (.iload_n 1, 1) := by decide +kernel
theorem dX11_share_39 : decode cX11_share 39 = .ok (.invokevirtual 243, 3) := by decide +kernel
theorem dX11_share_42 : decode cX11_share 42 = .ok (.dload_n 2, 1) := by decide +kernel
theorem dX11_share_43 : decode cX11_share 43 = .ok (.ddiv, 1) := by decide +kernel
theorem dX11_share_44 : decode cX11_share 44 = .ok (.dreturn, 1) := by decide +kernel
theorem dX11_shareOf_0 : decode cX11_shareOf 0 = .ok (.aload_n 0, 1) := by decide +kernel
theorem dX11_shareOf_1 : decode cX11_shareOf 1 = .ok (.iconst 0, 1) := by decide +kernel
theorem dX11_shareOf_2 : decode cX11_shareOf 2 = .ok (.putfield 34, 3) := by decide +kernel
theorem dX11_shareOf_5 : decode cX11_shareOf 5 = .ok (.iload_n 1, 1) := by decide +kernel
theorem dX11_shareOf_6 : decode cX11_shareOf 6 = .ok (.invokestatic 42, 3) := by decide +kernel
theorem dX11_shareOf_9 : decode cX11_shareOf 9 = .ok (.ifCond .eq 11, 3) := by decide +kernel
theorem dX11_shareOf_12 : decode cX11_shareOf 12 = .ok (.aload_n 0, 1) := by decide +kernel
theorem dX11_shareOf_13 : decode cX11_shareOf 13 = .ok (.iload_n 1, 1) := by decide +kernel
theorem dX11_shareOf_14 : decode cX11_shareOf 14 = .ok (.invokevirtual 247, 3) := by decide +kernel
theorem dX11_shareOf_17 : decode cX11_shareOf 17 = .ok (.goto 9, 3) := by decide +kernel
theorem dX11_shareOf_20 : decode cX11_shareOf 20 = .ok (.aload_n 0, 1) := by decide +kernel
theorem dX11_shareOf_21 : decode cX11_shareOf 21 = .ok (.iconst 1, 1) := by decide +kernel
theorem dX11_shareOf_22 : decode cX11_shareOf 22 = .ok (.invokevirtual 127, 3) := by decide +kernel
theorem dX11_shareOf_25 : decode cX11_shareOf 25 = .ok (.i2d, 1) := by decide +kernel
theorem dX11_shareOf_26 : decode cX11_shareOf 26 = .ok (.dreturn, 1) := by decide +kernel
theorem dX11_digestAccount_0 : decode cX11_digestAccount 0 = .ok (.aload_n 0, 1) := by decide +kernel
theorem dX11_digestAccount_1 : decode cX11_digestAccount 1 = .ok (.iload_n 3, 1) := by decide +kernel
theorem dX11_digestAccount_2 : decode cX11_digestAccount 2 = .ok (.invokevirtual 88, 3) := by decide +kernel
theorem dX11_digestAccount_5 : decode cX11_digestAccount 5 = .ok (.ldc2_w 250, 3) := by decide +kernel
theorem dX11_digestAccount_8 : decode cX11_digestAccount 8 = .ok (.ldc2_w 250, 3) := by decide +kernel
theorem dX11_digestAccount_11 : decode cX11_digestAccount 11 = .ok (.ldc2_w 250, 3) := by decide +kernel
theorem dX11_digestAccount_14 : decode cX11_digestAccount 14 = .ok (.lload_n 1, 1) := by decide +kernel
theorem dX11_digestAccount_15 : decode cX11_digestAccount 15 = .ok (.lmul, 1) := by decide +kernel
theorem dX11_digestAccount_16 : decode cX11_digestAccount 16 = .ok (.aload_n 0, 1) := by decide +kernel
theorem dX11_digestAccount_17 : decode cX11_digestAccount 17 = .ok (.iload_n 3, 1) := by decide +kernel
theorem dX11_digestAccount_18 : decode cX11_digestAccount 18 = .ok (.invokevirtual 46, 3) := by decide +kernel
theorem dX11_digestAccount_21 : decode cX11_digestAccount 21 = .ok (.i2l, 1) := by decide +kernel
theorem dX11_digestAccount_22 : decode cX11_digestAccount 22 = .ok (.ladd, 1) := by decide +kernel
theorem dX11_digestAccount_23 : decode cX11_digestAccount 23 = .ok (.lmul, 1) := by decide +kernel
theorem dX11_digestAccount_24 : decode cX11_digestAccount 24 = .ok (.aload_n 0, 1) := by decide +kernel
theorem dX11_digestAccount_25 : decode cX11_digestAccount 25 = .ok (.iload_n 3, 1) := by decide +kernel
theorem dX11_digestAccount_26 : decode cX11_digestAccount 26 = .ok (.invokevirtual 50, 3) := by decide +kernel
theorem dX11_digestAccount_29 : decode cX11_digestAccount 29 = .ok (.i2l, 1) := by decide +kernel
theorem dX11_digestAccount_30 : decode cX11_digestAccount 30 = .ok (.ladd, 1) := by decide +kernel
theorem dX11_digestAccount_31 : decode cX11_digestAccount 31 = .ok (.lmul, 1) := by decide +kernel
theorem dX11_digestAccount_32 : decode cX11_digestAccount 32 = .ok (.aload_n 0, 1) := by decide +kernel
theorem dX11_digestAccount_33 : decode cX11_digestAccount 33 = .ok (.iload_n 3, 1) := by decide +kernel
theorem dX11_digestAccount_34 : decode cX11_digestAccount 34 = .ok (.invokevirtual 82, 3) := by decide +kernel
theorem dX11_digestAccount_37 : decode cX11_digestAccount 37 = .ok (.i2l, 1) := by decide +kernel
theorem dX11_digestAccount_38 : decode cX11_digestAccount 38 = .ok (.ladd, 1) := by decide +kernel
theorem dX11_digestAccount_39 : decode cX11_digestAccount 39 = .ok (.lstore 4, 2) := by decide +kernel
theorem dX11_digestAccount_41 : decode cX11_digestAccount 41 = .ok (.ldc2_w 250, 3) := by decide +kernel
theorem dX11_digestAccount_44 : decode cX11_digestAccount 44 = .ok (.lload 4, 2) := by decide +kernel
theorem dX11_digestAccount_46 : decode cX11_digestAccount 46 = .ok (.lmul, 1) := by decide +kernel
theorem dX11_digestAccount_47 : decode cX11_digestAccount 47 = .ok (.aload_n 0, 1) := by decide +kernel
theorem dX11_digestAccount_48 : decode cX11_digestAccount 48 = .ok (.getfield 85, 3) := by decide +kernel
theorem dX11_digestAccount_51 : decode cX11_digestAccount 51 = .ok (.i2l, 1) := by decide +kernel
theorem dX11_digestAccount_52 : decode cX11_digestAccount 52 = .ok (.ladd, 1) := by decide +kernel
theorem dX11_digestAccount_53 : decode cX11_digestAccount 53 = .ok (.lstore 4, 2) := by decide +kernel
theorem dX11_digestAccount_55 : decode cX11_digestAccount 55 = .ok (.iconst 0, 1) := by decide +kernel
theorem dX11_digestAccount_56 : decode cX11_digestAccount 56 = .ok (.istore 6, 2) := by decide +kernel
theorem dX11_digestAccount_58 : decode cX11_digestAccount 58 = .ok (.iload 6, 2) := by decide +kernel
theorem dX11_digestAccount_60 : decode cX11_digestAccount 60 = .ok (.aload_n 0, 1) := by decide +kernel
theorem dX11_digestAccount_61 : decode cX11_digestAccount 61 = .ok (.getfield 85, 3) := by decide +kernel
theorem dX11_digestAccount_64 : decode cX11_digestAccount 64 = .ok (.if_icmp .ge 39, 3) := by decide +kernel
theorem dX11_digestAccount_67 : decode cX11_digestAccount 67 = .ok (.ldc2_w 250, 3) := by decide +kernel
theorem dX11_digestAccount_70 : decode cX11_digestAccount 70 = .ok (.ldc2_w 250, 3) := by decide +kernel
theorem dX11_digestAccount_73 : decode cX11_digestAccount 73 = .ok (.lload 4, 2) := by decide +kernel
theorem dX11_digestAccount_75 : decode cX11_digestAccount 75 = .ok (.lmul, 1) := by decide +kernel
theorem dX11_digestAccount_76 : decode cX11_digestAccount 76 = .ok (.aload_n 0, 1) := by decide +kernel
theorem dX11_digestAccount_77 : decode cX11_digestAccount 77 = .ok (.getfield 25, 3) := by decide +kernel
theorem dX11_digestAccount_80 : decode cX11_digestAccount 80 = .ok (.iload 6, 2) := by decide +kernel
theorem dX11_digestAccount_82 : decode cX11_digestAccount 82 = .ok (.iaload, 1) := by decide +kernel
theorem dX11_digestAccount_83 : decode cX11_digestAccount 83 = .ok (.i2l, 1) := by decide +kernel
theorem dX11_digestAccount_84 : decode cX11_digestAccount 84 = .ok (.ladd, 1) := by decide +kernel
theorem dX11_digestAccount_85 : decode cX11_digestAccount 85 = .ok (.lmul, 1) := by decide +kernel
theorem dX11_digestAccount_86 : decode cX11_digestAccount 86 = .ok (.aload_n 0, 1) := by decide +kernel
theorem dX11_digestAccount_87 : decode cX11_digestAccount 87 = .ok (.getfield 25, 3) := by decide +kernel
theorem dX11_digestAccount_90 : decode cX11_digestAccount 90 = .ok (.iload 6, 2) := by decide +kernel
theorem dX11_digestAccount_92 : decode cX11_digestAccount 92 = .ok (.iaload, 1) := by decide +kernel
theorem dX11_digestAccount_93 : decode cX11_digestAccount 93 = .ok (.i2l, 1) := by decide +kernel
theorem dX11_digestAccount_94 : decode cX11_digestAccount 94 = .ok (.ladd, 1) := by decide +kernel
theorem dX11_digestAccount_95 : decode cX11_digestAccount 95 = .ok (.lstore 4, 2) := by decide +kernel
theorem dX11_digestAccount_97 : decode cX11_digestAccount 97 = .ok (.iinc 6 1, 3) := by decide +kernel
theorem dX11_digestAccount_100 : decode cX11_digestAccount 100 = .ok (.goto (-42), 3) := by decide +kernel
theorem dX11_digestAccount_103 : decode cX11_digestAccount 103 = .ok (.aload_n 0, 1) := by decide +kernel
theorem dX11_digestAccount_104 : decode cX11_digestAccount 104 = .ok (.iload_n 3, 1) := by decide +kernel
theorem dX11_digestAccount_105 : decode cX11_digestAccount 105 = .ok (.invokevirtual 82, 3) := by decide +kernel
theorem dX11_digestAccount_108 : decode cX11_digestAccount 108 = .ok (.aload_n 0, 1) := by decide +kernel
theorem dX11_digestAccount_109 : decode cX11_digestAccount 109 = .ok (.getfield 7, 3) := by decide +kernel
theorem dX11_digestAccount_112 : decode cX11_digestAccount 112 = .ok (.iconst 0, 1) := by decide +kernel
theorem dX11_digestAccount_113 : decode cX11_digestAccount 113 = .ok (.iaload, 1) := by decide +kernel
theorem dX11_digestAccount_114 : decode cX11_digestAccount 114 = .ok (.iconst 1, 1) := by decide +kernel
theorem dX11_digestAccount_115 : decode cX11_digestAccount 115 = .ok (.isub, 1) := by decide +kernel
theorem dX11_digestAccount_116 : decode cX11_digestAccount 116 = .ok (.irem, 1) := by decide +kernel
theorem dX11_digestAccount_117 : decode cX11_digestAccount 117 = .ok (.istore 6, 2) := by decide +kernel
theorem dX11_digestAccount_119 : decode cX11_digestAccount 119 = .ok (.aload_n 0, 1) := by decide +kernel
theorem dX11_digestAccount_120 : decode cX11_digestAccount 120 = .ok (.iload_n 3, 1) := by decide +kernel
theorem dX11_digestAccount_121 : decode cX11_digestAccount 121 = .ok (.invokevirtual 50, 3) := by decide +kernel
theorem dX11_digestAccount_124 : decode cX11_digestAccount 124 = .ok (.aload_n 0, 1) := by decide +kernel
theorem dX11_digestAccount_125 : decode cX11_digestAccount 125 = .ok (.getfield 7, 3) := by decide +kernel
theorem dX11_digestAccount_128 : decode cX11_digestAccount 128 = .ok (.iconst 0, 1) := by decide +kernel
theorem dX11_digestAccount_129 : decode cX11_digestAccount 129 = .ok (.iaload, 1) := by decide +kernel
theorem dX11_digestAccount_130 : decode cX11_digestAccount 130 = .ok (.invokestatic 95, 3) := by decide +kernel
theorem dX11_digestAccount_133 : decode cX11_digestAccount 133 = .ok (.istore 7, 2) := by decide +kernel
theorem dX11_digestAccount_135 : decode cX11_digestAccount 135 = .ok (.ldc2_w 250, 3) := by decide +kernel
theorem dX11_digestAccount_138 : decode cX11_digestAccount 138 = .ok (.ldc2_w 250, 3) := by decide +kernel
theorem dX11_digestAccount_141 : decode cX11_digestAccount 141 = .ok (.ldc2_w 250, 3) := by decide +kernel
theorem dX11_digestAccount_144 : decode cX11_digestAccount 144 = .ok (.lload 4, 2) := by decide +kernel
theorem dX11_digestAccount_146 : decode cX11_digestAccount 146 = .ok (.lmul, 1) := by decide +kernel
theorem dX11_digestAccount_147 : decode cX11_digestAccount 147 = .ok (.aload_n 0, 1) := by decide +kernel
theorem dX11_digestAccount_148 : decode cX11_digestAccount 148 = .ok (.iload_n 3, 1) := by decide +kernel
theorem dX11_digestAccount_149 : decode cX11_digestAccount 149 = .ok (.invokevirtual 212, 3) := by decide +kernel
theorem dX11_digestAccount_152 : decode cX11_digestAccount 152 = .ok (.i2l, 1) := by decide +kernel
theorem dX11_digestAccount_153 : decode cX11_digestAccount 153 = .ok (.ladd, 1) := by decide +kernel
theorem dX11_digestAccount_154 : decode cX11_digestAccount 154 = .ok (.lmul, 1) := by decide +kernel
theorem dX11_digestAccount_155 : decode cX11_digestAccount 155 = .ok (.iload 6, 2) := by decide +kernel
theorem dX11_digestAccount_157 : decode cX11_digestAccount 157 = .ok (.i2l, 1) := by decide +kernel
theorem dX11_digestAccount_158 : decode cX11_digestAccount 158 = .ok (.ladd, 1) := by decide +kernel
theorem dX11_digestAccount_159 : decode cX11_digestAccount 159 = .ok (.lmul, 1) := by decide +kernel
theorem dX11_digestAccount_160 : decode cX11_digestAccount 160 = .ok (.iload 6, 2) := by decide +kernel
theorem dX11_digestAccount_162 : decode cX11_digestAccount 162 = .ok (.i2l, 1) := by decide +kernel
theorem dX11_digestAccount_163 : decode cX11_digestAccount 163 = .ok (.ladd, 1) := by decide +kernel
theorem dX11_digestAccount_164 : decode cX11_digestAccount 164 = .ok (.lstore 4, 2) := by decide +kernel
theorem dX11_digestAccount_166 : decode cX11_digestAccount 166 = .ok (.ldc2_w 250, 3) := by decide +kernel
theorem dX11_digestAccount_169 : decode cX11_digestAccount 169 = .ok (.ldc2_w 250, 3) := by decide +kernel
theorem dX11_digestAccount_172 : decode cX11_digestAccount 172 = .ok (.ldc2_w 250, 3) := by decide +kernel
theorem dX11_digestAccount_175 : decode cX11_digestAccount 175 = .ok (.lload 4, 2) := by decide +kernel
theorem dX11_digestAccount_177 : decode cX11_digestAccount 177 = .ok (.lmul, 1) := by decide +kernel
theorem dX11_digestAccount_178 : decode cX11_digestAccount 178 = .ok (.aload_n 0, 1) := by decide +kernel
theorem dX11_digestAccount_179 : decode cX11_digestAccount 179 = .ok (.iload_n 3, 1) := by decide +kernel
theorem dX11_digestAccount_180 : decode cX11_digestAccount 180 = .ok (.invokevirtual 50, 3) := by decide +kernel
theorem dX11_digestAccount_183 : decode cX11_digestAccount 183 = .ok (.aload_n 0, 1) := by decide +kernel
theorem dX11_digestAccount_184 : decode cX11_digestAccount 184 = .ok (.getfield 7, 3) := by decide +kernel
theorem dX11_digestAccount_187 : decode cX11_digestAccount 187 = .ok (.iconst 0, 1) := by decide +kernel
theorem dX11_digestAccount_188 : decode cX11_digestAccount 188 = .ok (.iaload, 1) := by decide +kernel
theorem dX11_digestAccount_189 : decode cX11_digestAccount 189 = .ok (.invokestatic 92, 3) := by decide +kernel
theorem dX11_digestAccount_192 : decode cX11_digestAccount 192 = .ok (.i2l, 1) := by decide +kernel
theorem dX11_digestAccount_193 : decode cX11_digestAccount 193 = .ok (.ladd, 1) := by decide +kernel
theorem dX11_digestAccount_194 : decode cX11_digestAccount 194 = .ok (.lmul, 1) := by decide +kernel
theorem dX11_digestAccount_195 : decode cX11_digestAccount 195 = .ok (.iload 7, 2) := by decide +kernel
theorem dX11_digestAccount_197 : decode cX11_digestAccount 197 = .ok (.i2l, 1) := by decide +kernel
theorem dX11_digestAccount_198 : decode cX11_digestAccount 198 = .ok (.ladd, 1) := by decide +kernel
theorem dX11_digestAccount_199 : decode cX11_digestAccount 199 = .ok (.lmul, 1) := by decide +kernel
theorem dX11_digestAccount_200 : decode cX11_digestAccount 200 = .ok (.iload 7, 2) := by decide +kernel
theorem dX11_digestAccount_202 : decode cX11_digestAccount 202 = .ok (.i2l, 1) := by decide +kernel
theorem dX11_digestAccount_203 : decode cX11_digestAccount 203 = .ok (.ladd, 1) := by decide +kernel
theorem dX11_digestAccount_204 : decode cX11_digestAccount 204 = .ok (.lstore 4, 2) := by decide +kernel
theorem dX11_digestAccount_206 : decode cX11_digestAccount 206 = .ok (.iconst 0, 1) := by decide +kernel
theorem dX11_digestAccount_207 : decode cX11_digestAccount 207 = .ok (.istore 8, 2) := by decide +kernel
theorem dX11_digestAccount_209 : decode cX11_digestAccount 209 = .ok (.iload 8, 2) := by decide +kernel
theorem dX11_digestAccount_211 : decode cX11_digestAccount 211 = .ok (.bipush 10, 2) := by decide +kernel
theorem dX11_digestAccount_213 : decode cX11_digestAccount 213 = .ok (.if_icmp .ge 26, 3) := by decide +kernel
theorem dX11_digestAccount_216 : decode cX11_digestAccount 216 = .ok (.ldc2_w 250, 3) := by decide +kernel
theorem dX11_digestAccount_219 : decode cX11_digestAccount 219 = .ok (.lload 4, 2) := by decide +kernel
theorem dX11_digestAccount_221 : decode cX11_digestAccount 221 = .ok (.lmul, 1) := by decide +kernel
theorem dX11_digestAccount_222 : decode cX11_digestAccount 222 = .ok (.aload_n 0, 1) := by decide +kernel
theorem dX11_digestAccount_223 : decode cX11_digestAccount 223 = .ok (.iload_n 3, 1) := by decide +kernel
theorem dX11_digestAccount_224 : decode cX11_digestAccount 224 = .ok (.iload 8, 2) := by decide +kernel
theorem dX11_digestAccount_226 : decode cX11_digestAccount 226 = .ok (.invokevirtual 101, 3) := by decide +kernel
theorem dX11_digestAccount_229 : decode cX11_digestAccount 229 = .ok (.i2l, 1) := by decide +kernel
theorem dX11_digestAccount_230 : decode cX11_digestAccount 230 = .ok (.ladd, 1) := by decide +kernel
theorem dX11_digestAccount_231 : decode cX11_digestAccount 231 = .ok (.lstore 4, 2) := by decide +kernel
theorem dX11_digestAccount_233 : decode cX11_digestAccount 233 = .ok (.iinc 8 1, 3) := by decide +kernel
theorem dX11_digestAccount_236 : decode cX11_digestAccount 236 = .ok (.goto (-27), 3) := by decide +kernel
theorem dX11_digestAccount_239 : decode cX11_digestAccount 239 = .ok (.ldc2_w 250, 3) := by decide +kernel
theorem dX11_digestAccount_242 : decode cX11_digestAccount 242 = .ok (.ldc2_w 250, 3) := by decide +kernel
theorem dX11_digestAccount_245 : decode cX11_digestAccount 245 = .ok (.lload 4, 2) := by decide +kernel
theorem dX11_digestAccount_247 : decode cX11_digestAccount 247 = .ok (.lmul, 1) := by decide +kernel
theorem dX11_digestAccount_248 : decode cX11_digestAccount 248 = .ok (.aload_n 0, 1) := by decide +kernel
theorem dX11_digestAccount_249 : decode cX11_digestAccount 249 = .ok (.iload_n 3, 1) := by decide +kernel
theorem dX11_digestAccount_250 : decode cX11_digestAccount 250 = .ok (.invokevirtual 221, 3) := by decide +kernel
theorem dX11_digestAccount_253 : decode cX11_digestAccount 253 = .ok (.i2l, 1) := by decide +kernel
theorem dX11_digestAccount_254 : decode cX11_digestAccount 254 = .ok (.ladd, 1) := by decide +kernel
theorem dX11_digestAccount_255 : decode cX11_digestAccount 255 = .ok (.lmul, 1) := by decide +kernel
theorem dX11_digestAccount_256 : decode cX11_digestAccount 256 = .ok (.aload_n 0, 1) := by decide +kernel
theorem dX11_digestAccount_257 : decode cX11_digestAccount 257 = .ok (.iload_n 3, 1) := by decide +kernel
theorem dX11_digestAccount_258 : decode cX11_digestAccount 258 = .ok (.bipush 16, 2) := by decide +kernel
theorem dX11_digestAccount_260 : decode cX11_digestAccount 260 = .ok (.invokevirtual 237, 3) := by decide +kernel
theorem dX11_digestAccount_263 : decode cX11_digestAccount 263 = .ok (.ladd, 1) := by decide +kernel
theorem dX11_digestAccount_264 : decode cX11_digestAccount 264 = .ok (.lstore 4, 2) := by decide +kernel
theorem dX11_digestAccount_266 : decode cX11_digestAccount 266 = .ok (.ldc2_w 250, 3) := by decide +kernel
theorem dX11_digestAccount_269 : decode cX11_digestAccount 269 = .ok (.ldc2_w 250, 3) := by decide +kernel
theorem dX11_digestAccount_272 : decode cX11_digestAccount 272 = .ok (.lload 4, 2) := by decide +kernel
theorem dX11_digestAccount_274 : decode cX11_digestAccount 274 = .ok (.lmul, 1) := by decide +kernel
theorem dX11_digestAccount_275 : decode cX11_digestAccount 275 = .ok (.aload_n 0, 1) := by decide +kernel
theorem dX11_digestAccount_276 : decode cX11_digestAccount 276 = .ok (.iload_n 3, 1) := by decide +kernel
theorem dX11_digestAccount_277 : decode cX11_digestAccount 277 = .ok (.invokevirtual 224, 3) := by decide +kernel
theorem dX11_digestAccount_280 : decode cX11_digestAccount 280 = .ok (.i2l, 1) := by decide +kernel
theorem dX11_digestAccount_281 : decode cX11_digestAccount 281 = .ok (.ladd, 1) := by decide +kernel
theorem dX11_digestAccount_282 : decode cX11_digestAccount 282 = .ok (.lmul, 1) := by decide +kernel
theorem dX11_digestAccount_283 : decode cX11_digestAccount 283 = .ok (.aload_n 0, 1) := by decide +kernel
theorem dX11_digestAccount_284 : decode cX11_digestAccount 284 = .ok (.iload_n 3, 1) := by decide +kernel
theorem dX11_digestAccount_285 : decode cX11_digestAccount 285 = .ok (.aload_n 0, 1) := by decide +kernel
theorem dX11_digestAccount_286 : decode cX11_digestAccount 286 = .ok (.iload_n 3, 1) := by decide +kernel
theorem dX11_digestAccount_287 : decode cX11_digestAccount 287 = .ok (.invokevirtual 224, 3) := by decide +kernel
theorem dX11_digestAccount_290 : decode cX11_digestAccount 290 = .ok (.iconst 1, 1) := by decide +kernel
theorem dX11_digestAccount_291 : decode cX11_digestAccount 291 = .ok (.isub, 1) := by decide +kernel
theorem dX11_digestAccount_292 : decode cX11_digestAccount 292 = .ok (.invokevirtual 227, 3) := by decide +kernel
theorem dX11_digestAccount_295 : decode cX11_digestAccount 295 = .ok (.i2l, 1) := by decide +kernel
theorem dX11_digestAccount_296 : decode cX11_digestAccount 296 = .ok (.ladd, 1) := by decide +kernel
theorem dX11_digestAccount_297 : decode cX11_digestAccount 297 = .ok (.lreturn, 1) := by decide +kernel
theorem dX11_digestPair_0 : decode cX11_digestPair 0 = .ok (.aload_n 0, 1) := by decide +kernel
theorem dX11_digestPair_1 : decode cX11_digestPair 1 = .ok (.iload_n 3, 1) := by decide +kernel
theorem dX11_digestPair_2 : decode cX11_digestPair 2 = .ok (.iload 4, 2) := by decide +kernel
theorem dX11_digestPair_4 : decode cX11_digestPair 4 = .ok (.invokevirtual 230, 3) := by decide +kernel
theorem dX11_digestPair_7 : decode cX11_digestPair 7 = .ok (.ldc2_w 250, 3) := by decide +kernel
theorem dX11_digestPair_10 : decode cX11_digestPair 10 = .ok (.ldc2_w 250, 3) := by decide +kernel
theorem dX11_digestPair_13 : decode cX11_digestPair 13 = .ok (.lload_n 1, 1) := by decide +kernel
theorem dX11_digestPair_14 : decode cX11_digestPair 14 = .ok (.lmul, 1) := by decide +kernel
theorem dX11_digestPair_15 : decode cX11_digestPair 15 = .ok (.aload_n 0, 1) := by decide +kernel
theorem dX11_digestPair_16 : decode cX11_digestPair 16 = .ok (.getfield 110, 3) := by decide +kernel
theorem dX11_digestPair_19 : decode cX11_digestPair 19 = .ok (.i2l, 1) := by decide +kernel
theorem dX11_digestPair_20 : decode cX11_digestPair 20 = .ok (.ladd, 1) := by decide +kernel
theorem dX11_digestPair_21 : decode cX11_digestPair 21 = .ok (.lmul, 1) := by decide +kernel
theorem dX11_digestPair_22 : decode cX11_digestPair 22 = .ok (.aload_n 0, 1) := by decide +kernel
theorem dX11_digestPair_23 : decode cX11_digestPair 23 = .ok (.getfield 113, 3) := by decide +kernel
theorem dX11_digestPair_26 : decode cX11_digestPair 26 = .ok (.i2l, 1) := by decide +kernel
theorem dX11_digestPair_27 : decode cX11_digestPair 27 = .ok (.ladd, 1) := by decide +kernel
theorem dX11_digestPair_28 : decode cX11_digestPair 28 = .ok (.lstore 5, 2) := by decide +kernel
theorem dX11_digestPair_30 : decode cX11_digestPair 30 = .ok (.iconst 0, 1) := by decide +kernel
theorem dX11_digestPair_31 : decode cX11_digestPair 31 = .ok (.istore 7, 2) := by decide +kernel
theorem dX11_digestPair_33 : decode cX11_digestPair 33 = .ok (.iload 7, 2) := by decide +kernel
theorem dX11_digestPair_35 : decode cX11_digestPair 35 = .ok (.aload_n 0, 1) := by decide +kernel
theorem dX11_digestPair_36 : decode cX11_digestPair 36 = .ok (.getfield 107, 3) := by decide +kernel
theorem dX11_digestPair_39 : decode cX11_digestPair 39 = .ok (.if_icmp .ge 26, 3) := by decide +kernel
theorem dX11_digestPair_42 : decode cX11_digestPair 42 = .ok (.ldc2_w 250, 3) := by decide +kernel
theorem dX11_digestPair_45 : decode cX11_digestPair 45 = .ok (.lload 5, 2) := by decide +kernel
theorem dX11_digestPair_47 : decode cX11_digestPair 47 = .ok (.lmul, 1) := by decide +kernel
theorem dX11_digestPair_48 : decode cX11_digestPair 48 = .ok (.aload_n 0, 1) := by decide +kernel
theorem dX11_digestPair_49 : decode cX11_digestPair 49 = .ok (.getfield 31, 3) := by decide +kernel
theorem dX11_digestPair_52 : decode cX11_digestPair 52 = .ok (.iload 7, 2) := by decide +kernel
theorem dX11_digestPair_54 : decode cX11_digestPair 54 = .ok (.iaload, 1) := by decide +kernel
theorem dX11_digestPair_55 : decode cX11_digestPair 55 = .ok (.i2l, 1) := by decide +kernel
theorem dX11_digestPair_56 : decode cX11_digestPair 56 = .ok (.ladd, 1) := by decide +kernel
theorem dX11_digestPair_57 : decode cX11_digestPair 57 = .ok (.lstore 5, 2) := by decide +kernel
theorem dX11_digestPair_59 : decode cX11_digestPair 59 = .ok (.iinc 7 1, 3) := by decide +kernel
theorem dX11_digestPair_62 : decode cX11_digestPair 62 = .ok (.goto (-29), 3) := by decide +kernel
theorem dX11_digestPair_65 : decode cX11_digestPair 65 = .ok (.ldc2_w 250, 3) := by decide +kernel
theorem dX11_digestPair_68 : decode cX11_digestPair 68 = .ok (.ldc2_w 250, 3) := by decide +kernel
theorem dX11_digestPair_71 : decode cX11_digestPair 71 = .ok (.lload 5, 2) := by decide +kernel
theorem dX11_digestPair_73 : decode cX11_digestPair 73 = .ok (.lmul, 1) := by decide +kernel
theorem dX11_digestPair_74 : decode cX11_digestPair 74 = .ok (.aload_n 0, 1) := by decide +kernel
theorem dX11_digestPair_75 : decode cX11_digestPair 75 = .ok (.iload_n 3, 1) := by decide +kernel
theorem dX11_digestPair_76 : decode cX11_digestPair 76 = .ok (.invokevirtual 82, 3) := by decide +kernel
theorem dX11_digestPair_79 : decode cX11_digestPair 79 = .ok (.i2l, 1) := by decide +kernel
theorem dX11_digestPair_80 : decode cX11_digestPair 80 = .ok (.aload_n 0, 1) := by decide +kernel
theorem dX11_digestPair_81 : decode cX11_digestPair 81 = .ok (.iload 4, 2) := by decide +kernel
theorem dX11_digestPair_83 : decode cX11_digestPair 83 = .ok (.invokevirtual 82, 3) := by decide +kernel
theorem dX11_digestPair_86 : decode cX11_digestPair 86 = .ok (.i2l, 1) := by decide +kernel
theorem dX11_digestPair_87 : decode cX11_digestPair 87 = .ok (.ladd, 1) := by decide +kernel
theorem dX11_digestPair_88 : decode cX11_digestPair 88 = .ok (.ladd, 1) := by decide +kernel
theorem dX11_digestPair_89 : decode cX11_digestPair 89 = .ok (.lmul, 1) := by decide +kernel
theorem dX11_digestPair_90 : decode cX11_digestPair 90 = .ok (.aload_n 0, 1) := by decide +kernel
theorem dX11_digestPair_91 : decode cX11_digestPair 91 = .ok (.iload_n 3, 1) := by decide +kernel
theorem dX11_digestPair_92 : decode cX11_digestPair 92 = .ok (.iload 4, 2) := by decide +kernel
theorem dX11_digestPair_94 : decode cX11_digestPair 94 = .ok (.iconst 1, 1) := by decide +kernel
theorem dX11_digestPair_95 : decode cX11_digestPair 95 = .ok (.invokevirtual 120, 3) := by decide +kernel
theorem dX11_digestPair_98 : decode cX11_digestPair 98 = .ok (.i2l, 1) := by decide +kernel
theorem dX11_digestPair_99 : decode cX11_digestPair 99 = .ok (.ladd, 1) := by decide +kernel
theorem dX11_digestPair_100 : decode cX11_digestPair 100 = .ok (.lstore 5, 2) := by decide +kernel
theorem dX11_digestPair_102 : decode cX11_digestPair 102 = .ok (.ldc2_w 250, 3) := by decide +kernel
theorem dX11_digestPair_105 : decode cX11_digestPair 105 = .ok (.ldc2_w 250, 3) := by decide +kernel
theorem dX11_digestPair_108 : decode cX11_digestPair 108 = .ok (.lload 5, 2) := by decide +kernel
theorem dX11_digestPair_110 : decode cX11_digestPair 110 = .ok (.lmul, 1) := by decide +kernel
theorem dX11_digestPair_111 : decode cX11_digestPair 111 = .ok (.aload_n 0, 1) := by decide +kernel
theorem dX11_digestPair_112 : decode cX11_digestPair 112 = .ok (.iload_n 3, 1) := by decide +kernel
theorem dX11_digestPair_113 : decode cX11_digestPair 113 = .ok (.iload 4, 2) := by decide +kernel
theorem dX11_digestPair_115 : decode cX11_digestPair 115 = .ok (.invokevirtual 240, 3) := by decide +kernel
theorem dX11_digestPair_118 : decode cX11_digestPair 118 = .ok (.i2l, 1) := by decide +kernel
theorem dX11_digestPair_119 : decode cX11_digestPair 119 = .ok (.ladd, 1) := by decide +kernel
theorem dX11_digestPair_120 : decode cX11_digestPair 120 = .ok (.lmul, 1) := by decide +kernel
theorem dX11_digestPair_121 : decode cX11_digestPair 121 = .ok (.aload_n 0, 1) := by decide +kernel
theorem dX11_digestPair_122 : decode cX11_digestPair 122 = .ok (.iload_n 3, 1) := by decide +kernel
theorem dX11_digestPair_123 : decode cX11_digestPair 123 = .ok (.iload 4, 2) := by decide +kernel
theorem dX11_digestPair_125 : decode cX11_digestPair 125 = .ok (.invokevirtual 78, 3) := by decide +kernel
theorem dX11_digestPair_128 : decode cX11_digestPair 128 = .ok (.i2l, 1) := by decide +kernel
theorem dX11_digestPair_129 : decode cX11_digestPair 129 = .ok (.ladd, 1) := by decide +kernel
theorem dX11_digestPair_130 : decode cX11_digestPair 130 = .ok (.lreturn, 1) := by decide +kernel
theorem dX11_digest_0 : decode cX11_digest 0 = .ok (.aload_n 0, 1) := by decide +kernel
theorem dX11_digest_1 : decode cX11_digest 1 = .ok (.iconst 0, 1) := by decide +kernel
theorem dX11_digest_2 : decode cX11_digest 2 = .ok (.putfield 34, 3) := by decide +kernel
theorem dX11_digest_5 : decode cX11_digest 5 = .ok (.ldc2_w 252, 3) := by decide +kernel
theorem dX11_digest_8 : decode cX11_digest 8 = .ok (.lstore_n 1, 1) := by decide +kernel
theorem dX11_digest_9 : decode cX11_digest 9 = .ok (.ldc2_w 250, 3) := by decide +kernel
theorem dX11_digest_12 : decode cX11_digest 12 = .ok (.ldc2_w 250, 3) := by decide +kernel
theorem dX11_digest_15 : decode cX11_digest 15 = .ok (.ldc2_w 250, 3) := by decide +kernel
theorem dX11_digest_18 : decode cX11_digest 18 = .ok (.lload_n 1, 1) := by decide +kernel
theorem dX11_digest_19 : decode cX11_digest 19 = .ok (.lmul, 1) := by decide +kernel
theorem dX11_digest_20 : decode cX11_digest 20 = .ok (.aload_n 0, 1) := by decide +kernel
theorem dX11_digest_21 : decode cX11_digest 21 = .ok (.getfield 7, 3) := by decide +kernel
theorem dX11_digest_24 : decode cX11_digest 24 = .ok (.iconst 0, 1) := by decide +kernel
theorem dX11_digest_25 : decode cX11_digest 25 = .ok (.iaload, 1) := by decide +kernel
theorem dX11_digest_26 : decode cX11_digest 26 = .ok (.i2l, 1) := by decide +kernel
theorem dX11_digest_27 : decode cX11_digest 27 = .ok (.ladd, 1) := by decide +kernel
theorem dX11_digest_28 : decode cX11_digest 28 = .ok (.lmul, 1) := by decide +kernel
theorem dX11_digest_29 : decode cX11_digest 29 = .ok (.aload_n 0, 1) := by decide +kernel
theorem dX11_digest_30 : decode cX11_digest 30 = .ok (.invokevirtual 203, 3) := by decide +kernel
theorem dX11_digest_33 : decode cX11_digest 33 = .ok (.i2l, 1) := by decide +kernel
theorem dX11_digest_34 : decode cX11_digest 34 = .ok (.ladd, 1) := by decide +kernel
theorem dX11_digest_35 : decode cX11_digest 35 = .ok (.lmul, 1) := by decide +kernel
theorem dX11_digest_36 : decode cX11_digest 36 = .ok (.aload_n 0, 1) := by decide +kernel
theorem dX11_digest_37 : decode cX11_digest 37 = .ok (.getfield 53, 3) := by decide +kernel
theorem dX11_digest_40 : decode cX11_digest 40 = .ok (.i2l, 1) := by decide +kernel
theorem dX11_digest_41 : decode cX11_digest 41 = .ok (.ladd, 1) := by decide +kernel
theorem dX11_digest_42 : decode cX11_digest 42 = .ok (.lstore_n 1, 1) := by decide +kernel
theorem dX11_digest_43 : decode cX11_digest 43 = .ok (.iconst 0, 1) := by decide +kernel
theorem dX11_digest_44 : decode cX11_digest 44 = .ok (.istore_n 3, 1) := by decide +kernel
theorem dX11_digest_45 : decode cX11_digest 45 = .ok (.iload_n 3, 1) := by decide +kernel
theorem dX11_digest_46 : decode cX11_digest 46 = .ok (.bipush 6, 2) := by decide +kernel
theorem dX11_digest_48 : decode cX11_digest 48 = .ok (.if_icmp .ge 16, 3) := by decide +kernel
theorem dX11_digest_51 : decode cX11_digest 51 = .ok (.aload_n 0, 1) := by decide +kernel
theorem dX11_digest_52 : decode cX11_digest 52 = .ok (.lload_n 1, 1) := by decide +kernel
theorem dX11_digest_53 : decode cX11_digest 53 = .ok (.iload_n 3, 1) := by decide +kernel
theorem dX11_digest_54 : decode cX11_digest 54 = .ok (.invokevirtual 254, 3) := by decide +kernel
theorem dX11_digest_57 : decode cX11_digest 57 = .ok (.lstore_n 1, 1) := by decide +kernel
theorem dX11_digest_58 : decode cX11_digest 58 = .ok (.iinc 3 1, 3) := by decide +kernel
theorem dX11_digest_61 : decode cX11_digest 61 = .ok (.goto (-16), 3) := by decide +kernel
theorem dX11_digest_64 : decode cX11_digest 64 = .ok (.iconst 0, 1) := by decide +kernel
theorem dX11_digest_65 : decode cX11_digest 65 = .ok (.istore_n 3, 1) := by decide +kernel
theorem dX11_digest_66 : decode cX11_digest 66 = .ok (.iload_n 3, 1) := by decide +kernel
theorem dX11_digest_67 : decode cX11_digest 67 = .ok (.bipush 6, 2) := by decide +kernel
theorem dX11_digest_69 : decode cX11_digest 69 = .ok (.if_icmp .ge 22, 3) := by decide +kernel
theorem dX11_digest_72 : decode cX11_digest 72 = .ok (.aload_n 0, 1) := by decide +kernel
theorem dX11_digest_73 : decode cX11_digest 73 = .ok (.lload_n 1, 1) := by decide +kernel
theorem dX11_digest_74 : decode cX11_digest 74 = .ok (.iload_n 3, 1) := by decide +kernel
theorem dX11_digest_75 : decode cX11_digest 75 = .ok (.iload_n 3, 1) := by decide +kernel
theorem dX11_digest_76 : decode cX11_digest 76 = .ok (.iconst 1, 1) := by decide +kernel
theorem dX11_digest_77 : decode cX11_digest 77 = .ok (.iadd, 1) := by decide +kernel
theorem dX11_digest_78 : decode cX11_digest 78 = .ok (.bipush 6, 2) := by decide +kernel
theorem dX11_digest_80 : decode cX11_digest 80 = .ok (.irem, 1) := by decide +kernel
theorem dX11_digest_81 : decode cX11_digest 81 = .ok (.invokevirtual 258, 3) := by decide +kernel
theorem dX11_digest_84 : decode cX11_digest 84 = .ok (.lstore_n 1, 1) := by decide +kernel
theorem dX11_digest_85 : decode cX11_digest 85 = .ok (.iinc 3 1, 3) := by decide +kernel
theorem dX11_digest_88 : decode cX11_digest 88 = .ok (.goto (-22), 3) := by decide +kernel
theorem dX11_digest_91 : decode cX11_digest 91 = .ok (.iconst 0, 1) := by decide +kernel
theorem dX11_digest_92 : decode cX11_digest 92 = .ok (.istore_n 3, 1) := by decide +kernel
theorem dX11_digest_93 : decode cX11_digest 93 = .ok (.iload_n 3, 1) := by decide +kernel
theorem dX11_digest_94 : decode cX11_digest 94 = .ok (.bipush 6, 2) := by decide +kernel
theorem dX11_digest_96 : decode cX11_digest 96 = .ok (.if_icmp .ge 24, 3) := by decide +kernel
theorem dX11_digest_99 : decode cX11_digest 99 = .ok (.ldc2_w 250, 3) := by decide +kernel
theorem dX11_digest_102 : decode cX11_digest 102 = .ok (.lload_n 1, 1) := by decide +kernel
theorem dX11_digest_103 : decode cX11_digest 103 = .ok (.lmul, 1) := by decide +kernel
theorem dX11_digest_104 : decode cX11_digest 104 = .ok (.aload_n 0, 1) := by decide +kernel
theorem dX11_digest_105 : decode cX11_digest 105 = .ok (.iload_n 3, 1) := by decide +kernel
theorem dX11_digest_106 : decode cX11_digest 106 = .ok (.invokevirtual 247, 3) := by decide +kernel
theorem dX11_digest_109 : decode cX11_digest 109 = .ok (.invokestatic 262, 3) := by decide +kernel
theorem dX11_digest_112 : decode cX11_digest 112 = .ok (.ladd, 1) := by decide +kernel
theorem dX11_digest_113 : decode cX11_digest 113 = .ok (.lstore_n 1, 1) := by decide +kernel
theorem dX11_digest_114 : decode cX11_digest 114 = .ok (.iinc 3 1, 3) := by decide +kernel
theorem dX11_digest_117 : decode cX11_digest 117 = .ok (.goto (-24), 3) := by decide +kernel
theorem dX11_digest_120 : decode cX11_digest 120 = .ok (.ldc2_w 250, 3) := by decide +kernel
theorem dX11_digest_123 : decode cX11_digest 123 = .ok (.lload_n 1, 1) := by decide +kernel
theorem dX11_digest_124 : decode cX11_digest 124 = .ok (.lmul, 1) := by decide +kernel
theorem dX11_digest_125 : decode cX11_digest 125 = .ok (.aload_n 0, 1) := by decide +kernel
theorem dX11_digest_126 : decode cX11_digest 126 = .ok (.getfield 7, 3) := by decide +kernel
theorem dX11_digest_129 : decode cX11_digest 129 = .ok (.iconst 1, 1) := by decide +kernel
theorem dX11_digest_130 : decode cX11_digest 130 = .ok (.iaload, 1) := by decide +kernel
theorem dX11_digest_131 : decode cX11_digest 131 = .ok (.iconst (-1), 1) := by decide +kernel
theorem dX11_digest_132 : decode cX11_digest 132 = .ok (.if_icmp .ne 7, 3) := by decide +kernel
theorem dX11_digest_135 : decode cX11_digest 135 = .ok (.iconst 0, 1) := by decide +kernel
theorem dX11_digest_136 : decode cX11_digest 136 = .ok (.goto 4, 3) := by decide +kernel
theorem dX11_digest_139 : decode cX11_digest 139 = .ok (.iconst 1, 1) := by decide +kernel
theorem dX11_digest_140 : decode cX11_digest 140 = .ok (.i2l, 1) := by decide +kernel
theorem dX11_digest_141 : decode cX11_digest 141 = .ok (.ladd, 1) := by decide +kernel
theorem dX11_digest_142 : decode cX11_digest 142 = .ok (.lstore_n 1, 1) := by decide +kernel
theorem dX11_digest_143 : decode cX11_digest 143 = .ok (.aload_n 0, 1) := by decide +kernel
theorem dX11_digest_144 : decode cX11_digest 144 = .ok (.getfield 7, 3) := by decide +kernel
theorem dX11_digest_147 : decode cX11_digest 147 = .ok (.iconst 1, 1) := by decide +kernel
theorem dX11_digest_148 : decode cX11_digest 148 = .ok (.iaload, 1) := by decide +kernel
theorem dX11_digest_149 : decode cX11_digest 149 = .ok (.iconst (-1), 1) := by decide +kernel
theorem dX11_digest_150 : decode cX11_digest 150 = .ok (.if_icmp .ne 7, 3) := by decide +kernel
theorem dX11_digest_153 : decode cX11_digest 153 = .ok (.lload_n 1, 1) := by decide +kernel
theorem dX11_digest_154 : decode cX11_digest 154 = .ok (.goto 28, 3) := by decide +kernel
theorem dX11_digest_157 : decode cX11_digest 157 = .ok (.ldc2_w 250, 3) := by decide +kernel
theorem dX11_digest_160 : decode cX11_digest 160 = .ok (.ldc2_w 250, 3) := by decide +kernel
theorem dX11_digest_163 : decode cX11_digest 163 = .ok (.lload_n 1, 1) := by decide +kernel
theorem dX11_digest_164 : decode cX11_digest 164 = .ok (.lmul, 1) := by decide +kernel
theorem dX11_digest_165 : decode cX11_digest 165 = .ok (.aload_n 0, 1) := by decide +kernel
theorem dX11_digest_166 : decode cX11_digest 166 = .ok (.getfield 7, 3) := by decide +kernel
theorem dX11_digest_169 : decode cX11_digest 169 = .ok (.iconst 1, 1) := by decide +kernel
theorem dX11_digest_170 : decode cX11_digest 170 = .ok (.iaload, 1) := by decide +kernel
theorem dX11_digest_171 : decode cX11_digest 171 = .ok (.i2l, 1) := by decide +kernel
theorem dX11_digest_172 : decode cX11_digest 172 = .ok (.ladd, 1) := by decide +kernel
theorem dX11_digest_173 : decode cX11_digest 173 = .ok (.lmul, 1) := by decide +kernel
theorem dX11_digest_174 : decode cX11_digest 174 = .ok (.aload_n 0, 1) := by decide +kernel
theorem dX11_digest_175 : decode cX11_digest 175 = .ok (.getfield 7, 3) := by decide +kernel
theorem dX11_digest_178 : decode cX11_digest 178 = .ok (.iconst 2, 1) := by decide +kernel
theorem dX11_digest_179 : decode cX11_digest 179 = .ok (.iaload, 1) := by decide +kernel
theorem dX11_digest_180 : decode cX11_digest 180 = .ok (.i2l, 1) := by decide +kernel
theorem dX11_digest_181 : decode cX11_digest 181 = .ok (.ladd, 1) := by decide +kernel
theorem dX11_digest_182 : decode cX11_digest 182 = .ok (.lstore_n 1, 1) := by decide +kernel
theorem dX11_digest_183 : decode cX11_digest 183 = .ok (.ldc2_w 250, 3) := by decide +kernel
theorem dX11_digest_186 : decode cX11_digest 186 = .ok (.lload_n 1, 1) := by decide +kernel
theorem dX11_digest_187 : decode cX11_digest 187 = .ok (.lmul, 1) := by decide +kernel
theorem dX11_digest_188 : decode cX11_digest 188 = .ok (.aload_n 0, 1) := by decide +kernel
theorem dX11_digest_189 : decode cX11_digest 189 = .ok (.getfield 148, 3) := by decide +kernel
theorem dX11_digest_192 : decode cX11_digest 192 = .ok (.i2l, 1) := by decide +kernel
theorem dX11_digest_193 : decode cX11_digest 193 = .ok (.ladd, 1) := by decide +kernel
theorem dX11_digest_194 : decode cX11_digest 194 = .ok (.lstore_n 1, 1) := by decide +kernel
theorem dX11_digest_195 : decode cX11_digest 195 = .ok (.iconst 0, 1) := by decide +kernel
theorem dX11_digest_196 : decode cX11_digest 196 = .ok (.istore_n 3, 1) := by decide +kernel
theorem dX11_digest_197 : decode cX11_digest 197 = .ok (.iload_n 3, 1) := by decide +kernel
theorem dX11_digest_198 : decode cX11_digest 198 = .ok (.aload_n 0, 1) := by decide +kernel
theorem dX11_digest_199 : decode cX11_digest 199 = .ok (.getfield 148, 3) := by decide +kernel
theorem dX11_digest_202 : decode cX11_digest 202 = .ok (.if_icmp .ge 23, 3) := by decide +kernel
theorem dX11_digest_205 : decode cX11_digest 205 = .ok (.ldc2_w 250, 3) := by decide +kernel
theorem dX11_digest_208 : decode cX11_digest 208 = .ok (.lload_n 1, 1) := by decide +kernel
theorem dX11_digest_209 : decode cX11_digest 209 = .ok (.lmul, 1) := by decide +kernel
theorem dX11_digest_210 : decode cX11_digest 210 = .ok (.aload_n 0, 1) := by decide +kernel
theorem dX11_digest_211 : decode cX11_digest 211 = .ok (.getfield 19, 3) := by decide +kernel
theorem dX11_digest_214 : decode cX11_digest 214 = .ok (.iload_n 3, 1) := by decide +kernel
theorem dX11_digest_215 : decode cX11_digest 215 = .ok (.iaload, 1) := by decide +kernel
theorem dX11_digest_216 : decode cX11_digest 216 = .ok (.i2l, 1) := by decide +kernel
theorem dX11_digest_217 : decode cX11_digest 217 = .ok (.ladd, 1) := by decide +kernel
theorem dX11_digest_218 : decode cX11_digest 218 = .ok (.lstore_n 1, 1) := by decide +kernel
theorem dX11_digest_219 : decode cX11_digest 219 = .ok (.iinc 3 1, 3) := by decide +kernel
theorem dX11_digest_222 : decode cX11_digest 222 = .ok (.goto (-25), 3) := by decide +kernel
theorem dX11_digest_225 : decode cX11_digest 225 = .ok (.lload_n 1, 1) := by decide +kernel
theorem dX11_digest_226 : decode cX11_digest 226 = .ok (.lreturn, 1) := by decide +kernel
theorem dJxe99ae_isNaN_b9ae7_0 : decode cJxe99ae_isNaN_b9ae7 0 = .ok (.dload_n 0, 1) := by decide +kernel
theorem dJxe99ae_isNaN_b9ae7_1 : decode cJxe99ae_isNaN_b9ae7 1 = .ok (.dload_n 0, 1) := by decide +kernel
theorem dJxe99ae_isNaN_b9ae7_2 : decode cJxe99ae_isNaN_b9ae7 2 = .ok (.dcmp .l, 1) := by decide +kernel
theorem dJxe99ae_isNaN_b9ae7_3 : decode cJxe99ae_isNaN_b9ae7 3 = .ok (.ifCond .eq 7, 3) := by decide +kernel
theorem dJxe99ae_isNaN_b9ae7_6 : decode cJxe99ae_isNaN_b9ae7 6 = .ok (.iconst 1, 1) := by decide +kernel
theorem dJxe99ae_isNaN_b9ae7_7 : decode cJxe99ae_isNaN_b9ae7 7 = .ok (.goto 4, 3) := by decide +kernel
theorem dJxe99ae_isNaN_b9ae7_10 : decode cJxe99ae_isNaN_b9ae7 10 = .ok (.iconst 0, 1) := by decide +kernel
theorem dJxe99ae_isNaN_b9ae7_11 : decode cJxe99ae_isNaN_b9ae7 11 = .ok (.ireturn, 1) := by decide +kernel
theorem dJxe99ae_doubleToLongBits_ccdee_0 : decode cJxe99ae_doubleToLongBits_ccdee 0 = .ok (.dload_n 0, 1) := by decide +kernel
theorem dJxe99ae_doubleToLongBits_ccdee_1 : decode cJxe99ae_doubleToLongBits_ccdee 1 = .ok (.invokestatic 122, 3) := by decide +kernel
theorem dJxe99ae_doubleToLongBits_ccdee_4 : decode cJxe99ae_doubleToLongBits_ccdee 4 = .ok (.ifCond .ne 8, 3) := by decide +kernel
theorem dJxe99ae_doubleToLongBits_ccdee_7 : decode cJxe99ae_doubleToLongBits_ccdee 7 = .ok (.dload_n 0, 1) := by decide +kernel
theorem dJxe99ae_doubleToLongBits_ccdee_8 : decode cJxe99ae_doubleToLongBits_ccdee 8 = .ok (.invokestatic 134, 3) := by decide +kernel
theorem dJxe99ae_doubleToLongBits_ccdee_11 : decode cJxe99ae_doubleToLongBits_ccdee 11 = .ok (.lreturn, 1) := by decide +kernel
theorem dJxe99ae_doubleToLongBits_ccdee_12 : decode cJxe99ae_doubleToLongBits_ccdee 12 = .ok (.ldc2_w 137, 3) := by decide +kernel
theorem dJxe99ae_doubleToLongBits_ccdee_15 : decode cJxe99ae_doubleToLongBits_ccdee 15 = .ok (.lreturn, 1) := by decide +kernel
theorem dJ9_abs_0f7a4_0 : decode cJ9_abs_0f7a4 0 = .ok (.iload_n 0, 1) := by decide +kernel
theorem dJ9_abs_0f7a4_1 : decode cJ9_abs_0f7a4 1 = .ok (.ifCond .ge 8, 3) := by decide +kernel
theorem dJ9_abs_0f7a4_4 : decode cJ9_abs_0f7a4 4 = .ok (.iload_n 0, 1) := by decide +kernel
theorem dJ9_abs_0f7a4_5 : decode cJ9_abs_0f7a4 5 = .ok (.ineg, 1) := by decide +kernel
theorem dJ9_abs_0f7a4_6 : decode cJ9_abs_0f7a4 6 = .ok (.goto 4, 3) := by decide +kernel
theorem dJ9_abs_0f7a4_9 : decode cJ9_abs_0f7a4 9 = .ok (.iload_n 0, 1) := by decide +kernel
theorem dJ9_abs_0f7a4_10 : decode cJ9_abs_0f7a4 10 = .ok (.ireturn, 1) := by decide +kernel
theorem dJ9_abs_067f4_0 : decode cJ9_abs_067f4 0 = .ok (.lload_n 0, 1) := by decide +kernel
theorem dJ9_abs_067f4_1 : decode cJ9_abs_067f4 1 = .ok (.lconst 0, 1) := by decide +kernel
theorem dJ9_abs_067f4_2 : decode cJ9_abs_067f4 2 = .ok (.lcmp, 1) := by decide +kernel
theorem dJ9_abs_067f4_3 : decode cJ9_abs_067f4 3 = .ok (.ifCond .ge 8, 3) := by decide +kernel
theorem dJ9_abs_067f4_6 : decode cJ9_abs_067f4 6 = .ok (.lload_n 0, 1) := by decide +kernel
theorem dJ9_abs_067f4_7 : decode cJ9_abs_067f4 7 = .ok (.lneg, 1) := by decide +kernel
theorem dJ9_abs_067f4_8 : decode cJ9_abs_067f4 8 = .ok (.goto 4, 3) := by decide +kernel
theorem dJ9_abs_067f4_11 : decode cJ9_abs_067f4 11 = .ok (.lload_n 0, 1) := by decide +kernel
theorem dJ9_abs_067f4_12 : decode cJ9_abs_067f4 12 = .ok (.lreturn, 1) := by decide +kernel
theorem dJ9_max_7cf53_0 : decode cJ9_max_7cf53 0 = .ok (.iload_n 0, 1) := by decide +kernel
theorem dJ9_max_7cf53_1 : decode cJ9_max_7cf53 1 = .ok (.iload_n 1, 1) := by decide +kernel
theorem dJ9_max_7cf53_2 : decode cJ9_max_7cf53 2 = .ok (.if_icmp .lt 7, 3) := by decide +kernel
theorem dJ9_max_7cf53_5 : decode cJ9_max_7cf53 5 = .ok (.iload_n 0, 1) := by decide +kernel
theorem dJ9_max_7cf53_6 : decode cJ9_max_7cf53 6 = .ok (.goto 4, 3) := by decide +kernel
theorem dJ9_max_7cf53_9 : decode cJ9_max_7cf53 9 = .ok (.iload_n 1, 1) := by decide +kernel
theorem dJ9_max_7cf53_10 : decode cJ9_max_7cf53 10 = .ok (.ireturn, 1) := by decide +kernel
theorem dJ9_min_7cf53_0 : decode cJ9_min_7cf53 0 = .ok (.iload_n 0, 1) := by decide +kernel
theorem dJ9_min_7cf53_1 : decode cJ9_min_7cf53 1 = .ok (.iload_n 1, 1) := by decide +kernel
theorem dJ9_min_7cf53_2 : decode cJ9_min_7cf53 2 = .ok (.if_icmp .gt 7, 3) := by decide +kernel
theorem dJ9_min_7cf53_5 : decode cJ9_min_7cf53 5 = .ok (.iload_n 0, 1) := by decide +kernel
theorem dJ9_min_7cf53_6 : decode cJ9_min_7cf53 6 = .ok (.goto 4, 3) := by decide +kernel
theorem dJ9_min_7cf53_9 : decode cJ9_min_7cf53 9 = .ok (.iload_n 1, 1) := by decide +kernel
theorem dJ9_min_7cf53_10 : decode cJ9_min_7cf53 10 = .ok (.ireturn, 1) := by decide +kernel
theorem dL_setBase_0 : decode cL_setBase 0 = .ok (.aload_n 2, 1) := by decide +kernel
theorem dL_setBase_1 : decode cL_setBase 1 = .ok (.iconst 0, 1) := by decide +kernel
theorem dL_setBase_2 : decode cL_setBase 2 = .ok (.aload_n 0, 1) := by decide +kernel
theorem dL_setBase_3 : decode cL_setBase 3 = .ok (.iload_n 1, 1) := by decide +kernel
theorem dL_setBase_4 : decode cL_setBase 4 = .ok (.invokevirtual 7, 3) := by decide +kernel
theorem dL_setBase_7 : decode cL_setBase 7 = .ok (.i2l, 1) := by decide +kernel
theorem dL_setBase_8 : decode cL_setBase 8 = .ok (.lastore, 1) := by decide +kernel
theorem dL_setBase_9 : decode cL_setBase 9 = .ok (.goto 6, 3) := by decide +kernel
theorem dL_setBase_12 : decode cL_setBase 12 = .ok (.astore_n 3, 1) := by decide +kernel
theorem dL_setBase_13 : decode cL_setBase 13 = .ok (.iconst 1, 1) := by decide +kernel
theorem dL_setBase_14 : decode cL_setBase 14 = .ok (.ireturn, 1) := by decide +kernel
theorem dL_setBase_15 : decode cL_setBase 15 = .ok (.iconst 0, 1) := by decide +kernel
theorem dL_setBase_16 : decode cL_setBase 16 = .ok (.ireturn, 1) := by decide +kernel
theorem dL_setFraction_0 : decode cL_setFraction 0 = .ok (.aload 4, 2) := by decide +kernel
theorem dL_setFraction_2 : decode cL_setFraction 2 = .ok (.iconst 0, 1) := by decide +kernel
theorem dL_setFraction_3 : decode cL_setFraction 3 = .ok (.aload_n 0, 1) := by decide +kernel
theorem dL_setFraction_4 : decode cL_setFraction 4 = .ok (.iload_n 1, 1) := by decide +kernel
theorem dL_setFraction_5 : decode cL_setFraction 5 = .ok (.iload_n 2, 1) := by decide +kernel
theorem dL_setFraction_6 : decode cL_setFraction 6 = .ok (.iload_n 3, 1) := by decide +kernel
theorem dL_setFraction_7 : decode cL_setFraction 7 = .ok (.invokevirtual 15, 3) := by decide +kernel
theorem dL_setFraction_10 : decode cL_setFraction 10 = .ok (.i2l, 1) := by decide +kernel
theorem dL_setFraction_11 : decode cL_setFraction 11 = .ok (.lastore, 1) := by decide +kernel
theorem dL_setFraction_12 : decode cL_setFraction 12 = .ok (.goto 11, 3) := by decide +kernel
theorem dL_setFraction_15 : decode cL_setFraction 15 = .ok (.astore 5, 2) := by decide +kernel
theorem dL_setFraction_17 : decode cL_setFraction 17 = .ok (.iconst 1, 1) := by decide +kernel
theorem dL_setFraction_18 : decode cL_setFraction 18 = .ok (.ireturn, 1) := by decide +kernel
theorem dL_setFraction_19 : decode cL_setFraction 19 = .ok (.astore 5, 2) := by decide +kernel
theorem dL_setFraction_21 : decode cL_setFraction 21 = .ok (.iconst 2, 1) := by decide +kernel
theorem dL_setFraction_22 : decode cL_setFraction 22 = .ok (.ireturn, 1) := by decide +kernel
theorem dL_setFraction_23 : decode cL_setFraction 23 = .ok (.iconst 0, 1) := by decide +kernel
theorem dL_setFraction_24 : decode cL_setFraction 24 = .ok (.ireturn, 1) := by decide +kernel
theorem dL_add_0 : decode cL_add 0 = .ok (.aload_n 3, 1) := by decide +kernel
theorem dL_add_1 : decode cL_add 1 = .ok (.iconst 0, 1) := by decide +kernel
theorem dL_add_2 : decode cL_add 2 = .ok (.aload_n 0, 1) := by decide +kernel
theorem dL_add_3 : decode cL_add 3 = .ok (.iload_n 1, 1) := by decide +kernel
theorem dL_add_4 : decode cL_add 4 = .ok (.iload_n 2, 1) := by decide +kernel
theorem dL_add_5 : decode cL_add 5 = .ok (.invokevirtual 21, 3) := by decide +kernel
theorem dL_add_8 : decode cL_add 8 = .ok (.i2l, 1) := by decide +kernel
theorem dL_add_9 : decode cL_add 9 = .ok (.lastore, 1) := by decide +kernel
theorem dL_add_10 : decode cL_add 10 = .ok (.goto 11, 3) := by decide +kernel
theorem dL_add_13 : decode cL_add 13 = .ok (.astore 4, 2) := by decide +kernel
theorem dL_add_15 : decode cL_add 15 = .ok (.iconst 1, 1) := by decide +kernel
theorem dL_add_16 : decode cL_add 16 = .ok (.ireturn, 1) := by decide +kernel
theorem dL_add_17 : decode cL_add 17 = .ok (.astore 4, 2) := by decide +kernel
theorem dL_add_19 : decode cL_add 19 = .ok (.iconst 2, 1) := by decide +kernel
theorem dL_add_20 : decode cL_add 20 = .ok (.ireturn, 1) := by decide +kernel
theorem dL_add_21 : decode cL_add 21 = .ok (.iconst 0, 1) := by decide +kernel
theorem dL_add_22 : decode cL_add 22 = .ok (.ireturn, 1) := by decide +kernel
theorem dL_subtract_0 : decode cL_subtract 0 = .ok (.aload_n 3, 1) := by decide +kernel
theorem dL_subtract_1 : decode cL_subtract 1 = .ok (.iconst 0, 1) := by decide +kernel
theorem dL_subtract_2 : decode cL_subtract 2 = .ok (.aload_n 0, 1) := by decide +kernel
theorem dL_subtract_3 : decode cL_subtract 3 = .ok (.iload_n 1, 1) := by decide +kernel
theorem dL_subtract_4 : decode cL_subtract 4 = .ok (.iload_n 2, 1) := by decide +kernel
theorem dL_subtract_5 : decode cL_subtract 5 = .ok (.invokevirtual 27, 3) := by decide +kernel
theorem dL_subtract_8 : decode cL_subtract 8 = .ok (.i2l, 1) := by decide +kernel
theorem dL_subtract_9 : decode cL_subtract 9 = .ok (.lastore, 1) := by decide +kernel
theorem dL_subtract_10 : decode cL_subtract 10 = .ok (.goto 11, 3) := by decide +kernel
theorem dL_subtract_13 : decode cL_subtract 13 = .ok (.astore 4, 2) := by decide +kernel
theorem dL_subtract_15 : decode cL_subtract 15 = .ok (.iconst 1, 1) := by decide +kernel
theorem dL_subtract_16 : decode cL_subtract 16 = .ok (.ireturn, 1) := by decide +kernel
theorem dL_subtract_17 : decode cL_subtract 17 = .ok (.astore 4, 2) := by decide +kernel
theorem dL_subtract_19 : decode cL_subtract 19 = .ok (.iconst 2, 1) := by decide +kernel
theorem dL_subtract_20 : decode cL_subtract 20 = .ok (.ireturn, 1) := by decide +kernel
theorem dL_subtract_21 : decode cL_subtract 21 = .ok (.iconst 0, 1) := by decide +kernel
theorem dL_subtract_22 : decode cL_subtract 22 = .ok (.ireturn, 1) := by decide +kernel
theorem dL_shift_0 : decode cL_shift 0 = .ok (.aload_n 3, 1) := by decide +kernel
theorem dL_shift_1 : decode cL_shift 1 = .ok (.iconst 0, 1) := by decide +kernel
theorem dL_shift_2 : decode cL_shift 2 = .ok (.aload_n 0, 1) := by decide +kernel
theorem dL_shift_3 : decode cL_shift 3 = .ok (.iload_n 1, 1) := by decide +kernel
theorem dL_shift_4 : decode cL_shift 4 = .ok (.iload_n 2, 1) := by decide +kernel
theorem dL_shift_5 : decode cL_shift 5 = .ok (.invokevirtual 30, 3) := by decide +kernel
theorem dL_shift_8 : decode cL_shift 8 = .ok (.i2l, 1) := by decide +kernel
theorem dL_shift_9 : decode cL_shift 9 = .ok (.lastore, 1) := by decide +kernel
theorem dL_shift_10 : decode cL_shift 10 = .ok (.goto 15, 3) := by decide +kernel
theorem dL_shift_13 : decode cL_shift 13 = .ok (.astore 4, 2) := by decide +kernel
theorem dL_shift_15 : decode cL_shift 15 = .ok (.iconst 1, 1) := by decide +kernel
theorem dL_shift_16 : decode cL_shift 16 = .ok (.ireturn, 1) := by decide +kernel
theorem dL_shift_17 : decode cL_shift 17 = .ok (.astore 4, 2) := by decide +kernel
theorem dL_shift_19 : decode cL_shift 19 = .ok (.iconst 2, 1) := by decide +kernel
theorem dL_shift_20 : decode cL_shift 20 = .ok (.ireturn, 1) := by decide +kernel
theorem dL_shift_21 : decode cL_shift 21 = .ok (.astore 4, 2) := by decide +kernel
theorem dL_shift_23 : decode cL_shift 23 = .ok (.iconst 3, 1) := by decide +kernel
theorem dL_shift_24 : decode cL_shift 24 = .ok (.ireturn, 1) := by decide +kernel
theorem dL_shift_25 : decode cL_shift 25 = .ok (.iconst 0, 1) := by decide +kernel
theorem dL_shift_26 : decode cL_shift 26 = .ok (.ireturn, 1) := by decide +kernel
theorem dL_pay_0 : decode cL_pay 0 = .ok (.aload 4, 2) := by decide +kernel
theorem dL_pay_2 : decode cL_pay 2 = .ok (.iconst 0, 1) := by decide +kernel
theorem dL_pay_3 : decode cL_pay 3 = .ok (.aload_n 0, 1) := by decide +kernel
theorem dL_pay_4 : decode cL_pay 4 = .ok (.iload_n 1, 1) := by decide +kernel
theorem dL_pay_5 : decode cL_pay 5 = .ok (.iload_n 2, 1) := by decide +kernel
theorem dL_pay_6 : decode cL_pay 6 = .ok (.iload_n 3, 1) := by decide +kernel
theorem dL_pay_7 : decode cL_pay 7 = .ok (.invokevirtual 33, 3) := by decide +kernel
theorem dL_pay_10 : decode cL_pay 10 = .ok (.i2l, 1) := by decide +kernel
theorem dL_pay_11 : decode cL_pay 11 = .ok (.lastore, 1) := by decide +kernel
theorem dL_pay_12 : decode cL_pay 12 = .ok (.goto 15, 3) := by decide +kernel
theorem dL_pay_15 : decode cL_pay 15 = .ok (.astore 5, 2) := by decide +kernel
theorem dL_pay_17 : decode cL_pay 17 = .ok (.iconst 1, 1) := by decide +kernel
theorem dL_pay_18 : decode cL_pay 18 = .ok (.ireturn, 1) := by decide +kernel
theorem dL_pay_19 : decode cL_pay 19 = .ok (.astore 5, 2) := by decide +kernel
theorem dL_pay_21 : decode cL_pay 21 = .ok (.iconst 2, 1) := by decide +kernel
theorem dL_pay_22 : decode cL_pay 22 = .ok (.ireturn, 1) := by decide +kernel
theorem dL_pay_23 : decode cL_pay 23 = .ok (.astore 5, 2) := by decide +kernel
theorem dL_pay_25 : decode cL_pay 25 = .ok (.iconst 3, 1) := by decide +kernel
theorem dL_pay_26 : decode cL_pay 26 = .ok (.ireturn, 1) := by decide +kernel
theorem dL_pay_27 : decode cL_pay 27 = .ok (.iconst 0, 1) := by decide +kernel
theorem dL_pay_28 : decode cL_pay 28 = .ok (.ireturn, 1) := by decide +kernel
theorem dL_append_0 : decode cL_append 0 = .ok (.aload_n 2, 1) := by decide +kernel
theorem dL_append_1 : decode cL_append 1 = .ok (.iconst 0, 1) := by decide +kernel
theorem dL_append_2 : decode cL_append 2 = .ok (.aload_n 0, 1) := by decide +kernel
theorem dL_append_3 : decode cL_append 3 = .ok (.iload_n 1, 1) := by decide +kernel
theorem dL_append_4 : decode cL_append 4 = .ok (.invokevirtual 36, 3) := by decide +kernel
theorem dL_append_7 : decode cL_append 7 = .ok (.i2l, 1) := by decide +kernel
theorem dL_append_8 : decode cL_append 8 = .ok (.lastore, 1) := by decide +kernel
theorem dL_append_9 : decode cL_append 9 = .ok (.goto 9, 3) := by decide +kernel
theorem dL_append_12 : decode cL_append 12 = .ok (.astore_n 3, 1) := by decide +kernel
theorem dL_append_13 : decode cL_append 13 = .ok (.iconst 1, 1) := by decide +kernel
theorem dL_append_14 : decode cL_append 14 = .ok (.ireturn, 1) := by decide +kernel
theorem dL_append_15 : decode cL_append 15 = .ok (.astore_n 3, 1) := by decide +kernel
theorem dL_append_16 : decode cL_append 16 = .ok (.iconst 2, 1) := by decide +kernel
theorem dL_append_17 : decode cL_append 17 = .ok (.ireturn, 1) := by decide +kernel
theorem dL_append_18 : decode cL_append 18 = .ok (.iconst 0, 1) := by decide +kernel
theorem dL_append_19 : decode cL_append 19 = .ok (.ireturn, 1) := by decide +kernel
theorem dL_enter_0 : decode cL_enter 0 = .ok (.aload_n 1, 1) := by decide +kernel
theorem dL_enter_1 : decode cL_enter 1 = .ok (.iconst 0, 1) := by decide +kernel
theorem dL_enter_2 : decode cL_enter 2 = .ok (.aload_n 0, 1) := by decide +kernel
theorem dL_enter_3 : decode cL_enter 3 = .ok (.invokevirtual 39, 3) := by decide +kernel
theorem dL_enter_6 : decode cL_enter 6 = .ok (.i2l, 1) := by decide +kernel
theorem dL_enter_7 : decode cL_enter 7 = .ok (.lastore, 1) := by decide +kernel
theorem dL_enter_8 : decode cL_enter 8 = .ok (.goto 6, 3) := by decide +kernel
theorem dL_enter_11 : decode cL_enter 11 = .ok (.astore_n 2, 1) := by decide +kernel
theorem dL_enter_12 : decode cL_enter 12 = .ok (.iconst 1, 1) := by decide +kernel
theorem dL_enter_13 : decode cL_enter 13 = .ok (.ireturn, 1) := by decide +kernel
theorem dL_enter_14 : decode cL_enter 14 = .ok (.iconst 0, 1) := by decide +kernel
theorem dL_enter_15 : decode cL_enter 15 = .ok (.ireturn, 1) := by decide +kernel
theorem dL_stoppedPart_0 : decode cL_stoppedPart 0 = .ok (.aload_n 1, 1) := by decide +kernel
theorem dL_stoppedPart_1 : decode cL_stoppedPart 1 = .ok (.iconst 0, 1) := by decide +kernel
theorem dL_stoppedPart_2 : decode cL_stoppedPart 2 = .ok (.aload_n 0, 1) := by decide +kernel
theorem dL_stoppedPart_3 : decode cL_stoppedPart 3 = .ok (.invokevirtual 43, 3) := by decide +kernel
theorem dL_stoppedPart_6 : decode cL_stoppedPart 6 = .ok (.i2l, 1) := by decide +kernel
theorem dL_stoppedPart_7 : decode cL_stoppedPart 7 = .ok (.lastore, 1) := by decide +kernel
theorem dL_stoppedPart_8 : decode cL_stoppedPart 8 = .ok (.goto 6, 3) := by decide +kernel
theorem dL_stoppedPart_11 : decode cL_stoppedPart 11 = .ok (.astore_n 2, 1) := by decide +kernel
theorem dL_stoppedPart_12 : decode cL_stoppedPart 12 = .ok (.iconst 1, 1) := by decide +kernel
theorem dL_stoppedPart_13 : decode cL_stoppedPart 13 = .ok (.ireturn, 1) := by decide +kernel
theorem dL_stoppedPart_14 : decode cL_stoppedPart 14 = .ok (.iconst 0, 1) := by decide +kernel
theorem dL_stoppedPart_15 : decode cL_stoppedPart 15 = .ok (.ireturn, 1) := by decide +kernel
theorem dL_whyStopped_0 : decode cL_whyStopped 0 = .ok (.aload_n 1, 1) := by decide +kernel
theorem dL_whyStopped_1 : decode cL_whyStopped 1 = .ok (.iconst 0, 1) := by decide +kernel
theorem dL_whyStopped_2 : decode cL_whyStopped 2 = .ok (.aload_n 0, 1) := by decide +kernel
theorem dL_whyStopped_3 : decode cL_whyStopped 3 = .ok (.invokevirtual 46, 3) := by decide +kernel
theorem dL_whyStopped_6 : decode cL_whyStopped 6 = .ok (.i2l, 1) := by decide +kernel
theorem dL_whyStopped_7 : decode cL_whyStopped 7 = .ok (.lastore, 1) := by decide +kernel
theorem dL_whyStopped_8 : decode cL_whyStopped 8 = .ok (.goto 6, 3) := by decide +kernel
theorem dL_whyStopped_11 : decode cL_whyStopped 11 = .ok (.astore_n 2, 1) := by decide +kernel
theorem dL_whyStopped_12 : decode cL_whyStopped 12 = .ok (.iconst 1, 1) := by decide +kernel
theorem dL_whyStopped_13 : decode cL_whyStopped 13 = .ok (.ireturn, 1) := by decide +kernel
theorem dL_whyStopped_14 : decode cL_whyStopped 14 = .ok (.iconst 0, 1) := by decide +kernel
theorem dL_whyStopped_15 : decode cL_whyStopped 15 = .ok (.ireturn, 1) := by decide +kernel
theorem dL_undo_0 : decode cL_undo 0 = .ok (.aload_n 1, 1) := by decide +kernel
theorem dL_undo_1 : decode cL_undo 1 = .ok (.iconst 0, 1) := by decide +kernel
theorem dL_undo_2 : decode cL_undo 2 = .ok (.aload_n 0, 1) := by decide +kernel
theorem dL_undo_3 : decode cL_undo 3 = .ok (.invokevirtual 49, 3) := by decide +kernel
theorem dL_undo_6 : decode cL_undo 6 = .ok (.i2l, 1) := by decide +kernel
theorem dL_undo_7 : decode cL_undo 7 = .ok (.lastore, 1) := by decide +kernel
theorem dL_undo_8 : decode cL_undo 8 = .ok (.goto 6, 3) := by decide +kernel
theorem dL_undo_11 : decode cL_undo 11 = .ok (.astore_n 2, 1) := by decide +kernel
theorem dL_undo_12 : decode cL_undo 12 = .ok (.iconst 1, 1) := by decide +kernel
theorem dL_undo_13 : decode cL_undo 13 = .ok (.ireturn, 1) := by decide +kernel
theorem dL_undo_14 : decode cL_undo 14 = .ok (.iconst 0, 1) := by decide +kernel
theorem dL_undo_15 : decode cL_undo 15 = .ok (.ireturn, 1) := by decide +kernel
theorem dL_restore_0 : decode cL_restore 0 = .ok (.aload_n 1, 1) := by decide +kernel
theorem dL_restore_1 : decode cL_restore 1 = .ok (.iconst 0, 1) := by decide +kernel
theorem dL_restore_2 : decode cL_restore 2 = .ok (.aload_n 0, 1) := by decide +kernel
theorem dL_restore_3 : decode cL_restore 3 = .ok (.invokevirtual 52, 3) := by decide +kernel
theorem dL_restore_6 : decode cL_restore 6 = .ok (.i2l, 1) := by decide +kernel
theorem dL_restore_7 : decode cL_restore 7 = .ok (.lastore, 1) := by decide +kernel
theorem dL_restore_8 : decode cL_restore 8 = .ok (.goto 6, 3) := by decide +kernel
theorem dL_restore_11 : decode cL_restore 11 = .ok (.astore_n 2, 1) := by decide +kernel
theorem dL_restore_12 : decode cL_restore 12 = .ok (.iconst 1, 1) := by decide +kernel
theorem dL_restore_13 : decode cL_restore 13 = .ok (.ireturn, 1) := by decide +kernel
theorem dL_restore_14 : decode cL_restore 14 = .ok (.iconst 0, 1) := by decide +kernel
theorem dL_restore_15 : decode cL_restore 15 = .ok (.ireturn, 1) := by decide +kernel
theorem dL_numerator_0 : decode cL_numerator 0 = .ok (.aload_n 2, 1) := by decide +kernel
theorem dL_numerator_1 : decode cL_numerator 1 = .ok (.iconst 0, 1) := by decide +kernel
theorem dL_numerator_2 : decode cL_numerator 2 = .ok (.aload_n 0, 1) := by decide +kernel
theorem dL_numerator_3 : decode cL_numerator 3 = .ok (.iload_n 1, 1) := by decide +kernel
theorem dL_numerator_4 : decode cL_numerator 4 = .ok (.invokevirtual 55, 3) := by decide +kernel
theorem dL_numerator_7 : decode cL_numerator 7 = .ok (.i2l, 1) := by decide +kernel
theorem dL_numerator_8 : decode cL_numerator 8 = .ok (.lastore, 1) := by decide +kernel
theorem dL_numerator_9 : decode cL_numerator 9 = .ok (.goto 6, 3) := by decide +kernel
theorem dL_numerator_12 : decode cL_numerator 12 = .ok (.astore_n 3, 1) := by decide +kernel
theorem dL_numerator_13 : decode cL_numerator 13 = .ok (.iconst 1, 1) := by decide +kernel
theorem dL_numerator_14 : decode cL_numerator 14 = .ok (.ireturn, 1) := by decide +kernel
theorem dL_numerator_15 : decode cL_numerator 15 = .ok (.iconst 0, 1) := by decide +kernel
theorem dL_numerator_16 : decode cL_numerator 16 = .ok (.ireturn, 1) := by decide +kernel
theorem dL_denominator_0 : decode cL_denominator 0 = .ok (.aload_n 2, 1) := by decide +kernel
theorem dL_denominator_1 : decode cL_denominator 1 = .ok (.iconst 0, 1) := by decide +kernel
theorem dL_denominator_2 : decode cL_denominator 2 = .ok (.aload_n 0, 1) := by decide +kernel
theorem dL_denominator_3 : decode cL_denominator 3 = .ok (.iload_n 1, 1) := by decide +kernel
theorem dL_denominator_4 : decode cL_denominator 4 = .ok (.invokevirtual 58, 3) := by decide +kernel
theorem dL_denominator_7 : decode cL_denominator 7 = .ok (.i2l, 1) := by decide +kernel
theorem dL_denominator_8 : decode cL_denominator 8 = .ok (.lastore, 1) := by decide +kernel
theorem dL_denominator_9 : decode cL_denominator 9 = .ok (.goto 6, 3) := by decide +kernel
theorem dL_denominator_12 : decode cL_denominator 12 = .ok (.astore_n 3, 1) := by decide +kernel
theorem dL_denominator_13 : decode cL_denominator 13 = .ok (.iconst 1, 1) := by decide +kernel
theorem dL_denominator_14 : decode cL_denominator 14 = .ok (.ireturn, 1) := by decide +kernel
theorem dL_denominator_15 : decode cL_denominator 15 = .ok (.iconst 0, 1) := by decide +kernel
theorem dL_denominator_16 : decode cL_denominator 16 = .ok (.ireturn, 1) := by decide +kernel
theorem dL_whole_0 : decode cL_whole 0 = .ok (.aload_n 2, 1) := by decide +kernel
theorem dL_whole_1 : decode cL_whole 1 = .ok (.iconst 0, 1) := by decide +kernel
theorem dL_whole_2 : decode cL_whole 2 = .ok (.aload_n 0, 1) := by decide +kernel
theorem dL_whole_3 : decode cL_whole 3 = .ok (.iload_n 1, 1) := by decide +kernel
theorem dL_whole_4 : decode cL_whole 4 = .ok (.invokevirtual 61, 3) := by decide +kernel
theorem dL_whole_7 : decode cL_whole 7 = .ok (.i2l, 1) := by decide +kernel
theorem dL_whole_8 : decode cL_whole 8 = .ok (.lastore, 1) := by decide +kernel
theorem dL_whole_9 : decode cL_whole 9 = .ok (.goto 6, 3) := by decide +kernel
theorem dL_whole_12 : decode cL_whole 12 = .ok (.astore_n 3, 1) := by decide +kernel
theorem dL_whole_13 : decode cL_whole 13 = .ok (.iconst 1, 1) := by decide +kernel
theorem dL_whole_14 : decode cL_whole 14 = .ok (.ireturn, 1) := by decide +kernel
theorem dL_whole_15 : decode cL_whole 15 = .ok (.iconst 0, 1) := by decide +kernel
theorem dL_whole_16 : decode cL_whole 16 = .ok (.ireturn, 1) := by decide +kernel
theorem dL_compare_0 : decode cL_compare 0 = .ok (.aload_n 3, 1) := by decide +kernel
theorem dL_compare_1 : decode cL_compare 1 = .ok (.iconst 0, 1) := by decide +kernel
theorem dL_compare_2 : decode cL_compare 2 = .ok (.aload_n 0, 1) := by decide +kernel
theorem dL_compare_3 : decode cL_compare 3 = .ok (.iload_n 1, 1) := by decide +kernel
theorem dL_compare_4 : decode cL_compare 4 = .ok (.iload_n 2, 1) := by decide +kernel
theorem dL_compare_5 : decode cL_compare 5 = .ok (.invokevirtual 64, 3) := by decide +kernel
theorem dL_compare_8 : decode cL_compare 8 = .ok (.i2l, 1) := by decide +kernel
theorem dL_compare_9 : decode cL_compare 9 = .ok (.lastore, 1) := by decide +kernel
theorem dL_compare_10 : decode cL_compare 10 = .ok (.goto 7, 3) := by decide +kernel
theorem dL_compare_13 : decode cL_compare 13 = .ok (.astore 4, 2) := by decide +kernel
theorem dL_compare_15 : decode cL_compare 15 = .ok (.iconst 1, 1) := by decide +kernel
theorem dL_compare_16 : decode cL_compare 16 = .ok (.ireturn, 1) := by decide +kernel
theorem dL_compare_17 : decode cL_compare 17 = .ok (.iconst 0, 1) := by decide +kernel
theorem dL_compare_18 : decode cL_compare 18 = .ok (.ireturn, 1) := by decide +kernel
theorem dL_wholeDigits_0 : decode cL_wholeDigits 0 = .ok (.aload_n 2, 1) := by decide +kernel
theorem dL_wholeDigits_1 : decode cL_wholeDigits 1 = .ok (.iconst 0, 1) := by decide +kernel
theorem dL_wholeDigits_2 : decode cL_wholeDigits 2 = .ok (.aload_n 0, 1) := by decide +kernel
theorem dL_wholeDigits_3 : decode cL_wholeDigits 3 = .ok (.iload_n 1, 1) := by decide +kernel
theorem dL_wholeDigits_4 : decode cL_wholeDigits 4 = .ok (.invokevirtual 67, 3) := by decide +kernel
theorem dL_wholeDigits_7 : decode cL_wholeDigits 7 = .ok (.i2l, 1) := by decide +kernel
theorem dL_wholeDigits_8 : decode cL_wholeDigits 8 = .ok (.lastore, 1) := by decide +kernel
theorem dL_wholeDigits_9 : decode cL_wholeDigits 9 = .ok (.goto 6, 3) := by decide +kernel
theorem dL_wholeDigits_12 : decode cL_wholeDigits 12 = .ok (.astore_n 3, 1) := by decide +kernel
theorem dL_wholeDigits_13 : decode cL_wholeDigits 13 = .ok (.iconst 1, 1) := by decide +kernel
theorem dL_wholeDigits_14 : decode cL_wholeDigits 14 = .ok (.ireturn, 1) := by decide +kernel
theorem dL_wholeDigits_15 : decode cL_wholeDigits 15 = .ok (.iconst 0, 1) := by decide +kernel
theorem dL_wholeDigits_16 : decode cL_wholeDigits 16 = .ok (.ireturn, 1) := by decide +kernel
theorem dL_wholeDigit_0 : decode cL_wholeDigit 0 = .ok (.aload_n 3, 1) := by decide +kernel
theorem dL_wholeDigit_1 : decode cL_wholeDigit 1 = .ok (.iconst 0, 1) := by decide +kernel
theorem dL_wholeDigit_2 : decode cL_wholeDigit 2 = .ok (.aload_n 0, 1) := by decide +kernel
theorem dL_wholeDigit_3 : decode cL_wholeDigit 3 = .ok (.iload_n 1, 1) := by decide +kernel
theorem dL_wholeDigit_4 : decode cL_wholeDigit 4 = .ok (.iload_n 2, 1) := by decide +kernel
theorem dL_wholeDigit_5 : decode cL_wholeDigit 5 = .ok (.invokevirtual 70, 3) := by decide +kernel
theorem dL_wholeDigit_8 : decode cL_wholeDigit 8 = .ok (.i2l, 1) := by decide +kernel
theorem dL_wholeDigit_9 : decode cL_wholeDigit 9 = .ok (.lastore, 1) := by decide +kernel
theorem dL_wholeDigit_10 : decode cL_wholeDigit 10 = .ok (.goto 7, 3) := by decide +kernel
theorem dL_wholeDigit_13 : decode cL_wholeDigit 13 = .ok (.astore 4, 2) := by decide +kernel
theorem dL_wholeDigit_15 : decode cL_wholeDigit 15 = .ok (.iconst 1, 1) := by decide +kernel
theorem dL_wholeDigit_16 : decode cL_wholeDigit 16 = .ok (.ireturn, 1) := by decide +kernel
theorem dL_wholeDigit_17 : decode cL_wholeDigit 17 = .ok (.iconst 0, 1) := by decide +kernel
theorem dL_wholeDigit_18 : decode cL_wholeDigit 18 = .ok (.ireturn, 1) := by decide +kernel
theorem dL_wholeDigitByPowers_0 : decode cL_wholeDigitByPowers 0 = .ok (.aload_n 3, 1) := by decide +kernel
theorem dL_wholeDigitByPowers_1 : decode cL_wholeDigitByPowers 1 = .ok (.iconst 0, 1) := by decide +kernel
theorem dL_wholeDigitByPowers_2 : decode cL_wholeDigitByPowers 2 = .ok (.aload_n 0, 1) := by decide +kernel
theorem dL_wholeDigitByPowers_3 : decode cL_wholeDigitByPowers 3 = .ok (.iload_n 1, 1) := by decide +kernel
theorem dL_wholeDigitByPowers_4 : decode cL_wholeDigitByPowers 4 = .ok (.iload_n 2, 1) := by decide +kernel
theorem dL_wholeDigitByPowers_5 : decode cL_wholeDigitByPowers 5 = .ok (.invokevirtual 73, 3) := by decide +kernel
theorem dL_wholeDigitByPowers_8 : decode cL_wholeDigitByPowers 8 = .ok (.i2l, 1) := by decide +kernel
theorem dL_wholeDigitByPowers_9 : decode cL_wholeDigitByPowers 9 = .ok (.lastore, 1) := by decide +kernel
theorem dL_wholeDigitByPowers_10 : decode cL_wholeDigitByPowers 10 = .ok (.goto 7, 3) := by decide +kernel
theorem dL_wholeDigitByPowers_13 : decode cL_wholeDigitByPowers 13 = .ok (.astore 4, 2) := by decide +kernel
theorem dL_wholeDigitByPowers_15 : decode cL_wholeDigitByPowers 15 = .ok (.iconst 1, 1) := by decide +kernel
theorem dL_wholeDigitByPowers_16 : decode cL_wholeDigitByPowers 16 = .ok (.ireturn, 1) := by decide +kernel
theorem dL_wholeDigitByPowers_17 : decode cL_wholeDigitByPowers 17 = .ok (.iconst 0, 1) := by decide +kernel
theorem dL_wholeDigitByPowers_18 : decode cL_wholeDigitByPowers 18 = .ok (.ireturn, 1) := by decide +kernel
theorem dL_digitSum_0 : decode cL_digitSum 0 = .ok (.aload_n 2, 1) := by decide +kernel
theorem dL_digitSum_1 : decode cL_digitSum 1 = .ok (.iconst 0, 1) := by decide +kernel
theorem dL_digitSum_2 : decode cL_digitSum 2 = .ok (.aload_n 0, 1) := by decide +kernel
theorem dL_digitSum_3 : decode cL_digitSum 3 = .ok (.iload_n 1, 1) := by decide +kernel
theorem dL_digitSum_4 : decode cL_digitSum 4 = .ok (.invokevirtual 76, 3) := by decide +kernel
theorem dL_digitSum_7 : decode cL_digitSum 7 = .ok (.i2l, 1) := by decide +kernel
theorem dL_digitSum_8 : decode cL_digitSum 8 = .ok (.lastore, 1) := by decide +kernel
theorem dL_digitSum_9 : decode cL_digitSum 9 = .ok (.goto 6, 3) := by decide +kernel
theorem dL_digitSum_12 : decode cL_digitSum 12 = .ok (.astore_n 3, 1) := by decide +kernel
theorem dL_digitSum_13 : decode cL_digitSum 13 = .ok (.iconst 1, 1) := by decide +kernel
theorem dL_digitSum_14 : decode cL_digitSum 14 = .ok (.ireturn, 1) := by decide +kernel
theorem dL_digitSum_15 : decode cL_digitSum 15 = .ok (.iconst 0, 1) := by decide +kernel
theorem dL_digitSum_16 : decode cL_digitSum 16 = .ok (.ireturn, 1) := by decide +kernel
theorem dL_leftByDigits_0 : decode cL_leftByDigits 0 = .ok (.aload_n 2, 1) := by decide +kernel
theorem dL_leftByDigits_1 : decode cL_leftByDigits 1 = .ok (.iconst 0, 1) := by decide +kernel
theorem dL_leftByDigits_2 : decode cL_leftByDigits 2 = .ok (.aload_n 0, 1) := by decide +kernel
theorem dL_leftByDigits_3 : decode cL_leftByDigits 3 = .ok (.iload_n 1, 1) := by decide +kernel
theorem dL_leftByDigits_4 : decode cL_leftByDigits 4 = .ok (.invokevirtual 79, 3) := by decide +kernel
theorem dL_leftByDigits_7 : decode cL_leftByDigits 7 = .ok (.i2l, 1) := by decide +kernel
theorem dL_leftByDigits_8 : decode cL_leftByDigits 8 = .ok (.lastore, 1) := by decide +kernel
theorem dL_leftByDigits_9 : decode cL_leftByDigits 9 = .ok (.goto 6, 3) := by decide +kernel
theorem dL_leftByDigits_12 : decode cL_leftByDigits 12 = .ok (.astore_n 3, 1) := by decide +kernel
theorem dL_leftByDigits_13 : decode cL_leftByDigits 13 = .ok (.iconst 1, 1) := by decide +kernel
theorem dL_leftByDigits_14 : decode cL_leftByDigits 14 = .ok (.ireturn, 1) := by decide +kernel
theorem dL_leftByDigits_15 : decode cL_leftByDigits 15 = .ok (.iconst 0, 1) := by decide +kernel
theorem dL_leftByDigits_16 : decode cL_leftByDigits 16 = .ok (.ireturn, 1) := by decide +kernel
theorem dL_leftByDividing_0 : decode cL_leftByDividing 0 = .ok (.aload_n 2, 1) := by decide +kernel
theorem dL_leftByDividing_1 : decode cL_leftByDividing 1 = .ok (.iconst 0, 1) := by decide +kernel
theorem dL_leftByDividing_2 : decode cL_leftByDividing 2 = .ok (.aload_n 0, 1) := by decide +kernel
theorem dL_leftByDividing_3 : decode cL_leftByDividing 3 = .ok (.iload_n 1, 1) := by decide +kernel
theorem dL_leftByDividing_4 : decode cL_leftByDividing 4 = .ok (.invokevirtual 82, 3) := by decide +kernel
theorem dL_leftByDividing_7 : decode cL_leftByDividing 7 = .ok (.i2l, 1) := by decide +kernel
theorem dL_leftByDividing_8 : decode cL_leftByDividing 8 = .ok (.lastore, 1) := by decide +kernel
theorem dL_leftByDividing_9 : decode cL_leftByDividing 9 = .ok (.goto 6, 3) := by decide +kernel
theorem dL_leftByDividing_12 : decode cL_leftByDividing 12 = .ok (.astore_n 3, 1) := by decide +kernel
theorem dL_leftByDividing_13 : decode cL_leftByDividing 13 = .ok (.iconst 1, 1) := by decide +kernel
theorem dL_leftByDividing_14 : decode cL_leftByDividing 14 = .ok (.ireturn, 1) := by decide +kernel
theorem dL_leftByDividing_15 : decode cL_leftByDividing 15 = .ok (.iconst 0, 1) := by decide +kernel
theorem dL_leftByDividing_16 : decode cL_leftByDividing 16 = .ok (.ireturn, 1) := by decide +kernel
theorem dL_headLength_0 : decode cL_headLength 0 = .ok (.aload_n 2, 1) := by decide +kernel
theorem dL_headLength_1 : decode cL_headLength 1 = .ok (.iconst 0, 1) := by decide +kernel
theorem dL_headLength_2 : decode cL_headLength 2 = .ok (.aload_n 0, 1) := by decide +kernel
theorem dL_headLength_3 : decode cL_headLength 3 = .ok (.iload_n 1, 1) := by decide +kernel
theorem dL_headLength_4 : decode cL_headLength 4 = .ok (.invokevirtual 85, 3) := by decide +kernel
theorem dL_headLength_7 : decode cL_headLength 7 = .ok (.i2l, 1) := by decide +kernel
theorem dL_headLength_8 : decode cL_headLength 8 = .ok (.lastore, 1) := by decide +kernel
theorem dL_headLength_9 : decode cL_headLength 9 = .ok (.goto 6, 3) := by decide +kernel
theorem dL_headLength_12 : decode cL_headLength 12 = .ok (.astore_n 3, 1) := by decide +kernel
theorem dL_headLength_13 : decode cL_headLength 13 = .ok (.iconst 1, 1) := by decide +kernel
theorem dL_headLength_14 : decode cL_headLength 14 = .ok (.ireturn, 1) := by decide +kernel
theorem dL_headLength_15 : decode cL_headLength 15 = .ok (.iconst 0, 1) := by decide +kernel
theorem dL_headLength_16 : decode cL_headLength 16 = .ok (.ireturn, 1) := by decide +kernel
theorem dL_periodLength_0 : decode cL_periodLength 0 = .ok (.aload_n 2, 1) := by decide +kernel
theorem dL_periodLength_1 : decode cL_periodLength 1 = .ok (.iconst 0, 1) := by decide +kernel
theorem dL_periodLength_2 : decode cL_periodLength 2 = .ok (.aload_n 0, 1) := by decide +kernel
theorem dL_periodLength_3 : decode cL_periodLength 3 = .ok (.iload_n 1, 1) := by decide +kernel
theorem dL_periodLength_4 : decode cL_periodLength 4 = .ok (.invokevirtual 88, 3) := by decide +kernel
theorem dL_periodLength_7 : decode cL_periodLength 7 = .ok (.i2l, 1) := by decide +kernel
theorem dL_periodLength_8 : decode cL_periodLength 8 = .ok (.lastore, 1) := by decide +kernel
theorem dL_periodLength_9 : decode cL_periodLength 9 = .ok (.goto 6, 3) := by decide +kernel
theorem dL_periodLength_12 : decode cL_periodLength 12 = .ok (.astore_n 3, 1) := by decide +kernel
theorem dL_periodLength_13 : decode cL_periodLength 13 = .ok (.iconst 1, 1) := by decide +kernel
theorem dL_periodLength_14 : decode cL_periodLength 14 = .ok (.ireturn, 1) := by decide +kernel
theorem dL_periodLength_15 : decode cL_periodLength 15 = .ok (.iconst 0, 1) := by decide +kernel
theorem dL_periodLength_16 : decode cL_periodLength 16 = .ok (.ireturn, 1) := by decide +kernel
theorem dL_periodByOrder_0 : decode cL_periodByOrder 0 = .ok (.aload_n 2, 1) := by decide +kernel
theorem dL_periodByOrder_1 : decode cL_periodByOrder 1 = .ok (.iconst 0, 1) := by decide +kernel
theorem dL_periodByOrder_2 : decode cL_periodByOrder 2 = .ok (.aload_n 0, 1) := by decide +kernel
theorem dL_periodByOrder_3 : decode cL_periodByOrder 3 = .ok (.iload_n 1, 1) := by decide +kernel
theorem dL_periodByOrder_4 : decode cL_periodByOrder 4 = .ok (.invokevirtual 91, 3) := by decide +kernel
theorem dL_periodByOrder_7 : decode cL_periodByOrder 7 = .ok (.i2l, 1) := by decide +kernel
theorem dL_periodByOrder_8 : decode cL_periodByOrder 8 = .ok (.lastore, 1) := by decide +kernel
theorem dL_periodByOrder_9 : decode cL_periodByOrder 9 = .ok (.goto 6, 3) := by decide +kernel
theorem dL_periodByOrder_12 : decode cL_periodByOrder 12 = .ok (.astore_n 3, 1) := by decide +kernel
theorem dL_periodByOrder_13 : decode cL_periodByOrder 13 = .ok (.iconst 1, 1) := by decide +kernel
theorem dL_periodByOrder_14 : decode cL_periodByOrder 14 = .ok (.ireturn, 1) := by decide +kernel
theorem dL_periodByOrder_15 : decode cL_periodByOrder 15 = .ok (.iconst 0, 1) := by decide +kernel
theorem dL_periodByOrder_16 : decode cL_periodByOrder 16 = .ok (.ireturn, 1) := by decide +kernel
theorem dL_digitBehind_0 : decode cL_digitBehind 0 = .ok (.aload_n 3, 1) := by decide +kernel
theorem dL_digitBehind_1 : decode cL_digitBehind 1 = .ok (.iconst 0, 1) := by decide +kernel
theorem dL_digitBehind_2 : decode cL_digitBehind 2 = .ok (.aload_n 0, 1) := by decide +kernel
theorem dL_digitBehind_3 : decode cL_digitBehind 3 = .ok (.iload_n 1, 1) := by decide +kernel
theorem dL_digitBehind_4 : decode cL_digitBehind 4 = .ok (.iload_n 2, 1) := by decide +kernel
theorem dL_digitBehind_5 : decode cL_digitBehind 5 = .ok (.invokevirtual 94, 3) := by decide +kernel
theorem dL_digitBehind_8 : decode cL_digitBehind 8 = .ok (.i2l, 1) := by decide +kernel
theorem dL_digitBehind_9 : decode cL_digitBehind 9 = .ok (.lastore, 1) := by decide +kernel
theorem dL_digitBehind_10 : decode cL_digitBehind 10 = .ok (.goto 11, 3) := by decide +kernel
theorem dL_digitBehind_13 : decode cL_digitBehind 13 = .ok (.astore 4, 2) := by decide +kernel
theorem dL_digitBehind_15 : decode cL_digitBehind 15 = .ok (.iconst 1, 1) := by decide +kernel
theorem dL_digitBehind_16 : decode cL_digitBehind 16 = .ok (.ireturn, 1) := by decide +kernel
theorem dL_digitBehind_17 : decode cL_digitBehind 17 = .ok (.astore 4, 2) := by decide +kernel
theorem dL_digitBehind_19 : decode cL_digitBehind 19 = .ok (.iconst 2, 1) := by decide +kernel
theorem dL_digitBehind_20 : decode cL_digitBehind 20 = .ok (.ireturn, 1) := by decide +kernel
theorem dL_digitBehind_21 : decode cL_digitBehind 21 = .ok (.iconst 0, 1) := by decide +kernel
theorem dL_digitBehind_22 : decode cL_digitBehind 22 = .ok (.ireturn, 1) := by decide +kernel
theorem dL_shortestBase_0 : decode cL_shortestBase 0 = .ok (.aload_n 2, 1) := by decide +kernel
theorem dL_shortestBase_1 : decode cL_shortestBase 1 = .ok (.iconst 0, 1) := by decide +kernel
theorem dL_shortestBase_2 : decode cL_shortestBase 2 = .ok (.aload_n 0, 1) := by decide +kernel
theorem dL_shortestBase_3 : decode cL_shortestBase 3 = .ok (.iload_n 1, 1) := by decide +kernel
theorem dL_shortestBase_4 : decode cL_shortestBase 4 = .ok (.invokevirtual 97, 3) := by decide +kernel
theorem dL_shortestBase_7 : decode cL_shortestBase 7 = .ok (.i2l, 1) := by decide +kernel
theorem dL_shortestBase_8 : decode cL_shortestBase 8 = .ok (.lastore, 1) := by decide +kernel
theorem dL_shortestBase_9 : decode cL_shortestBase 9 = .ok (.goto 6, 3) := by decide +kernel
theorem dL_shortestBase_12 : decode cL_shortestBase 12 = .ok (.astore_n 3, 1) := by decide +kernel
theorem dL_shortestBase_13 : decode cL_shortestBase 13 = .ok (.iconst 1, 1) := by decide +kernel
theorem dL_shortestBase_14 : decode cL_shortestBase 14 = .ok (.ireturn, 1) := by decide +kernel
theorem dL_shortestBase_15 : decode cL_shortestBase 15 = .ok (.iconst 0, 1) := by decide +kernel
theorem dL_shortestBase_16 : decode cL_shortestBase 16 = .ok (.ireturn, 1) := by decide +kernel
theorem dL_writtenLength_0 : decode cL_writtenLength 0 = .ok (.aload_n 2, 1) := by decide +kernel
theorem dL_writtenLength_1 : decode cL_writtenLength 1 = .ok (.iconst 0, 1) := by decide +kernel
theorem dL_writtenLength_2 : decode cL_writtenLength 2 = .ok (.aload_n 0, 1) := by decide +kernel
theorem dL_writtenLength_3 : decode cL_writtenLength 3 = .ok (.iload_n 1, 1) := by decide +kernel
theorem dL_writtenLength_4 : decode cL_writtenLength 4 = .ok (.invokevirtual 100, 3) := by decide +kernel
theorem dL_writtenLength_7 : decode cL_writtenLength 7 = .ok (.i2l, 1) := by decide +kernel
theorem dL_writtenLength_8 : decode cL_writtenLength 8 = .ok (.lastore, 1) := by decide +kernel
theorem dL_writtenLength_9 : decode cL_writtenLength 9 = .ok (.goto 6, 3) := by decide +kernel
theorem dL_writtenLength_12 : decode cL_writtenLength 12 = .ok (.astore_n 3, 1) := by decide +kernel
theorem dL_writtenLength_13 : decode cL_writtenLength 13 = .ok (.iconst 1, 1) := by decide +kernel
theorem dL_writtenLength_14 : decode cL_writtenLength 14 = .ok (.ireturn, 1) := by decide +kernel
theorem dL_writtenLength_15 : decode cL_writtenLength 15 = .ok (.iconst 0, 1) := by decide +kernel
theorem dL_writtenLength_16 : decode cL_writtenLength 16 = .ok (.ireturn, 1) := by decide +kernel
theorem dL_writtenAt_0 : decode cL_writtenAt 0 = .ok (.aload_n 3, 1) := by decide +kernel
theorem dL_writtenAt_1 : decode cL_writtenAt 1 = .ok (.iconst 0, 1) := by decide +kernel
theorem dL_writtenAt_2 : decode cL_writtenAt 2 = .ok (.aload_n 0, 1) := by decide +kernel
theorem dL_writtenAt_3 : decode cL_writtenAt 3 = .ok (.iload_n 1, 1) := by decide +kernel
theorem dL_writtenAt_4 : decode cL_writtenAt 4 = .ok (.iload_n 2, 1) := by decide +kernel
theorem dL_writtenAt_5 : decode cL_writtenAt 5 = .ok (.invokevirtual 103, 3) := by decide +kernel
theorem dL_writtenAt_8 : decode cL_writtenAt 8 = .ok (.i2l, 1) := by decide +kernel
theorem dL_writtenAt_9 : decode cL_writtenAt 9 = .ok (.lastore, 1) := by decide +kernel
theorem dL_writtenAt_10 : decode cL_writtenAt 10 = .ok (.goto 7, 3) := by decide +kernel
theorem dL_writtenAt_13 : decode cL_writtenAt 13 = .ok (.astore 4, 2) := by decide +kernel
theorem dL_writtenAt_15 : decode cL_writtenAt 15 = .ok (.iconst 1, 1) := by decide +kernel
theorem dL_writtenAt_16 : decode cL_writtenAt 16 = .ok (.ireturn, 1) := by decide +kernel
theorem dL_writtenAt_17 : decode cL_writtenAt 17 = .ok (.iconst 0, 1) := by decide +kernel
theorem dL_writtenAt_18 : decode cL_writtenAt 18 = .ok (.ireturn, 1) := by decide +kernel
theorem dL_carries_0 : decode cL_carries 0 = .ok (.aload_n 3, 1) := by decide +kernel
theorem dL_carries_1 : decode cL_carries 1 = .ok (.iconst 0, 1) := by decide +kernel
theorem dL_carries_2 : decode cL_carries 2 = .ok (.aload_n 0, 1) := by decide +kernel
theorem dL_carries_3 : decode cL_carries 3 = .ok (.iload_n 1, 1) := by decide +kernel
theorem dL_carries_4 : decode cL_carries 4 = .ok (.iload_n 2, 1) := by decide +kernel
theorem dL_carries_5 : decode cL_carries 5 = .ok (.invokevirtual 106, 3) := by decide +kernel
theorem dL_carries_8 : decode cL_carries 8 = .ok (.i2l, 1) := by decide +kernel
theorem dL_carries_9 : decode cL_carries 9 = .ok (.lastore, 1) := by decide +kernel
theorem dL_carries_10 : decode cL_carries 10 = .ok (.goto 7, 3) := by decide +kernel
theorem dL_carries_13 : decode cL_carries 13 = .ok (.astore 4, 2) := by decide +kernel
theorem dL_carries_15 : decode cL_carries 15 = .ok (.iconst 1, 1) := by decide +kernel
theorem dL_carries_16 : decode cL_carries 16 = .ok (.ireturn, 1) := by decide +kernel
theorem dL_carries_17 : decode cL_carries 17 = .ok (.iconst 0, 1) := by decide +kernel
theorem dL_carries_18 : decode cL_carries 18 = .ok (.ireturn, 1) := by decide +kernel
theorem dL_longestChain_0 : decode cL_longestChain 0 = .ok (.aload_n 3, 1) := by decide +kernel
theorem dL_longestChain_1 : decode cL_longestChain 1 = .ok (.iconst 0, 1) := by decide +kernel
theorem dL_longestChain_2 : decode cL_longestChain 2 = .ok (.aload_n 0, 1) := by decide +kernel
theorem dL_longestChain_3 : decode cL_longestChain 3 = .ok (.iload_n 1, 1) := by decide +kernel
theorem dL_longestChain_4 : decode cL_longestChain 4 = .ok (.iload_n 2, 1) := by decide +kernel
theorem dL_longestChain_5 : decode cL_longestChain 5 = .ok (.invokevirtual 109, 3) := by decide +kernel
theorem dL_longestChain_8 : decode cL_longestChain 8 = .ok (.i2l, 1) := by decide +kernel
theorem dL_longestChain_9 : decode cL_longestChain 9 = .ok (.lastore, 1) := by decide +kernel
theorem dL_longestChain_10 : decode cL_longestChain 10 = .ok (.goto 7, 3) := by decide +kernel
theorem dL_longestChain_13 : decode cL_longestChain 13 = .ok (.astore 4, 2) := by decide +kernel
theorem dL_longestChain_15 : decode cL_longestChain 15 = .ok (.iconst 1, 1) := by decide +kernel
theorem dL_longestChain_16 : decode cL_longestChain 16 = .ok (.ireturn, 1) := by decide +kernel
theorem dL_longestChain_17 : decode cL_longestChain 17 = .ok (.iconst 0, 1) := by decide +kernel
theorem dL_longestChain_18 : decode cL_longestChain 18 = .ok (.ireturn, 1) := by decide +kernel
theorem dL_sumDigit_0 : decode cL_sumDigit 0 = .ok (.aload 4, 2) := by decide +kernel
theorem dL_sumDigit_2 : decode cL_sumDigit 2 = .ok (.iconst 0, 1) := by decide +kernel
theorem dL_sumDigit_3 : decode cL_sumDigit 3 = .ok (.aload_n 0, 1) := by decide +kernel
theorem dL_sumDigit_4 : decode cL_sumDigit 4 = .ok (.iload_n 1, 1) := by decide +kernel
theorem dL_sumDigit_5 : decode cL_sumDigit 5 = .ok (.iload_n 2, 1) := by decide +kernel
theorem dL_sumDigit_6 : decode cL_sumDigit 6 = .ok (.iload_n 3, 1) := by decide +kernel
theorem dL_sumDigit_7 : decode cL_sumDigit 7 = .ok (.invokevirtual 112, 3) := by decide +kernel
theorem dL_sumDigit_10 : decode cL_sumDigit 10 = .ok (.i2l, 1) := by decide +kernel
theorem dL_sumDigit_11 : decode cL_sumDigit 11 = .ok (.lastore, 1) := by decide +kernel
theorem dL_sumDigit_12 : decode cL_sumDigit 12 = .ok (.goto 7, 3) := by decide +kernel
theorem dL_sumDigit_15 : decode cL_sumDigit 15 = .ok (.astore 5, 2) := by decide +kernel
theorem dL_sumDigit_17 : decode cL_sumDigit 17 = .ok (.iconst 1, 1) := by decide +kernel
theorem dL_sumDigit_18 : decode cL_sumDigit 18 = .ok (.ireturn, 1) := by decide +kernel
theorem dL_sumDigit_19 : decode cL_sumDigit 19 = .ok (.iconst 0, 1) := by decide +kernel
theorem dL_sumDigit_20 : decode cL_sumDigit 20 = .ok (.ireturn, 1) := by decide +kernel
theorem dL_sumByColumns_0 : decode cL_sumByColumns 0 = .ok (.aload_n 3, 1) := by decide +kernel
theorem dL_sumByColumns_1 : decode cL_sumByColumns 1 = .ok (.iconst 0, 1) := by decide +kernel
theorem dL_sumByColumns_2 : decode cL_sumByColumns 2 = .ok (.aload_n 0, 1) := by decide +kernel
theorem dL_sumByColumns_3 : decode cL_sumByColumns 3 = .ok (.iload_n 1, 1) := by decide +kernel
theorem dL_sumByColumns_4 : decode cL_sumByColumns 4 = .ok (.iload_n 2, 1) := by decide +kernel
theorem dL_sumByColumns_5 : decode cL_sumByColumns 5 = .ok (.invokevirtual 115, 3) := by decide +kernel
theorem dL_sumByColumns_8 : decode cL_sumByColumns 8 = .ok (.lastore, 1) := by decide +kernel
theorem dL_sumByColumns_9 : decode cL_sumByColumns 9 = .ok (.goto 7, 3) := by decide +kernel
theorem dL_sumByColumns_12 : decode cL_sumByColumns 12 = .ok (.astore 4, 2) := by decide +kernel
theorem dL_sumByColumns_14 : decode cL_sumByColumns 14 = .ok (.iconst 1, 1) := by decide +kernel
theorem dL_sumByColumns_15 : decode cL_sumByColumns 15 = .ok (.ireturn, 1) := by decide +kernel
theorem dL_sumByColumns_16 : decode cL_sumByColumns 16 = .ok (.iconst 0, 1) := by decide +kernel
theorem dL_sumByColumns_17 : decode cL_sumByColumns 17 = .ok (.ireturn, 1) := by decide +kernel
theorem dL_readIn_0 : decode cL_readIn 0 = .ok (.aload_n 3, 1) := by decide +kernel
theorem dL_readIn_1 : decode cL_readIn 1 = .ok (.iconst 0, 1) := by decide +kernel
theorem dL_readIn_2 : decode cL_readIn 2 = .ok (.aload_n 0, 1) := by decide +kernel
theorem dL_readIn_3 : decode cL_readIn 3 = .ok (.iload_n 1, 1) := by decide +kernel
theorem dL_readIn_4 : decode cL_readIn 4 = .ok (.iload_n 2, 1) := by decide +kernel
theorem dL_readIn_5 : decode cL_readIn 5 = .ok (.invokevirtual 119, 3) := by decide +kernel
theorem dL_readIn_8 : decode cL_readIn 8 = .ok (.lastore, 1) := by decide +kernel
theorem dL_readIn_9 : decode cL_readIn 9 = .ok (.goto 11, 3) := by decide +kernel
theorem dL_readIn_12 : decode cL_readIn 12 = .ok (.astore 4, 2) := by decide +kernel
theorem dL_readIn_14 : decode cL_readIn 14 = .ok (.iconst 1, 1) := by decide +kernel
theorem dL_readIn_15 : decode cL_readIn 15 = .ok (.ireturn, 1) := by decide +kernel
theorem dL_readIn_16 : decode cL_readIn 16 = .ok (.astore 4, 2) := by decide +kernel
theorem dL_readIn_18 : decode cL_readIn 18 = .ok (.iconst 2, 1) := by decide +kernel
theorem dL_readIn_19 : decode cL_readIn 19 = .ok (.ireturn, 1) := by decide +kernel
theorem dL_readIn_20 : decode cL_readIn 20 = .ok (.iconst 0, 1) := by decide +kernel
theorem dL_readIn_21 : decode cL_readIn 21 = .ok (.ireturn, 1) := by decide +kernel
theorem dL_whyNoSum_0 : decode cL_whyNoSum 0 = .ok (.aload_n 3, 1) := by decide +kernel
theorem dL_whyNoSum_1 : decode cL_whyNoSum 1 = .ok (.iconst 0, 1) := by decide +kernel
theorem dL_whyNoSum_2 : decode cL_whyNoSum 2 = .ok (.aload_n 0, 1) := by decide +kernel
theorem dL_whyNoSum_3 : decode cL_whyNoSum 3 = .ok (.iload_n 1, 1) := by decide +kernel
theorem dL_whyNoSum_4 : decode cL_whyNoSum 4 = .ok (.iload_n 2, 1) := by decide +kernel
theorem dL_whyNoSum_5 : decode cL_whyNoSum 5 = .ok (.invokevirtual 122, 3) := by decide +kernel
theorem dL_whyNoSum_8 : decode cL_whyNoSum 8 = .ok (.i2l, 1) := by decide +kernel
theorem dL_whyNoSum_9 : decode cL_whyNoSum 9 = .ok (.lastore, 1) := by decide +kernel
theorem dL_whyNoSum_10 : decode cL_whyNoSum 10 = .ok (.goto 7, 3) := by decide +kernel
theorem dL_whyNoSum_13 : decode cL_whyNoSum 13 = .ok (.astore 4, 2) := by decide +kernel
theorem dL_whyNoSum_15 : decode cL_whyNoSum 15 = .ok (.iconst 1, 1) := by decide +kernel
theorem dL_whyNoSum_16 : decode cL_whyNoSum 16 = .ok (.ireturn, 1) := by decide +kernel
theorem dL_whyNoSum_17 : decode cL_whyNoSum 17 = .ok (.iconst 0, 1) := by decide +kernel
theorem dL_whyNoSum_18 : decode cL_whyNoSum 18 = .ok (.ireturn, 1) := by decide +kernel
theorem dL_periodOfSum_0 : decode cL_periodOfSum 0 = .ok (.aload_n 3, 1) := by decide +kernel
theorem dL_periodOfSum_1 : decode cL_periodOfSum 1 = .ok (.iconst 0, 1) := by decide +kernel
theorem dL_periodOfSum_2 : decode cL_periodOfSum 2 = .ok (.aload_n 0, 1) := by decide +kernel
theorem dL_periodOfSum_3 : decode cL_periodOfSum 3 = .ok (.iload_n 1, 1) := by decide +kernel
theorem dL_periodOfSum_4 : decode cL_periodOfSum 4 = .ok (.iload_n 2, 1) := by decide +kernel
theorem dL_periodOfSum_5 : decode cL_periodOfSum 5 = .ok (.invokevirtual 125, 3) := by decide +kernel
theorem dL_periodOfSum_8 : decode cL_periodOfSum 8 = .ok (.i2l, 1) := by decide +kernel
theorem dL_periodOfSum_9 : decode cL_periodOfSum 9 = .ok (.lastore, 1) := by decide +kernel
theorem dL_periodOfSum_10 : decode cL_periodOfSum 10 = .ok (.goto 7, 3) := by decide +kernel
theorem dL_periodOfSum_13 : decode cL_periodOfSum 13 = .ok (.astore 4, 2) := by decide +kernel
theorem dL_periodOfSum_15 : decode cL_periodOfSum 15 = .ok (.iconst 1, 1) := by decide +kernel
theorem dL_periodOfSum_16 : decode cL_periodOfSum 16 = .ok (.ireturn, 1) := by decide +kernel
theorem dL_periodOfSum_17 : decode cL_periodOfSum 17 = .ok (.iconst 0, 1) := by decide +kernel
theorem dL_periodOfSum_18 : decode cL_periodOfSum 18 = .ok (.ireturn, 1) := by decide +kernel
theorem dL_shareOf_0 : decode cL_shareOf 0 = .ok (.aload_n 2, 1) := by decide +kernel
theorem dL_shareOf_1 : decode cL_shareOf 1 = .ok (.iconst 0, 1) := by decide +kernel
theorem dL_shareOf_2 : decode cL_shareOf 2 = .ok (.aload_n 0, 1) := by decide +kernel
theorem dL_shareOf_3 : decode cL_shareOf 3 = .ok (.iload_n 1, 1) := by decide +kernel
theorem dL_shareOf_4 : decode cL_shareOf 4 = .ok (.invokevirtual 128, 3) := by decide +kernel
theorem dL_shareOf_7 : decode cL_shareOf 7 = .ok (.dastore, 1) := by decide +kernel
theorem dL_shareOf_8 : decode cL_shareOf 8 = .ok (.goto 6, 3) := by decide +kernel
theorem dL_shareOf_11 : decode cL_shareOf 11 = .ok (.astore_n 3, 1) := by decide +kernel
theorem dL_shareOf_12 : decode cL_shareOf 12 = .ok (.iconst 1, 1) := by decide +kernel
theorem dL_shareOf_13 : decode cL_shareOf 13 = .ok (.ireturn, 1) := by decide +kernel
theorem dL_shareOf_14 : decode cL_shareOf 14 = .ok (.iconst 0, 1) := by decide +kernel
theorem dL_shareOf_15 : decode cL_shareOf 15 = .ok (.ireturn, 1) := by decide +kernel
