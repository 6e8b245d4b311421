theorem dX10_digitSum_9 : decode cX10_digitSum 9 = .ok (.invokevirtual 178, 3) := by decide +kernel
theorem dX10_digitSum_12 : decode cX10_digitSum 12 = .ok (.aload_n 0, 1) := by decide +kernel
theorem dX10_digitSum_13 : decode cX10_digitSum 13 = .ok (.getfield 10, 3) := by decide +kernel
theorem dX10_digitSum_16 : decode cX10_digitSum 16 = .ok (.getfield 66, 3) := by decide +kernel
theorem dX10_digitSum_19 : decode cX10_digitSum 19 = .ok (.invokestatic 199, 3) := by decide +kernel
theorem dX10_digitSum_22 : decode cX10_digitSum 22 = .ok (.ireturn, 1) := by decide +kernel
theorem dX10_leftByDigits_0 : decode cX10_leftByDigits 0 = .ok (.iload_n 1, 1) := by decide +kernel
theorem dX10_leftByDigits_1 : decode cX10_leftByDigits 1 = .ok (.invokestatic 70, 3) := by decide +kernel
theorem dX10_leftByDigits_4 : decode cX10_leftByDigits 4 = .ok (.aload_n 0, 1) := by decide +kernel
theorem dX10_leftByDigits_5 : decode cX10_leftByDigits 5 = .ok (.getfield 10, 3) := by decide +kernel
theorem dX10_leftByDigits_8 : decode cX10_leftByDigits 8 = .ok (.iload_n 1, 1) := by decide +kernel
theorem dX10_leftByDigits_9 : decode cX10_leftByDigits 9 = .ok (.invokevirtual 178, 3) := by decide +kernel
theorem dX10_leftByDigits_12 : decode cX10_leftByDigits 12 = .ok (.aload_n 0, 1) := by decide +kernel
theorem dX10_leftByDigits_13 : decode cX10_leftByDigits 13 = .ok (.getfield 10, 3) := by decide +kernel
theorem dX10_leftByDigits_16 : decode cX10_leftByDigits 16 = .ok (.getfield 66, 3) := by decide +kernel
theorem dX10_leftByDigits_19 : decode cX10_leftByDigits 19 = .ok (.invokestatic 199, 3) := by decide +kernel
theorem dX10_leftByDigits_22 : decode cX10_leftByDigits 22 = .ok (.i2l, 1) := by decide +kernel
theorem dX10_leftByDigits_23 : decode cX10_leftByDigits 23 = .ok (.aload_n 0, 1) := by decide +kernel
theorem dX10_leftByDigits_24 : decode cX10_leftByDigits 24 = .ok (.getfield 10, 3) := by decide +kernel
theorem dX10_leftByDigits_27 : decode cX10_leftByDigits 27 = .ok (.getfield 66, 3) := by decide +kernel
theorem dX10_leftByDigits_30 : decode cX10_leftByDigits 30 = .ok (.iconst 1, 1) := by decide +kernel
theorem dX10_leftByDigits_31 : decode cX10_leftByDigits 31 = .ok (.isub, 1) := by decide +kernel
theorem dX10_leftByDigits_32 : decode cX10_leftByDigits 32 = .ok (.i2l, 1) := by decide +kernel
theorem dX10_leftByDigits_33 : decode cX10_leftByDigits 33 = .ok (.invokestatic 202, 3) := by decide +kernel
theorem dX10_leftByDigits_36 : decode cX10_leftByDigits 36 = .ok (.l2i, 1) := by decide +kernel
theorem dX10_leftByDigits_37 : decode cX10_leftByDigits 37 = .ok (.ireturn, 1) := by decide +kernel
theorem dX10_leftByDividing_0 : decode cX10_leftByDividing 0 = .ok (.iload_n 1, 1) := by decide +kernel
theorem dX10_leftByDividing_1 : decode cX10_leftByDividing 1 = .ok (.invokestatic 70, 3) := by decide +kernel
theorem dX10_leftByDividing_4 : decode cX10_leftByDividing 4 = .ok (.aload_n 0, 1) := by decide +kernel
theorem dX10_leftByDividing_5 : decode cX10_leftByDividing 5 = .ok (.getfield 10, 3) := by decide +kernel
theorem dX10_leftByDividing_8 : decode cX10_leftByDividing 8 = .ok (.iload_n 1, 1) := by decide +kernel
theorem dX10_leftByDividing_9 : decode cX10_leftByDividing 9 = .ok (.invokevirtual 178, 3) := by decide +kernel
theorem dX10_leftByDividing_12 : decode cX10_leftByDividing 12 = .ok (.i2l, 1) := by decide +kernel
theorem dX10_leftByDividing_13 : decode cX10_leftByDividing 13 = .ok (.aload_n 0, 1) := by decide +kernel
theorem dX10_leftByDividing_14 : decode cX10_leftByDividing 14 = .ok (.getfield 10, 3) := by decide +kernel
theorem dX10_leftByDividing_17 : decode cX10_leftByDividing 17 = .ok (.getfield 66, 3) := by decide +kernel
theorem dX10_leftByDividing_20 : decode cX10_leftByDividing 20 = .ok (.iconst 1, 1) := by decide +kernel
theorem dX10_leftByDividing_21 : decode cX10_leftByDividing 21 = .ok (.isub, 1) := by decide +kernel
theorem dX10_leftByDividing_22 : decode cX10_leftByDividing 22 = .ok (.i2l, 1) := by decide +kernel
theorem dX10_leftByDividing_23 : decode cX10_leftByDividing 23 = .ok (.invokestatic 202, 3) := by decide +kernel
theorem dX10_leftByDividing_26 : decode cX10_leftByDividing 26 = .ok (.l2i, 1) := by decide +kernel
theorem dX10_leftByDividing_27 : decode cX10_leftByDividing 27 = .ok (.ireturn, 1) := by decide +kernel
theorem dX10_headLength_0 : decode cX10_headLength 0 = .ok (.iload_n 1, 1) := by decide +kernel
theorem dX10_headLength_1 : decode cX10_headLength 1 = .ok (.invokestatic 70, 3) := by decide +kernel
theorem dX10_headLength_4 : decode cX10_headLength 4 = .ok (.aload_n 0, 1) := by decide +kernel
theorem dX10_headLength_5 : decode cX10_headLength 5 = .ok (.getfield 10, 3) := by decide +kernel
theorem dX10_headLength_8 : decode cX10_headLength 8 = .ok (.iload_n 1, 1) := by decide +kernel
theorem dX10_headLength_9 : decode cX10_headLength 9 = .ok (.invokevirtual 90, 3) := by decide +kernel
theorem dX10_headLength_12 : decode cX10_headLength 12 = .ok (.i2l, 1) := by decide +kernel
theorem dX10_headLength_13 : decode cX10_headLength 13 = .ok (.aload_n 0, 1) := by decide +kernel
theorem dX10_headLength_14 : decode cX10_headLength 14 = .ok (.getfield 10, 3) := by decide +kernel
theorem dX10_headLength_17 : decode cX10_headLength 17 = .ok (.getfield 66, 3) := by decide +kernel
theorem dX10_headLength_20 : decode cX10_headLength 20 = .ok (.invokestatic 208, 3) := by decide +kernel
theorem dX10_headLength_23 : decode cX10_headLength 23 = .ok (.ireturn, 1) := by decide +kernel
theorem dX10_periodLength_0 : decode cX10_periodLength 0 = .ok (.iload_n 1, 1) := by decide +kernel
theorem dX10_periodLength_1 : decode cX10_periodLength 1 = .ok (.invokestatic 70, 3) := by decide +kernel
theorem dX10_periodLength_4 : decode cX10_periodLength 4 = .ok (.aload_n 0, 1) := by decide +kernel
theorem dX10_periodLength_5 : decode cX10_periodLength 5 = .ok (.getfield 10, 3) := by decide +kernel
theorem dX10_periodLength_8 : decode cX10_periodLength 8 = .ok (.iload_n 1, 1) := by decide +kernel
theorem dX10_periodLength_9 : decode cX10_periodLength 9 = .ok (.invokevirtual 90, 3) := by decide +kernel
theorem dX10_periodLength_12 : decode cX10_periodLength 12 = .ok (.istore_n 2, 1) := by decide +kernel
theorem dX10_periodLength_13 : decode cX10_periodLength 13 = .ok (.iload_n 2, 1) := by decide +kernel
theorem dX10_periodLength_14 : decode cX10_periodLength 14 = .ok (.i2l, 1) := by decide +kernel
theorem dX10_periodLength_15 : decode cX10_periodLength 15 = .ok (.aload_n 0, 1) := by decide +kernel
theorem dX10_periodLength_16 : decode cX10_periodLength 16 = .ok (.getfield 10, 3) := by decide +kernel
theorem dX10_periodLength_19 : decode cX10_periodLength 19 = .ok (.getfield 66, 3) := by decide +kernel
theorem dX10_periodLength_22 : decode cX10_periodLength 22 = .ok (.invokestatic 208, 3) := by decide +kernel
theorem dX10_periodLength_25 : decode cX10_periodLength 25 = .ok (.istore_n 3, 1) := by decide +kernel
theorem dX10_periodLength_26 : decode cX10_periodLength 26 = .ok (.aload_n 0, 1) := by decide +kernel
theorem dX10_periodLength_27 : decode cX10_periodLength 27 = .ok (.getfield 10, 3) := by decide +kernel
theorem dX10_periodLength_30 : decode cX10_periodLength 30 = .ok (.iload_n 1, 1) := by decide +kernel
theorem dX10_periodLength_31 : decode cX10_periodLength 31 = .ok (.invokevirtual 214, 3) := by decide +kernel
theorem dX10_periodLength_34 : decode cX10_periodLength 34 = .ok (.iload_n 2, 1) := by decide +kernel
theorem dX10_periodLength_35 : decode cX10_periodLength 35 = .ok (.i2l, 1) := by decide +kernel
theorem dX10_periodLength_36 : decode cX10_periodLength 36 = .ok (.aload_n 0, 1) := by decide +kernel
theorem dX10_periodLength_37 : decode cX10_periodLength 37 = .ok (.getfield 10, 3) := by decide +kernel
theorem dX10_periodLength_40 : decode cX10_periodLength 40 = .ok (.getfield 66, 3) := by decide +kernel
theorem dX10_periodLength_43 : decode cX10_periodLength 43 = .ok (.iload_n 3, 1) := by decide +kernel
theorem dX10_periodLength_44 : decode cX10_periodLength 44 = .ok (.invokestatic 218, 3) := by decide +kernel
theorem dX10_periodLength_47 : decode cX10_periodLength 47 = .ok (.ireturn, 1) := by decide +kernel
theorem dX10_periodByOrder_0 : decode cX10_periodByOrder 0 = .ok (.iload_n 1, 1) := by decide +kernel
theorem dX10_periodByOrder_1 : decode cX10_periodByOrder 1 = .ok (.invokestatic 70, 3) := by decide +kernel
theorem dX10_periodByOrder_4 : decode cX10_periodByOrder 4 = .ok (.aload_n 0, 1) := by decide +kernel
theorem dX10_periodByOrder_5 : decode cX10_periodByOrder 5 = .ok (.getfield 10, 3) := by decide +kernel
theorem dX10_periodByOrder_8 : decode cX10_periodByOrder 8 = .ok (.iload_n 1, 1) := by decide +kernel
theorem dX10_periodByOrder_9 : decode cX10_periodByOrder 9 = .ok (.invokevirtual 90, 3) := by decide +kernel
theorem dX10_periodByOrder_12 : decode cX10_periodByOrder 12 = .ok (.i2l, 1) := by decide +kernel
theorem dX10_periodByOrder_13 : decode cX10_periodByOrder 13 = .ok (.aload_n 0, 1) := by decide +kernel
theorem dX10_periodByOrder_14 : decode cX10_periodByOrder 14 = .ok (.getfield 10, 3) := by decide +kernel
theorem dX10_periodByOrder_17 : decode cX10_periodByOrder 17 = .ok (.getfield 66, 3) := by decide +kernel
theorem dX10_periodByOrder_20 : decode cX10_periodByOrder 20 = .ok (.invokestatic 222, 3) := by decide +kernel
theorem dX10_periodByOrder_23 : decode cX10_periodByOrder 23 = .ok (.lstore_n 2, 1) := by decide +kernel
theorem dX10_periodByOrder_24 : decode cX10_periodByOrder 24 = .ok (.aload_n 0, 1) := by decide +kernel
theorem dX10_periodByOrder_25 : decode cX10_periodByOrder 25 = .ok (.getfield 10, 3) := by decide +kernel
theorem dX10_periodByOrder_28 : decode cX10_periodByOrder 28 = .ok (.getfield 66, 3) := by decide +kernel
theorem dX10_periodByOrder_31 : decode cX10_periodByOrder 31 = .ok (.lload_n 2, 1) := by decide +kernel
theorem dX10_periodByOrder_32 : decode cX10_periodByOrder 32 = .ok (.sipush 999, 3) := by decide +kernel
theorem dX10_periodByOrder_35 : decode cX10_periodByOrder 35 = .ok (.invokestatic 226, 3) := by decide +kernel
theorem dX10_periodByOrder_38 : decode cX10_periodByOrder 38 = .ok (.ireturn, 1) := by decide +kernel
theorem dX10_digitBehind_0 : decode cX10_digitBehind 0 = .ok (.iload_n 1, 1) := by decide +kernel
theorem dX10_digitBehind_1 : decode cX10_digitBehind 1 = .ok (.invokestatic 70, 3) := by decide +kernel
theorem dX10_digitBehind_4 : decode cX10_digitBehind 4 = .ok (.iload_n 2, 1) := by decide +kernel
theorem dX10_digitBehind_5 : decode cX10_digitBehind 5 = .ok (.ifCond .lt 10, 3) := by decide +kernel
theorem dX10_digitBehind_8 : decode cX10_digitBehind 8 = .ok (.iload_n 2, 1) := by decide +kernel
theorem dX10_digitBehind_9 : decode cX10_digitBehind 9 = .ok (.sipush 2000, 3) := by decide +kernel
theorem dX10_digitBehind_12 : decode cX10_digitBehind 12 = .ok (.if_icmp .le 13, 3) := by decide +kernel
theorem dX10_digitBehind_15 : decode cX10_digitBehind 15 = .ok (.new 74, 3) := by decide +kernel
theorem dX10_digitBehind_18 : decode cX10_digitBehind 18 = .ok (.dup, 1) := by decide +kernel
theorem dX10_digitBehind_19 : decode cX10_digitBehind 19 = .ok (.ldc 230, 2) := by decide +kernel
theorem dX10_digitBehind_21 : decode cX10_digitBehind 21 = .ok (.invokespecial 78, 3) := by decide +kernel
theorem dX10_digitBehind_24 : decode cX10_digitBehind 24 = .ok (.athrow, 1) := by decide +kernel
theorem dX10_digitBehind_25 : decode cX10_digitBehind 25 = .ok (.aload_n 0, 1) := by decide +kernel
theorem dX10_digitBehind_26 : decode cX10_digitBehind 26 = .ok (.getfield 10, 3) := by decide +kernel
theorem dX10_digitBehind_29 : decode cX10_digitBehind 29 = .ok (.iload_n 1, 1) := by decide +kernel
theorem dX10_digitBehind_30 : decode cX10_digitBehind 30 = .ok (.invokevirtual 214, 3) := by decide +kernel
theorem dX10_digitBehind_33 : decode cX10_digitBehind 33 = .ok (.aload_n 0, 1) := by decide +kernel
theorem dX10_digitBehind_34 : decode cX10_digitBehind 34 = .ok (.getfield 10, 3) := by decide +kernel
theorem dX10_digitBehind_37 : decode cX10_digitBehind 37 = .ok (.iload_n 1, 1) := by decide +kernel
theorem dX10_digitBehind_38 : decode cX10_digitBehind 38 = .ok (.invokevirtual 90, 3) := by decide +kernel
theorem dX10_digitBehind_41 : decode cX10_digitBehind 41 = .ok (.i2l, 1) := by decide +kernel
theorem dX10_digitBehind_42 : decode cX10_digitBehind 42 = .ok (.aload_n 0, 1) := by decide +kernel
theorem dX10_digitBehind_43 : decode cX10_digitBehind 43 = .ok (.getfield 10, 3) := by decide +kernel
theorem dX10_digitBehind_46 : decode cX10_digitBehind 46 = .ok (.getfield 66, 3) := by decide +kernel
theorem dX10_digitBehind_49 : decode cX10_digitBehind 49 = .ok (.iload_n 2, 1) := by decide +kernel
theorem dX10_digitBehind_50 : decode cX10_digitBehind 50 = .ok (.invokestatic 232, 3) := by decide +kernel
theorem dX10_digitBehind_53 : decode cX10_digitBehind 53 = .ok (.ireturn, 1) := by decide +kernel
theorem dX10_shortestBase_0 : decode cX10_shortestBase 0 = .ok (.iload_n 1, 1) := by decide +kernel
theorem dX10_shortestBase_1 : decode cX10_shortestBase 1 = .ok (.invokestatic 70, 3) := by decide +kernel
theorem dX10_shortestBase_4 : decode cX10_shortestBase 4 = .ok (.aload_n 0, 1) := by decide +kernel
theorem dX10_shortestBase_5 : decode cX10_shortestBase 5 = .ok (.getfield 10, 3) := by decide +kernel
theorem dX10_shortestBase_8 : decode cX10_shortestBase 8 = .ok (.iload_n 1, 1) := by decide +kernel
theorem dX10_shortestBase_9 : decode cX10_shortestBase 9 = .ok (.invokevirtual 90, 3) := by decide +kernel
theorem dX10_shortestBase_12 : decode cX10_shortestBase 12 = .ok (.istore_n 2, 1) := by decide +kernel
theorem dX10_shortestBase_13 : decode cX10_shortestBase 13 = .ok (.iconst 2, 1) := by decide +kernel
theorem dX10_shortestBase_14 : decode cX10_shortestBase 14 = .ok (.istore_n 3, 1) := by decide +kernel
theorem dX10_shortestBase_15 : decode cX10_shortestBase 15 = .ok (.sipush 1998, 3) := by decide +kernel
theorem dX10_shortestBase_18 : decode cX10_shortestBase 18 = .ok (.istore 4, 2) := by decide +kernel
theorem dX10_shortestBase_20 : decode cX10_shortestBase 20 = .ok (.iconst 2, 1) := by decide +kernel
theorem dX10_shortestBase_21 : decode cX10_shortestBase 21 = .ok (.istore 5, 2) := by decide +kernel
theorem dX10_shortestBase_23 : decode cX10_shortestBase 23 = .ok (.iload 5, 2) := by decide +kernel
theorem dX10_shortestBase_25 : decode cX10_shortestBase 25 = .ok (.bipush 16, 2) := by decide +kernel
theorem dX10_shortestBase_27 : decode cX10_shortestBase 27 = .ok (.if_icmp .gt 51, 3) := by decide +kernel
theorem dX10_shortestBase_30 : decode cX10_shortestBase 30 = .ok (.iload 5, 2) := by decide +kernel
theorem dX10_shortestBase_32 : decode cX10_shortestBase 32 = .ok (.iload_n 2, 1) := by decide +kernel
theorem dX10_shortestBase_33 : decode cX10_shortestBase 33 = .ok (.i2l, 1) := by decide +kernel
theorem dX10_shortestBase_34 : decode cX10_shortestBase 34 = .ok (.iload 5, 2) := by decide +kernel
theorem dX10_shortestBase_36 : decode cX10_shortestBase 36 = .ok (.invokestatic 222, 3) := by decide +kernel
theorem dX10_shortestBase_39 : decode cX10_shortestBase 39 = .ok (.iload 4, 2) := by decide +kernel
theorem dX10_shortestBase_41 : decode cX10_shortestBase 41 = .ok (.invokestatic 226, 3) := by decide +kernel
theorem dX10_shortestBase_44 : decode cX10_shortestBase 44 = .ok (.istore 6, 2) := by decide +kernel
theorem dX10_shortestBase_46 : decode cX10_shortestBase 46 = .ok (.iload_n 2, 1) := by decide +kernel
theorem dX10_shortestBase_47 : decode cX10_shortestBase 47 = .ok (.i2l, 1) := by decide +kernel
theorem dX10_shortestBase_48 : decode cX10_shortestBase 48 = .ok (.iload 5, 2) := by decide +kernel
theorem dX10_shortestBase_50 : decode cX10_shortestBase 50 = .ok (.invokestatic 208, 3) := by decide +kernel
theorem dX10_shortestBase_53 : decode cX10_shortestBase 53 = .ok (.iload 6, 2) := by decide +kernel
theorem dX10_shortestBase_55 : decode cX10_shortestBase 55 = .ok (.iadd, 1) := by decide +kernel
theorem dX10_shortestBase_56 : decode cX10_shortestBase 56 = .ok (.istore 7, 2) := by decide +kernel
theorem dX10_shortestBase_58 : decode cX10_shortestBase 58 = .ok (.iload 7, 2) := by decide +kernel
theorem dX10_shortestBase_60 : decode cX10_shortestBase 60 = .ok (.iload 4, 2) := by decide +kernel
theorem dX10_shortestBase_62 : decode cX10_shortestBase 62 = .ok (.if_icmp .ge 10, 3) := by decide +kernel
theorem dX10_shortestBase_65 : decode cX10_shortestBase 65 = .ok (.iload 7, 2) := by decide +kernel
theorem dX10_shortestBase_67 : decode cX10_shortestBase 67 = .ok (.istore 4, 2) := by decide +kernel
theorem dX10_shortestBase_69 : decode cX10_shortestBase 69 = .ok (.iload 5, 2) := by decide +kernel
theorem dX10_shortestBase_71 : decode cX10_shortestBase 71 = .ok (.istore_n 3, 1) := by decide +kernel
theorem dX10_shortestBase_72 : decode cX10_shortestBase 72 = .ok (.iinc 5 1, 3) := by decide +kernel
theorem dX10_shortestBase_75 : decode cX10_shortestBase 75 = .ok (.goto (-52), 3) := by decide +kernel
theorem dX10_shortestBase_78 : decode cX10_shortestBase 78 = .ok (.iload_n 3, 1) := by decide +kernel
theorem dX10_shortestBase_79 : decode cX10_shortestBase 79 = .ok (.ireturn, 1) := by decide +kernel
theorem dX10_writtenLength_0 : decode cX10_writtenLength 0 = .ok (.iload_n 1, 1) := by decide +kernel
theorem dX10_writtenLength_1 : decode cX10_writtenLength 1 = .ok (.invokestatic 70, 3) := by decide +kernel
theorem dX10_writtenLength_4 : decode cX10_writtenLength 4 = .ok (.aload_n 0, 1) := by decide +kernel
theorem dX10_writtenLength_5 : decode cX10_writtenLength 5 = .ok (.getfield 10, 3) := by decide +kernel
theorem dX10_writtenLength_8 : decode cX10_writtenLength 8 = .ok (.iload_n 1, 1) := by decide +kernel
theorem dX10_writtenLength_9 : decode cX10_writtenLength 9 = .ok (.invokevirtual 178, 3) := by decide +kernel
theorem dX10_writtenLength_12 : decode cX10_writtenLength 12 = .ok (.aload_n 0, 1) := by decide +kernel
theorem dX10_writtenLength_13 : decode cX10_writtenLength 13 = .ok (.getfield 10, 3) := by decide +kernel
theorem dX10_writtenLength_16 : decode cX10_writtenLength 16 = .ok (.getfield 66, 3) := by decide +kernel
theorem dX10_writtenLength_19 : decode cX10_writtenLength 19 = .ok (.invokestatic 185, 3) := by decide +kernel
theorem dX10_writtenLength_22 : decode cX10_writtenLength 22 = .ok (.istore_n 2, 1) := by decide +kernel
theorem dX10_writtenLength_23 : decode cX10_writtenLength 23 = .ok (.aload_n 0, 1) := by decide +kernel
theorem dX10_writtenLength_24 : decode cX10_writtenLength 24 = .ok (.getfield 10, 3) := by decide +kernel
theorem dX10_writtenLength_27 : decode cX10_writtenLength 27 = .ok (.iload_n 1, 1) := by decide +kernel
theorem dX10_writtenLength_28 : decode cX10_writtenLength 28 = .ok (.invokevirtual 90, 3) := by decide +kernel
theorem dX10_writtenLength_31 : decode cX10_writtenLength 31 = .ok (.istore_n 3, 1) := by decide +kernel
theorem dX10_writtenLength_32 : decode cX10_writtenLength 32 = .ok (.iload_n 3, 1) := by decide +kernel
theorem dX10_writtenLength_33 : decode cX10_writtenLength 33 = .ok (.i2l, 1) := by decide +kernel
theorem dX10_writtenLength_34 : decode cX10_writtenLength 34 = .ok (.aload_n 0, 1) := by decide +kernel
theorem dX10_writtenLength_35 : decode cX10_writtenLength 35 = .ok (.getfield 10, 3) := by decide +kernel
theorem dX10_writtenLength_38 : decode cX10_writtenLength 38 = .ok (.getfield 66, 3) := by decide +kernel
theorem dX10_writtenLength_41 : decode cX10_writtenLength 41 = .ok (.invokestatic 208, 3) := by decide +kernel
theorem dX10_writtenLength_44 : decode cX10_writtenLength 44 = .ok (.istore 4, 2) := by decide +kernel
theorem dX10_writtenLength_46 : decode cX10_writtenLength 46 = .ok (.aload_n 0, 1) := by decide +kernel
theorem dX10_writtenLength_47 : decode cX10_writtenLength 47 = .ok (.getfield 10, 3) := by decide +kernel
theorem dX10_writtenLength_50 : decode cX10_writtenLength 50 = .ok (.iload_n 1, 1) := by decide +kernel
theorem dX10_writtenLength_51 : decode cX10_writtenLength 51 = .ok (.invokevirtual 214, 3) := by decide +kernel
theorem dX10_writtenLength_54 : decode cX10_writtenLength 54 = .ok (.iload_n 3, 1) := by decide +kernel
theorem dX10_writtenLength_55 : decode cX10_writtenLength 55 = .ok (.i2l, 1) := by decide +kernel
theorem dX10_writtenLength_56 : decode cX10_writtenLength 56 = .ok (.aload_n 0, 1) := by decide +kernel
theorem dX10_writtenLength_57 : decode cX10_writtenLength 57 = .ok (.getfield 10, 3) := by decide +kernel
theorem dX10_writtenLength_60 : decode cX10_writtenLength 60 = .ok (.getfield 66, 3) := by decide +kernel
theorem dX10_writtenLength_63 : decode cX10_writtenLength 63 = .ok (.iload 4, 2) := by decide +kernel
theorem dX10_writtenLength_65 : decode cX10_writtenLength 65 = .ok (.invokestatic 218, 3) := by decide +kernel
theorem dX10_writtenLength_68 : decode cX10_writtenLength 68 = .ok (.istore 5, 2) := by decide +kernel
theorem dX10_writtenLength_70 : decode cX10_writtenLength 70 = .ok (.iload 4, 2) := by decide +kernel
theorem dX10_writtenLength_72 : decode cX10_writtenLength 72 = .ok (.iload 5, 2) := by decide +kernel
theorem dX10_writtenLength_74 : decode cX10_writtenLength 74 = .ok (.iadd, 1) := by decide +kernel
theorem dX10_writtenLength_75 : decode cX10_writtenLength 75 = .ok (.ifCond .le 10, 3) := by decide +kernel
theorem dX10_writtenLength_78 : decode cX10_writtenLength 78 = .ok (.iload_n 2, 1) := by decide +kernel
theorem dX10_writtenLength_79 : decode cX10_writtenLength 79 = .ok (.iconst 1, 1) := by decide +kernel
theorem dX10_writtenLength_80 : decode cX10_writtenLength 80 = .ok (.iload 4, 2) := by decide +kernel
theorem dX10_writtenLength_82 : decode cX10_writtenLength 82 = .ok (.iadd, 1) := by decide +kernel
theorem dX10_writtenLength_83 : decode cX10_writtenLength 83 = .ok (.iadd, 1) := by decide +kernel
theorem dX10_writtenLength_84 : decode cX10_writtenLength 84 = .ok (.istore_n 2, 1) := by decide +kernel
theorem dX10_writtenLength_85 : decode cX10_writtenLength 85 = .ok (.iload 5, 2) := by decide +kernel
theorem dX10_writtenLength_87 : decode cX10_writtenLength 87 = .ok (.ifCond .le 10, 3) := by decide +kernel
theorem dX10_writtenLength_90 : decode cX10_writtenLength 90 = .ok (.iload_n 2, 1) := by decide +kernel
theorem dX10_writtenLength_91 : decode cX10_writtenLength 91 = .ok (.iconst 2, 1) := by decide +kernel
theorem dX10_writtenLength_92 : decode cX10_writtenLength 92 = .ok (.iload 5, 2) := by decide +kernel
theorem dX10_writtenLength_94 : decode cX10_writtenLength 94 = .ok (.iadd, 1) := by decide +kernel
theorem dX10_writtenLength_95 : decode cX10_writtenLength 95 = .ok (.iadd, 1) := by decide +kernel
theorem dX10_writtenLength_96 : decode cX10_writtenLength 96 = .ok (.istore_n 2, 1) := by decide +kernel
theorem dX10_writtenLength_97 : decode cX10_writtenLength 97 = .ok (.iload_n 2, 1) := by decide +kernel
theorem dX10_writtenLength_98 : decode cX10_writtenLength 98 = .ok (.ireturn, 1) := by decide +kernel
theorem dX10_writtenAt_0 : decode cX10_writtenAt 0 = .ok (.iload_n 1, 1) := by decide +kernel
theorem dX10_writtenAt_1 : decode cX10_writtenAt 1 = .ok (.invokestatic 70, 3) := by decide +kernel
theorem dX10_writtenAt_4 : decode cX10_writtenAt 4 = .ok (.iload_n 2, 1) := by decide +kernel
theorem dX10_writtenAt_5 : decode cX10_writtenAt 5 = .ok (.ifCond .lt 12, 3) := by decide +kernel
theorem dX10_writtenAt_8 : decode cX10_writtenAt 8 = .ok (.iload_n 2, 1) := by decide +kernel
theorem dX10_writtenAt_9 : decode cX10_writtenAt 9 = .ok (.aload_n 0, 1) := by decide +kernel
theorem dX10_writtenAt_10 : decode cX10_writtenAt 10 = .ok (.iload_n 1, 1) := by decide +kernel
theorem dX10_writtenAt_11 : decode cX10_writtenAt 11 = .ok (.invokevirtual 235, 3) := by decide +kernel
theorem dX10_writtenAt_14 : decode cX10_writtenAt 14 = .ok (.if_icmp .lt 13, 3) := by decide +kernel
theorem dX10_writtenAt_17 : decode cX10_writtenAt 17 = .ok (.new 238, 3) := by decide +kernel
theorem dX10_writtenAt_20 : decode cX10_writtenAt 20 = .ok (.dup, 1) := by decide +kernel
theorem dX10_writtenAt_21 : decode cX10_writtenAt 21 = .ok (.ldc 240, 2) := by decide +kernel
theorem dX10_writtenAt_23 : decode cX10_writtenAt 23 = .ok (.invokespecial 242, 3) := by decide +kernel
theorem dX10_writtenAt_26 : decode cX10_writtenAt 26 = .ok (.athrow, 1) := by decide +kernel
theorem dX10_writtenAt_27 : decode cX10_writtenAt 27 = .ok (.aload_n 0, 1) := by decide +kernel
theorem dX10_writtenAt_28 : decode cX10_writtenAt 28 = .ok (.getfield 10, 3) := by decide +kernel
theorem dX10_writtenAt_31 : decode cX10_writtenAt 31 = .ok (.iload_n 1, 1) := by decide +kernel
theorem dX10_writtenAt_32 : decode cX10_writtenAt 32 = .ok (.invokevirtual 178, 3) := by decide +kernel
theorem dX10_writtenAt_35 : decode cX10_writtenAt 35 = .ok (.istore_n 3, 1) := by decide +kernel
theorem dX10_writtenAt_36 : decode cX10_writtenAt 36 = .ok (.iload_n 3, 1) := by decide +kernel
theorem dX10_writtenAt_37 : decode cX10_writtenAt 37 = .ok (.aload_n 0, 1) := by decide +kernel
theorem dX10_writtenAt_38 : decode cX10_writtenAt 38 = .ok (.getfield 10, 3) := by decide +kernel
theorem dX10_writtenAt_41 : decode cX10_writtenAt 41 = .ok (.getfield 66, 3) := by decide +kernel
theorem dX10_writtenAt_44 : decode cX10_writtenAt 44 = .ok (.invokestatic 185, 3) := by decide +kernel
theorem dX10_writtenAt_47 : decode cX10_writtenAt 47 = .ok (.istore 4, 2) := by decide +kernel
theorem dX10_writtenAt_49 : decode cX10_writtenAt 49 = .ok (.iload_n 2, 1) := by decide +kernel
theorem dX10_writtenAt_50 : decode cX10_writtenAt 50 = .ok (.iload 4, 2) := by decide +kernel
theorem dX10_writtenAt_52 : decode cX10_writtenAt 52 = .ok (.if_icmp .ge 24, 3) := by decide +kernel
theorem dX10_writtenAt_55 : decode cX10_writtenAt 55 = .ok (.iload_n 3, 1) := by decide +kernel
theorem dX10_writtenAt_56 : decode cX10_writtenAt 56 = .ok (.aload_n 0, 1) := by decide +kernel
theorem dX10_writtenAt_57 : decode cX10_writtenAt 57 = .ok (.getfield 10, 3) := by decide +kernel
theorem dX10_writtenAt_60 : decode cX10_writtenAt 60 = .ok (.getfield 66, 3) := by decide +kernel
theorem dX10_writtenAt_63 : decode cX10_writtenAt 63 = .ok (.iload 4, 2) := by decide +kernel
theorem dX10_writtenAt_65 : decode cX10_writtenAt 65 = .ok (.iconst 1, 1) := by decide +kernel
theorem dX10_writtenAt_66 : decode cX10_writtenAt 66 = .ok (.isub, 1) := by decide +kernel
theorem dX10_writtenAt_67 : decode cX10_writtenAt 67 = .ok (.iload_n 2, 1) := by decide +kernel
theorem dX10_writtenAt_68 : decode cX10_writtenAt 68 = .ok (.isub, 1) := by decide +kernel
theorem dX10_writtenAt_69 : decode cX10_writtenAt 69 = .ok (.invokestatic 192, 3) := by decide +kernel
theorem dX10_writtenAt_72 : decode cX10_writtenAt 72 = .ok (.invokestatic 243, 3) := by decide +kernel
theorem dX10_writtenAt_75 : decode cX10_writtenAt 75 = .ok (.ireturn, 1) := by decide +kernel
theorem dX10_writtenAt_76 : decode cX10_writtenAt 76 = .ok (.aload_n 0, 1) := by decide +kernel
theorem dX10_writtenAt_77 : decode cX10_writtenAt 77 = .ok (.iload_n 1, 1) := by decide +kernel
theorem dX10_writtenAt_78 : decode cX10_writtenAt 78 = .ok (.iload_n 2, 1) := by decide +kernel
theorem dX10_writtenAt_79 : decode cX10_writtenAt 79 = .ok (.iload 4, 2) := by decide +kernel
theorem dX10_writtenAt_81 : decode cX10_writtenAt 81 = .ok (.isub, 1) := by decide +kernel
theorem dX10_writtenAt_82 : decode cX10_writtenAt 82 = .ok (.invokevirtual 246, 3) := by decide +kernel
theorem dX10_writtenAt_85 : decode cX10_writtenAt 85 = .ok (.ireturn, 1) := by decide +kernel
theorem dX10_carries_0 : decode cX10_carries 0 = .ok (.iload_n 1, 1) := by decide +kernel
theorem dX10_carries_1 : decode cX10_carries 1 = .ok (.iload_n 2, 1) := by decide +kernel
theorem dX10_carries_2 : decode cX10_carries 2 = .ok (.invokestatic 94, 3) := by decide +kernel
theorem dX10_carries_5 : decode cX10_carries 5 = .ok (.aload_n 0, 1) := by decide +kernel
theorem dX10_carries_6 : decode cX10_carries 6 = .ok (.iload_n 1, 1) := by decide +kernel
theorem dX10_carries_7 : decode cX10_carries 7 = .ok (.iload_n 2, 1) := by decide +kernel
theorem dX10_carries_8 : decode cX10_carries 8 = .ok (.invokevirtual 249, 3) := by decide +kernel
theorem dX10_carries_11 : decode cX10_carries 11 = .ok (.aload_n 0, 1) := by decide +kernel
theorem dX10_carries_12 : decode cX10_carries 12 = .ok (.getfield 54, 3) := by decide +kernel
theorem dX10_carries_15 : decode cX10_carries 15 = .ok (.getfield 252, 3) := by decide +kernel
theorem dX10_carries_18 : decode cX10_carries 18 = .ok (.ireturn, 1) := by decide +kernel
theorem dX10_longestChain_0 : decode cX10_longestChain 0 = .ok (.iload_n 1, 1) := by decide +kernel
theorem dX10_longestChain_1 : decode cX10_longestChain 1 = .ok (.iload_n 2, 1) := by decide +kernel
theorem dX10_longestChain_2 : decode cX10_longestChain 2 = .ok (.invokestatic 94, 3) := by decide +kernel
theorem dX10_longestChain_5 : decode cX10_longestChain 5 = .ok (.aload_n 0, 1) := by decide +kernel
theorem dX10_longestChain_6 : decode cX10_longestChain 6 = .ok (.iload_n 1, 1) := by decide +kernel
theorem dX10_longestChain_7 : decode cX10_longestChain 7 = .ok (.iload_n 2, 1) := by decide +kernel
theorem dX10_longestChain_8 : decode cX10_longestChain 8 = .ok (.invokevirtual 249, 3) := by decide +kernel
theorem dX10_longestChain_11 : decode cX10_longestChain 11 = .ok (.aload_n 0, 1) := by decide +kernel
theorem dX10_longestChain_12 : decode cX10_longestChain 12 = .ok (.getfield 54, 3) := by decide +kernel
theorem dX10_longestChain_15 : decode cX10_longestChain 15 = .ok (.getfield 255, 3) := by decide +kernel
theorem dX10_longestChain_18 : decode cX10_longestChain 18 = .ok (.ireturn, 1) := by decide +kernel
theorem dX10_sumByColumns_0 : decode cX10_sumByColumns 0 = .ok (.iload_n 1, 1) := by decide +kernel
theorem dX10_sumByColumns_1 : decode cX10_sumByColumns 1 = .ok (.iload_n 2, 1) := by decide +kernel
theorem dX10_sumByColumns_2 : decode cX10_sumByColumns 2 = .ok (.invokestatic 94, 3) := by decide +kernel
theorem dX10_sumByColumns_5 : decode cX10_sumByColumns 5 = .ok (.aload_n 0, 1) := by decide +kernel
theorem dX10_sumByColumns_6 : decode cX10_sumByColumns 6 = .ok (.iload_n 1, 1) := by decide +kernel
theorem dX10_sumByColumns_7 : decode cX10_sumByColumns 7 = .ok (.iload_n 2, 1) := by decide +kernel
theorem dX10_sumByColumns_8 : decode cX10_sumByColumns 8 = .ok (.invokevirtual 249, 3) := by decide +kernel
theorem dX10_sumByColumns_11 : decode cX10_sumByColumns 11 = .ok (.aload_n 0, 1) := by decide +kernel
theorem dX10_sumByColumns_12 : decode cX10_sumByColumns 12 = .ok (.getfield 54, 3) := by decide +kernel
theorem dX10_sumByColumns_15 : decode cX10_sumByColumns 15 = .ok (.aload_n 0, 1) := by decide +kernel
theorem dX10_sumByColumns_16 : decode cX10_sumByColumns 16 = .ok (.getfield 10, 3) := by decide +kernel
theorem dX10_sumByColumns_19 : decode cX10_sumByColumns 19 = .ok (.getfield 66, 3) := by decide +kernel
theorem dX10_sumByColumns_22 : decode cX10_sumByColumns 22 = .ok (.invokevirtual 264, 3) := by decide +kernel
theorem dX10_sumByColumns_25 : decode cX10_sumByColumns 25 = .ok (.lreturn, 1) := by decide +kernel
theorem dX10_readIn_0 : decode cX10_readIn 0 = .ok (.iload_n 1, 1) := by decide +kernel
theorem dX10_readIn_1 : decode cX10_readIn 1 = .ok (.invokestatic 70, 3) := by decide +kernel
theorem dX10_readIn_4 : decode cX10_readIn 4 = .ok (.iload_n 2, 1) := by decide +kernel
theorem dX10_readIn_5 : decode cX10_readIn 5 = .ok (.invokestatic 58, 3) := by decide +kernel
theorem dX10_readIn_8 : decode cX10_readIn 8 = .ok (.aload_n 0, 1) := by decide +kernel
theorem dX10_readIn_9 : decode cX10_readIn 9 = .ok (.getfield 10, 3) := by decide +kernel
theorem dX10_readIn_12 : decode cX10_readIn 12 = .ok (.iload_n 1, 1) := by decide +kernel
theorem dX10_readIn_13 : decode cX10_readIn 13 = .ok (.invokevirtual 178, 3) := by decide +kernel
theorem dX10_readIn_16 : decode cX10_readIn 16 = .ok (.istore_n 3, 1) := by decide +kernel
theorem dX10_readIn_17 : decode cX10_readIn 17 = .ok (.lconst 0, 1) := by decide +kernel
theorem dX10_readIn_18 : decode cX10_readIn 18 = .ok (.lstore 4, 2) := by decide +kernel
theorem dX10_readIn_20 : decode cX10_readIn 20 = .ok (.iload_n 3, 1) := by decide +kernel
theorem dX10_readIn_21 : decode cX10_readIn 21 = .ok (.aload_n 0, 1) := by decide +kernel
theorem dX10_readIn_22 : decode cX10_readIn 22 = .ok (.getfield 10, 3) := by decide +kernel
theorem dX10_readIn_25 : decode cX10_readIn 25 = .ok (.getfield 66, 3) := by decide +kernel
theorem dX10_readIn_28 : decode cX10_readIn 28 = .ok (.invokestatic 185, 3) := by decide +kernel
theorem dX10_readIn_31 : decode cX10_readIn 31 = .ok (.iconst 1, 1) := by decide +kernel
theorem dX10_readIn_32 : decode cX10_readIn 32 = .ok (.isub, 1) := by decide +kernel
theorem dX10_readIn_33 : decode cX10_readIn 33 = .ok (.istore 6, 2) := by decide +kernel
theorem dX10_readIn_35 : decode cX10_readIn 35 = .ok (.iload 6, 2) := by decide +kernel
theorem dX10_readIn_37 : decode cX10_readIn 37 = .ok (.ifCond .lt 54, 3) := by decide +kernel
theorem dX10_readIn_40 : decode cX10_readIn 40 = .ok (.iload_n 3, 1) := by decide +kernel
theorem dX10_readIn_41 : decode cX10_readIn 41 = .ok (.aload_n 0, 1) := by decide +kernel
theorem dX10_readIn_42 : decode cX10_readIn 42 = .ok (.getfield 10, 3) := by decide +kernel
theorem dX10_readIn_45 : decode cX10_readIn 45 = .ok (.getfield 66, 3) := by decide +kernel
theorem dX10_readIn_48 : decode cX10_readIn 48 = .ok (.iload 6, 2) := by decide +kernel
theorem dX10_readIn_50 : decode cX10_readIn 50 = .ok (.invokestatic 192, 3) := by decide +kernel
theorem dX10_readIn_53 : decode cX10_readIn 53 = .ok (.istore 7, 2) := by decide +kernel
theorem dX10_readIn_55 : decode cX10_readIn 55 = .ok (.lload 4, 2) := by decide +kernel
theorem dX10_readIn_57 : decode cX10_readIn 57 = .ok (.iload_n 2, 1) := by decide +kernel
theorem dX10_readIn_58 : decode cX10_readIn 58 = .ok (.i2l, 1) := by decide +kernel
theorem dX10_readIn_59 : decode cX10_readIn 59 = .ok (.lmul, 1) := by decide +kernel
theorem dX10_readIn_60 : decode cX10_readIn 60 = .ok (.iload 7, 2) := by decide +kernel
theorem dX10_readIn_62 : decode cX10_readIn 62 = .ok (.i2l, 1) := by decide +kernel
theorem dX10_readIn_63 : decode cX10_readIn 63 = .ok (.ladd, 1) := by decide +kernel
theorem dX10_readIn_64 : decode cX10_readIn 64 = .ok (.lstore 4, 2) := by decide +kernel
theorem dX10_readIn_66 : decode cX10_readIn 66 = .ok (.iload 7, 2) := by decide +kernel
theorem dX10_readIn_68 : decode cX10_readIn 68 = .ok (.iload_n 2, 1) := by decide +kernel
theorem dX10_readIn_69 : decode cX10_readIn 69 = .ok (.if_icmp .ge 12, 3) := by decide +kernel
theorem dX10_readIn_72 : decode cX10_readIn 72 = .ok (.lload 4, 2) := by decide +kernel
theorem dX10_readIn_74 : decode cX10_readIn 74 = .ok (.ldc2_w 267, 3) := by decide +kernel
theorem dX10_readIn_77 : decode cX10_readIn 77 = .ok (.lcmp, 1) := by decide +kernel
theorem dX10_readIn_78 : decode cX10_readIn 78 = .ok (.ifCond .le 7, 3) := by decide +kernel
theorem dX10_readIn_81 : decode cX10_readIn 81 = .ok (.ldc2_w 269, 3) := by decide +kernel
theorem dX10_readIn_84 : decode cX10_readIn 84 = .ok (.lreturn, 1) := by decide +kernel
theorem dX10_readIn_85 : decode cX10_readIn 85 = .ok (.iinc 6 (-1), 3) := by decide +kernel
theorem dX10_readIn_88 : decode cX10_readIn 88 = .ok (.goto (-53), 3) := by decide +kernel
theorem dX10_readIn_91 : decode cX10_readIn 91 = .ok (.lload 4, 2) := by decide +kernel
theorem dX10_readIn_93 : decode cX10_readIn 93 = .ok (.lreturn, 1) := by decide +kernel
theorem dX10_whyNoSum_0 : decode cX10_whyNoSum 0 = .ok (.iload_n 1, 1) := by decide +kernel
theorem dX10_whyNoSum_1 : decode cX10_whyNoSum 1 = .ok (.iload_n 2, 1) := by decide +kernel
theorem dX10_whyNoSum_2 : decode cX10_whyNoSum 2 = .ok (.invokestatic 94, 3) := by decide +kernel
theorem dX10_whyNoSum_5 : decode cX10_whyNoSum 5 = .ok (.aload_n 0, 1) := by decide +kernel
theorem dX10_whyNoSum_6 : decode cX10_whyNoSum 6 = .ok (.iload_n 1, 1) := by decide +kernel
theorem dX10_whyNoSum_7 : decode cX10_whyNoSum 7 = .ok (.iload_n 2, 1) := by decide +kernel
theorem dX10_whyNoSum_8 : decode cX10_whyNoSum 8 = .ok (.invokevirtual 98, 3) := by decide +kernel
theorem dX10_whyNoSum_11 : decode cX10_whyNoSum 11 = .ok (.aload_n 0, 1) := by decide +kernel
theorem dX10_whyNoSum_12 : decode cX10_whyNoSum 12 = .ok (.getfield 40, 3) := by decide +kernel
theorem dX10_whyNoSum_15 : decode cX10_whyNoSum 15 = .ok (.getfield 271, 3) := by decide +kernel
theorem dX10_whyNoSum_18 : decode cX10_whyNoSum 18 = .ok (.ldc2_w 275, 3) := by decide +kernel
theorem dX10_whyNoSum_21 : decode cX10_whyNoSum 21 = .ok (.lcmp, 1) := by decide +kernel
theorem dX10_whyNoSum_22 : decode cX10_whyNoSum 22 = .ok (.ifCond .le 5, 3) := by decide +kernel
theorem dX10_whyNoSum_25 : decode cX10_whyNoSum 25 = .ok (.iconst 1, 1) := by decide +kernel
theorem dX10_whyNoSum_26 : decode cX10_whyNoSum 26 = .ok (.ireturn, 1) := by decide +kernel
theorem dX10_whyNoSum_27 : decode cX10_whyNoSum 27 = .ok (.aload_n 0, 1) := by decide +kernel
theorem dX10_whyNoSum_28 : decode cX10_whyNoSum 28 = .ok (.getfield 40, 3) := by decide +kernel
theorem dX10_whyNoSum_31 : decode cX10_whyNoSum 31 = .ok (.getfield 277, 3) := by decide +kernel
theorem dX10_whyNoSum_34 : decode cX10_whyNoSum 34 = .ok (.ldc2_w 280, 3) := by decide +kernel
theorem dX10_whyNoSum_37 : decode cX10_whyNoSum 37 = .ok (.lcmp, 1) := by decide +kernel
theorem dX10_whyNoSum_38 : decode cX10_whyNoSum 38 = .ok (.ifCond .le 7, 3) := by decide +kernel
theorem dX10_whyNoSum_41 : decode cX10_whyNoSum 41 = .ok (.iconst 2, 1) := by decide +kernel
theorem dX10_whyNoSum_42 : decode cX10_whyNoSum 42 = .ok (.goto 4, 3) := by decide +kernel
theorem dX10_whyNoSum_45 : decode cX10_whyNoSum 45 = .ok (.iconst 0, 1) := by decide +kernel
theorem dX10_whyNoSum_46 : decode cX10_whyNoSum 46 = .ok (.ireturn, 1) := by decide +kernel
theorem dX10_shareOf_0 : decode cX10_shareOf 0 = .ok (.iload_n 1, 1) := by decide +kernel
theorem dX10_shareOf_1 : decode cX10_shareOf 1 = .ok (.invokestatic 70, 3) := by decide +kernel
theorem dX10_shareOf_4 : decode cX10_shareOf 4 = .ok (.dconst 0, 1) := by decide +kernel
theorem dX10_shareOf_5 : decode cX10_shareOf 5 = .ok (.dstore_n 2, 1) := by decide +kernel
theorem dX10_shareOf_6 : decode cX10_shareOf 6 = .ok (.iconst 0, 1) := by decide +kernel
theorem dX10_shareOf_7 : decode cX10_shareOf 7 = .ok (.istore 4, 2) := by decide +kernel
theorem dX10_shareOf_9 : decode cX10_shareOf 9 = .ok (.iload 4, 2) := by decide +kernel
theorem dX10_shareOf_11 : decode cX10_shareOf 11 = .ok (.bipush 6, 2) := by decide +kernel
theorem dX10_shareOf_13 : decode cX10_shareOf 13 = .ok (.if_icmp .ge 21, 3) := by decide +kernel
theorem dX10_shareOf_16 : decode cX10_shareOf 16 = .ok (.dload_n 2, 1) := by decide +kernel
theorem dX10_shareOf_17 : decode cX10_shareOf 17 = .ok (.aload_n 0, 1) := by decide +kernel
theorem dX10_shareOf_18 : decode cX10_shareOf 18 = .ok (.getfield 10, 3) := by decide +kernel
theorem dX10_shareOf_21 : decode cX10_shareOf 21 = .ok (.iload 4, 2) := by decide +kernel
theorem dX10_shareOf_23 : decode cX10_shareOf 23 = .ok (.invokevirtual 285, 3) := by decide +kernel
theorem dX10_shareOf_26 : decode cX10_shareOf 26 = .ok (.dadd, 1) := by decide +kernel
theorem dX10_shareOf_27 : decode cX10_shareOf 27 = .ok (.dstore_n 2, 1) := by decide +kernel
theorem dX10_shareOf_28 : decode cX10_shareOf 28 = .ok (.iinc 4 1, 3) := by decide +kernel
theorem dX10_shareOf_31 : decode cX10_shareOf 31 = .ok (.goto (-22), 3) := by decide +kernel
theorem dX10_shareOf_34 : decode cX10_shareOf 34 = .ok (.dload_n 2, 1) := by decide +kernel
theorem dX10_shareOf_35 : decode cX10_shareOf 35 = .ok (.dconst 0, 1) := by decide +kernel
theorem dX10_shareOf_36 : decode cX10_shareOf 36 = .ok (.dcmp .l, 1) := by decide +kernel
theorem dX10_shareOf_37 : decode cX10_shareOf 37 = .ok (.ifCond .le 16, 3) := by decide +kernel
theorem dX10_shareOf_40 : decode cX10_shareOf 40 = .ok (.aload_n 0, 1) := by decide +kernel
theorem dX10_shareOf_41 : decode cX10_shareOf 41 = .ok (.getfield 10, 3) := by decide +kernel
theorem dX10_shareOf_44 : decode cX10_shareOf 44 = .ok (.iload_n 1, 1) := by decide +kernel
theorem dX10_shareOf_45 : decode cX10_shareOf 45 = .ok (.invokevirtual 285, 3) := by decide +kernel
theorem dX10_shareOf_48 : decode cX10_shareOf 48 = .ok (.dload_n 2, 1) := by decide +kernel
theorem dX10_shareOf_49 : decode cX10_shareOf 49 = .ok (.ddiv, 1) := by decide +kernel
theorem dX10_shareOf_50 : decode cX10_shareOf 50 = .ok (.goto 4, 3) := by decide +kernel
theorem dX10_shareOf_53 : decode cX10_shareOf 53 = .ok (.dconst 0, 1) := by decide +kernel
theorem dX10_shareOf_54 : decode cX10_shareOf 54 = .ok (.dreturn, 1) := by decide +kernel
theorem dX10_requireAccount_0 : decode cX10_requireAccount 0 = .ok (.iload_n 0, 1) := by decide +kernel
theorem dX10_requireAccount_1 : decode cX10_requireAccount 1 = .ok (.ifCond .lt 9, 3) := by decide +kernel
theorem dX10_requireAccount_4 : decode cX10_requireAccount 4 = .ok (.iload_n 0, 1) := by decide +kernel
theorem dX10_requireAccount_5 : decode cX10_requireAccount 5 = .ok (.bipush 6, 2) := by decide +kernel
theorem dX10_requireAccount_7 : decode cX10_requireAccount 7 = .ok (.if_icmp .lt 14, 3) := by decide +kernel
theorem dX10_requireAccount_10 : decode cX10_requireAccount 10 = .ok (.new 238, 3) := by decide +kernel
theorem dX10_requireAccount_13 : decode cX10_requireAccount 13 = .ok (.dup, 1) := by decide +kernel
theorem dX10_requireAccount_14 : decode cX10_requireAccount 14 = .ok (.ldc_w 385, 3) := by decide +kernel
theorem dX10_requireAccount_17 : decode cX10_requireAccount 17 = .ok (.invokespecial 242, 3) := by decide +kernel
theorem dX10_requireAccount_20 : decode cX10_requireAccount 20 = .ok (.athrow, 1) := by decide +kernel
theorem dX10_requireAccount_21 : decode cX10_requireAccount 21 = .ok (.return_, 1) := by decide +kernel
theorem dX10_requireAccounts_0 : decode cX10_requireAccounts 0 = .ok (.iload_n 0, 1) := by decide +kernel
theorem dX10_requireAccounts_1 : decode cX10_requireAccounts 1 = .ok (.invokestatic 70, 3) := by decide +kernel
theorem dX10_requireAccounts_4 : decode cX10_requireAccounts 4 = .ok (.iload_n 1, 1) := by decide +kernel
theorem dX10_requireAccounts_5 : decode cX10_requireAccounts 5 = .ok (.invokestatic 70, 3) := by decide +kernel
theorem dX10_requireAccounts_8 : decode cX10_requireAccounts 8 = .ok (.return_, 1) := by decide +kernel
theorem dX10_requireBase_0 : decode cX10_requireBase 0 = .ok (.iload_n 0, 1) := by decide +kernel
theorem dX10_requireBase_1 : decode cX10_requireBase 1 = .ok (.iconst 2, 1) := by decide +kernel
theorem dX10_requireBase_2 : decode cX10_requireBase 2 = .ok (.if_icmp .lt 9, 3) := by decide +kernel
theorem dX10_requireBase_5 : decode cX10_requireBase 5 = .ok (.iload_n 0, 1) := by decide +kernel
theorem dX10_requireBase_6 : decode cX10_requireBase 6 = .ok (.bipush 16, 2) := by decide +kernel
theorem dX10_requireBase_8 : decode cX10_requireBase 8 = .ok (.if_icmp .le 14, 3) := by decide +kernel
theorem dX10_requireBase_11 : decode cX10_requireBase 11 = .ok (.new 74, 3) := by decide +kernel
theorem dX10_requireBase_14 : decode cX10_requireBase 14 = .ok (.dup, 1) := by decide +kernel
theorem dX10_requireBase_15 : decode cX10_requireBase 15 = .ok (.ldc_w 387, 3) := by decide +kernel
theorem dX10_requireBase_18 : decode cX10_requireBase 18 = .ok (.invokespecial 78, 3) := by decide +kernel
theorem dX10_requireBase_21 : decode cX10_requireBase 21 = .ok (.athrow, 1) := by decide +kernel
theorem dX10_requireBase_22 : decode cX10_requireBase 22 = .ok (.return_, 1) := by decide +kernel
theorem dX10_requireColumn_0 : decode cX10_requireColumn 0 = .ok (.iload_n 2, 1) := by decide +kernel
theorem dX10_requireColumn_1 : decode cX10_requireColumn 1 = .ok (.ifCond .lt 12, 3) := by decide +kernel
theorem dX10_requireColumn_4 : decode cX10_requireColumn 4 = .ok (.iload_n 2, 1) := by decide +kernel
theorem dX10_requireColumn_5 : decode cX10_requireColumn 5 = .ok (.aload_n 0, 1) := by decide +kernel
theorem dX10_requireColumn_6 : decode cX10_requireColumn 6 = .ok (.iload_n 1, 1) := by decide +kernel
theorem dX10_requireColumn_7 : decode cX10_requireColumn 7 = .ok (.invokevirtual 320, 3) := by decide +kernel
theorem dX10_requireColumn_10 : decode cX10_requireColumn 10 = .ok (.if_icmp .lt 14, 3) := by decide +kernel
theorem dX10_requireColumn_13 : decode cX10_requireColumn 13 = .ok (.new 238, 3) := by decide +kernel
theorem dX10_requireColumn_16 : decode cX10_requireColumn 16 = .ok (.dup, 1) := by decide +kernel
theorem dX10_requireColumn_17 : decode cX10_requireColumn 17 = .ok (.ldc_w 259, 3) := by decide +kernel
theorem dX10_requireColumn_20 : decode cX10_requireColumn 20 = .ok (.invokespecial 242, 3) := by decide +kernel
theorem dX10_requireColumn_23 : decode cX10_requireColumn 23 = .ok (.athrow, 1) := by decide +kernel
theorem dX10_requireColumn_24 : decode cX10_requireColumn 24 = .ok (.return_, 1) := by decide +kernel
theorem dX10_requirePossible_0 : decode cX10_requirePossible 0 = .ok (.aload_n 0, 1) := by decide +kernel
theorem dX10_requirePossible_1 : decode cX10_requirePossible 1 = .ok (.getfield 40, 3) := by decide +kernel
theorem dX10_requirePossible_4 : decode cX10_requirePossible 4 = .ok (.invokevirtual 389, 3) := by decide +kernel
theorem dX10_requirePossible_7 : decode cX10_requirePossible 7 = .ok (.ifCond .eq 14, 3) := by decide +kernel
theorem dX10_requirePossible_10 : decode cX10_requirePossible 10 = .ok (.new 133, 3) := by decide +kernel
theorem dX10_requirePossible_13 : decode cX10_requirePossible 13 = .ok (.dup, 1) := by decide +kernel
theorem dX10_requirePossible_14 : decode cX10_requirePossible 14 = .ok (.ldc_w 392, 3) := by decide +kernel
theorem dX10_requirePossible_17 : decode cX10_requirePossible 17 = .ok (.invokespecial 137, 3) := by decide +kernel
theorem dX10_requirePossible_20 : decode cX10_requirePossible 20 = .ok (.athrow, 1) := by decide +kernel
theorem dX10_requirePossible_21 : decode cX10_requirePossible 21 = .ok (.return_, 1) := by decide +kernel
theorem dX10_requireStop_0 : decode cX10_requireStop 0 = .ok (.aload_n 0, 1) := by decide +kernel
theorem dX10_requireStop_1 : decode cX10_requireStop 1 = .ok (.getfield 10, 3) := by decide +kernel
theorem dX10_requireStop_4 : decode cX10_requireStop 4 = .ok (.getfield 156, 3) := by decide +kernel
theorem dX10_requireStop_7 : decode cX10_requireStop 7 = .ok (.ifCond .ne 14, 3) := by decide +kernel
theorem dX10_requireStop_10 : decode cX10_requireStop 10 = .ok (.new 133, 3) := by decide +kernel
theorem dX10_requireStop_13 : decode cX10_requireStop 13 = .ok (.dup, 1) := by decide +kernel
theorem dX10_requireStop_14 : decode cX10_requireStop 14 = .ok (.ldc_w 394, 3) := by decide +kernel
theorem dX10_requireStop_17 : decode cX10_requireStop 17 = .ok (.invokespecial 137, 3) := by decide +kernel
theorem dX10_requireStop_20 : decode cX10_requireStop 20 = .ok (.athrow, 1) := by decide +kernel
theorem dX10_requireStop_21 : decode cX10_requireStop 21 = .ok (.return_, 1) := by decide +kernel
theorem dX10_saveAndStore_0 : decode cX10_saveAndStore 0 = .ok (.aload_n 0, 1) := by decide +kernel
theorem dX10_saveAndStore_1 : decode cX10_saveAndStore 1 = .ok (.getfield 26, 3) := by decide +kernel
theorem dX10_saveAndStore_4 : decode cX10_saveAndStore 4 = .ok (.aload_n 0, 1) := by decide +kernel
theorem dX10_saveAndStore_5 : decode cX10_saveAndStore 5 = .ok (.getfield 10, 3) := by decide +kernel
theorem dX10_saveAndStore_8 : decode cX10_saveAndStore 8 = .ok (.invokevirtual 62, 3) := by decide +kernel
theorem dX10_saveAndStore_11 : decode cX10_saveAndStore 11 = .ok (.aload_n 0, 1) := by decide +kernel
theorem dX10_saveAndStore_12 : decode cX10_saveAndStore 12 = .ok (.getfield 10, 3) := by decide +kernel
theorem dX10_saveAndStore_15 : decode cX10_saveAndStore 15 = .ok (.iload_n 1, 1) := by decide +kernel
theorem dX10_saveAndStore_16 : decode cX10_saveAndStore 16 = .ok (.aload_n 0, 1) := by decide +kernel
theorem dX10_saveAndStore_17 : decode cX10_saveAndStore 17 = .ok (.getfield 40, 3) := by decide +kernel
theorem dX10_saveAndStore_20 : decode cX10_saveAndStore 20 = .ok (.invokevirtual 124, 3) := by decide +kernel
theorem dX10_saveAndStore_23 : decode cX10_saveAndStore 23 = .ok (.return_, 1) := by decide +kernel
theorem dX10_formSum_0 : decode cX10_formSum 0 = .ok (.aload_n 0, 1) := by decide +kernel
theorem dX10_formSum_1 : decode cX10_formSum 1 = .ok (.getfield 10, 3) := by decide +kernel
theorem dX10_formSum_4 : decode cX10_formSum 4 = .ok (.iload_n 1, 1) := by decide +kernel
theorem dX10_formSum_5 : decode cX10_formSum 5 = .ok (.invokevirtual 90, 3) := by decide +kernel
theorem dX10_formSum_8 : decode cX10_formSum 8 = .ok (.i2l, 1) := by decide +kernel
theorem dX10_formSum_9 : decode cX10_formSum 9 = .ok (.lstore_n 3, 1) := by decide +kernel
theorem dX10_formSum_10 : decode cX10_formSum 10 = .ok (.aload_n 0, 1) := by decide +kernel
theorem dX10_formSum_11 : decode cX10_formSum 11 = .ok (.getfield 10, 3) := by decide +kernel
theorem dX10_formSum_14 : decode cX10_formSum 14 = .ok (.iload_n 2, 1) := by decide +kernel
theorem dX10_formSum_15 : decode cX10_formSum 15 = .ok (.invokevirtual 90, 3) := by decide +kernel
theorem dX10_formSum_18 : decode cX10_formSum 18 = .ok (.i2l, 1) := by decide +kernel
theorem dX10_formSum_19 : decode cX10_formSum 19 = .ok (.lstore 5, 2) := by decide +kernel
theorem dX10_formSum_21 : decode cX10_formSum 21 = .ok (.aload_n 0, 1) := by decide +kernel
theorem dX10_formSum_22 : decode cX10_formSum 22 = .ok (.getfield 40, 3) := by decide +kernel
theorem dX10_formSum_25 : decode cX10_formSum 25 = .ok (.aload_n 0, 1) := by decide +kernel
theorem dX10_formSum_26 : decode cX10_formSum 26 = .ok (.getfield 10, 3) := by decide +kernel
theorem dX10_formSum_29 : decode cX10_formSum 29 = .ok (.iload_n 1, 1) := by decide +kernel
theorem dX10_formSum_30 : decode cX10_formSum 30 = .ok (.invokevirtual 104, 3) := by decide +kernel
theorem dX10_formSum_33 : decode cX10_formSum 33 = .ok (.i2l, 1) := by decide +kernel
theorem dX10_formSum_34 : decode cX10_formSum 34 = .ok (.lload 5, 2) := by decide +kernel
theorem dX10_formSum_36 : decode cX10_formSum 36 = .ok (.lmul, 1) := by decide +kernel
theorem dX10_formSum_37 : decode cX10_formSum 37 = .ok (.aload_n 0, 1) := by decide +kernel
theorem dX10_formSum_38 : decode cX10_formSum 38 = .ok (.getfield 10, 3) := by decide +kernel
theorem dX10_formSum_41 : decode cX10_formSum 41 = .ok (.iload_n 2, 1) := by decide +kernel
theorem dX10_formSum_42 : decode cX10_formSum 42 = .ok (.invokevirtual 104, 3) := by decide +kernel
theorem dX10_formSum_45 : decode cX10_formSum 45 = .ok (.i2l, 1) := by decide +kernel
theorem dX10_formSum_46 : decode cX10_formSum 46 = .ok (.lload_n 3, 1) := by decide +kernel
theorem dX10_formSum_47 : decode cX10_formSum 47 = .ok (.lmul, 1) := by decide +kernel
theorem dX10_formSum_48 : decode cX10_formSum 48 = .ok (.ladd, 1) := by decide +kernel
theorem dX10_formSum_49 : decode cX10_formSum 49 = .ok (.lload_n 3, 1) := by decide +kernel
theorem dX10_formSum_50 : decode cX10_formSum 50 = .ok (.lload 5, 2) := by decide +kernel
theorem dX10_formSum_52 : decode cX10_formSum 52 = .ok (.lmul, 1) := by decide +kernel
theorem dX10_formSum_53 : decode cX10_formSum 53 = .ok (.invokevirtual 83, 3) := by decide +kernel
theorem dX10_formSum_56 : decode cX10_formSum 56 = .ok (.return_, 1) := by decide +kernel
theorem dX10_formDifference_0 : decode cX10_formDifference 0 = .ok (.aload_n 0, 1) := by decide +kernel
theorem dX10_formDifference_1 : decode cX10_formDifference 1 = .ok (.getfield 10, 3) := by decide +kernel
theorem dX10_formDifference_4 : decode cX10_formDifference 4 = .ok (.iload_n 1, 1) := by decide +kernel
theorem dX10_formDifference_5 : decode cX10_formDifference 5 = .ok (.invokevirtual 90, 3) := by decide +kernel
theorem dX10_formDifference_8 : decode cX10_formDifference 8 = .ok (.i2l, 1) := by decide +kernel
theorem dX10_formDifference_9 : decode cX10_formDifference 9 = .ok (.lstore_n 3, 1) := by decide +kernel
theorem dX10_formDifference_10 : decode cX10_formDifference 10 = .ok (.aload_n 0, 1) := by decide +kernel
theorem dX10_formDifference_11 : decode cX10_formDifference 11 = .ok (.getfield 10, 3) := by decide +kernel
theorem dX10_formDifference_14 : decode cX10_formDifference 14 = .ok (.iload_n 2, 1) := by decide +kernel
theorem dX10_formDifference_15 : decode cX10_formDifference 15 = .ok (.invokevirtual 90, 3) := by decide +kernel
theorem dX10_formDifference_18 : decode cX10_formDifference 18 = .ok (.i2l, 1) := by decide +kernel
theorem dX10_formDifference_19 : decode cX10_formDifference 19 = .ok (.lstore 5, 2) := by decide +kernel
theorem dX10_formDifference_21 : decode cX10_formDifference 21 = .ok (.aload_n 0, 1) := by decide +kernel
theorem dX10_formDifference_22 : decode cX10_formDifference 22 = .ok (.getfield 40, 3) := by decide +kernel
theorem dX10_formDifference_25 : decode cX10_formDifference 25 = .ok (.aload_n 0, 1) := by decide +kernel
theorem dX10_formDifference_26 : decode cX10_formDifference 26 = .ok (.getfield 10, 3) := by decide +kernel
theorem dX10_formDifference_29 : decode cX10_formDifference 29 = .ok (.iload_n 1, 1) := by decide +kernel
theorem dX10_formDifference_30 : decode cX10_formDifference 30 = .ok (.invokevirtual 104, 3) := by decide +kernel
theorem dX10_formDifference_33 : decode cX10_formDifference 33 = .ok (.i2l, 1) := by decide +kernel
theorem dX10_formDifference_34 : decode cX10_formDifference 34 = .ok (.lload 5, 2) := by decide +kernel
theorem dX10_formDifference_36 : decode cX10_formDifference 36 = .ok (.lmul, 1) := by decide +kernel
theorem dX10_formDifference_37 : decode cX10_formDifference 37 = .ok (.aload_n 0, 1) := by decide +kernel
theorem dX10_formDifference_38 : decode cX10_formDifference 38 = .ok (.getfield 10, 3) := by decide +kernel
theorem dX10_formDifference_41 : decode cX10_formDifference 41 = .ok (.iload_n 2, 1) := by decide +kernel
theorem dX10_formDifference_42 : decode cX10_formDifference 42 = .ok (.invokevirtual 104, 3) := by decide +kernel
theorem dX10_formDifference_45 : decode cX10_formDifference 45 = .ok (.i2l, 1) := by decide +kernel
theorem dX10_formDifference_46 : decode cX10_formDifference 46 = .ok (.lload_n 3, 1) := by decide +kernel
theorem dX10_formDifference_47 : decode cX10_formDifference 47 = .ok (.lmul, 1) := by decide +kernel
theorem dX10_formDifference_48 : decode cX10_formDifference 48 = .ok (.lsub, 1) := by decide +kernel
theorem dX10_formDifference_49 : decode cX10_formDifference 49 = .ok (.lload_n 3, 1) := by decide +kernel
theorem dX10_formDifference_50 : decode cX10_formDifference 50 = .ok (.lload 5, 2) := by decide +kernel
theorem dX10_formDifference_52 : decode cX10_formDifference 52 = .ok (.lmul, 1) := by decide +kernel
theorem dX10_formDifference_53 : decode cX10_formDifference 53 = .ok (.invokevirtual 83, 3) := by decide +kernel
theorem dX10_formDifference_56 : decode cX10_formDifference 56 = .ok (.return_, 1) := by decide +kernel
theorem dX10_formShift_0 : decode cX10_formShift 0 = .ok (.aload_n 0, 1) := by decide +kernel
theorem dX10_formShift_1 : decode cX10_formShift 1 = .ok (.getfield 10, 3) := by decide +kernel
theorem dX10_formShift_4 : decode cX10_formShift 4 = .ok (.getfield 66, 3) := by decide +kernel
theorem dX10_formShift_7 : decode cX10_formShift 7 = .ok (.i2l, 1) := by decide +kernel
theorem dX10_formShift_8 : decode cX10_formShift 8 = .ok (.iload_n 2, 1) := by decide +kernel
theorem dX10_formShift_9 : decode cX10_formShift 9 = .ok (.invokestatic 396, 3) := by decide +kernel
theorem dX10_formShift_12 : decode cX10_formShift 12 = .ok (.invokestatic 401, 3) := by decide +kernel
theorem dX10_formShift_15 : decode cX10_formShift 15 = .ok (.lstore_n 3, 1) := by decide +kernel
theorem dX10_formShift_16 : decode cX10_formShift 16 = .ok (.iload_n 2, 1) := by decide +kernel
theorem dX10_formShift_17 : decode cX10_formShift 17 = .ok (.ifCond .ge 33, 3) := by decide +kernel
theorem dX10_formShift_20 : decode cX10_formShift 20 = .ok (.aload_n 0, 1) := by decide +kernel
theorem dX10_formShift_21 : decode cX10_formShift 21 = .ok (.getfield 40, 3) := by decide +kernel
theorem dX10_formShift_24 : decode cX10_formShift 24 = .ok (.aload_n 0, 1) := by decide +kernel
theorem dX10_formShift_25 : decode cX10_formShift 25 = .ok (.getfield 10, 3) := by decide +kernel
theorem dX10_formShift_28 : decode cX10_formShift 28 = .ok (.iload_n 1, 1) := by decide +kernel
theorem dX10_formShift_29 : decode cX10_formShift 29 = .ok (.invokevirtual 104, 3) := by decide +kernel
theorem dX10_formShift_32 : decode cX10_formShift 32 = .ok (.i2l, 1) := by decide +kernel
theorem dX10_formShift_33 : decode cX10_formShift 33 = .ok (.aload_n 0, 1) := by decide +kernel
theorem dX10_formShift_34 : decode cX10_formShift 34 = .ok (.getfield 10, 3) := by decide +kernel
theorem dX10_formShift_37 : decode cX10_formShift 37 = .ok (.iload_n 1, 1) := by decide +kernel
theorem dX10_formShift_38 : decode cX10_formShift 38 = .ok (.invokevirtual 90, 3) := by decide +kernel
theorem dX10_formShift_41 : decode cX10_formShift 41 = .ok (.i2l, 1) := by decide +kernel
theorem dX10_formShift_42 : decode cX10_formShift 42 = .ok (.lload_n 3, 1) := by decide +kernel
theorem dX10_formShift_43 : decode cX10_formShift 43 = .ok (.lmul, 1) := by decide +kernel
theorem dX10_formShift_44 : decode cX10_formShift 44 = .ok (.invokevirtual 83, 3) := by decide +kernel
theorem dX10_formShift_47 : decode cX10_formShift 47 = .ok (.goto 30, 3) := by decide +kernel
theorem dX10_formShift_50 : decode cX10_formShift 50 = .ok (.aload_n 0, 1) := by decide +kernel
theorem dX10_formShift_51 : decode cX10_formShift 51 = .ok (.getfield 40, 3) := by decide +kernel
theorem dX10_formShift_54 : decode cX10_formShift 54 = .ok (.aload_n 0, 1) := by decide +kernel
theorem dX10_formShift_55 : decode cX10_formShift 55 = .ok (.getfield 10, 3) := by decide +kernel
theorem dX10_formShift_58 : decode cX10_formShift 58 = .ok (.iload_n 1, 1) := by decide +kernel
theorem dX10_formShift_59 : decode cX10_formShift 59 = .ok (.invokevirtual 104, 3) := by decide +kernel
theorem dX10_formShift_62 : decode cX10_formShift 62 = .ok (.i2l, 1) := by decide +kernel
theorem dX10_formShift_63 : decode cX10_formShift 63 = .ok (.lload_n 3, 1) := by decide +kernel
theorem dX10_formShift_64 : decode cX10_formShift 64 = .ok (.lmul, 1) := by decide +kernel
theorem dX10_formShift_65 : decode cX10_formShift 65 = .ok (.aload_n 0, 1) := by decide +kernel
theorem dX10_formShift_66 : decode cX10_formShift 66 = .ok (.getfield 10, 3) := by decide +kernel
theorem dX10_formShift_69 : decode cX10_formShift 69 = .ok (.iload_n 1, 1) := by decide +kernel
theorem dX10_formShift_70 : decode cX10_formShift 70 = .ok (.invokevirtual 90, 3) := by decide +kernel
theorem dX10_formShift_73 : decode cX10_formShift 73 = .ok (.i2l, 1) := by decide +kernel
theorem dX10_formShift_74 : decode cX10_formShift 74 = .ok (.invokevirtual 83, 3) := by decide +kernel
theorem dX10_formShift_77 : decode cX10_formShift 77 = .ok (.return_, 1) := by decide +kernel
theorem dX10_formWithCoins_0 : decode cX10_formWithCoins 0 = .ok (.aload_n 0, 1) := by decide +kernel
theorem dX10_formWithCoins_1 : decode cX10_formWithCoins 1 = .ok (.getfield 10, 3) := by decide +kernel
theorem dX10_formWithCoins_4 : decode cX10_formWithCoins 4 = .ok (.iload_n 1, 1) := by decide +kernel
theorem dX10_formWithCoins_5 : decode cX10_formWithCoins 5 = .ok (.invokevirtual 90, 3) := by decide +kernel
theorem dX10_formWithCoins_8 : decode cX10_formWithCoins 8 = .ok (.i2l, 1) := by decide +kernel
theorem dX10_formWithCoins_9 : decode cX10_formWithCoins 9 = .ok (.lstore 4, 2) := by decide +kernel
theorem dX10_formWithCoins_11 : decode cX10_formWithCoins 11 = .ok (.aload_n 0, 1) := by decide +kernel
theorem dX10_formWithCoins_12 : decode cX10_formWithCoins 12 = .ok (.getfield 40, 3) := by decide +kernel
theorem dX10_formWithCoins_15 : decode cX10_formWithCoins 15 = .ok (.aload_n 0, 1) := by decide +kernel
theorem dX10_formWithCoins_16 : decode cX10_formWithCoins 16 = .ok (.getfield 10, 3) := by decide +kernel
theorem dX10_formWithCoins_19 : decode cX10_formWithCoins 19 = .ok (.iload_n 1, 1) := by decide +kernel
theorem dX10_formWithCoins_20 : decode cX10_formWithCoins 20 = .ok (.invokevirtual 104, 3) := by decide +kernel
theorem dX10_formWithCoins_23 : decode cX10_formWithCoins 23 = .ok (.i2l, 1) := by decide +kernel
theorem dX10_formWithCoins_24 : decode cX10_formWithCoins 24 = .ok (.lload_n 2, 1) := by decide +kernel
theorem dX10_formWithCoins_25 : decode cX10_formWithCoins 25 = .ok (.lload 4, 2) := by decide +kernel
theorem dX10_formWithCoins_27 : decode cX10_formWithCoins 27 = .ok (.lmul, 1) := by decide +kernel
theorem dX10_formWithCoins_28 : decode cX10_formWithCoins 28 = .ok (.ladd, 1) := by decide +kernel
theorem dX10_formWithCoins_29 : decode cX10_formWithCoins 29 = .ok (.lload 4, 2) := by decide +kernel
theorem dX10_formWithCoins_31 : decode cX10_formWithCoins 31 = .ok (.invokevirtual 83, 3) := by decide +kernel
theorem dX10_formWithCoins_34 : decode cX10_formWithCoins 34 = .ok (.return_, 1) := by decide +kernel
theorem dX10_formColumns_0 : decode cX10_formColumns 0 = .ok (.aload_n 0, 1) := by decide +kernel
theorem dX10_formColumns_1 : decode cX10_formColumns 1 = .ok (.getfield 54, 3) := by decide +kernel
theorem dX10_formColumns_4 : decode cX10_formColumns 4 = .ok (.aload_n 0, 1) := by decide +kernel
theorem dX10_formColumns_5 : decode cX10_formColumns 5 = .ok (.getfield 10, 3) := by decide +kernel
theorem dX10_formColumns_8 : decode cX10_formColumns 8 = .ok (.iload_n 1, 1) := by decide +kernel
theorem dX10_formColumns_9 : decode cX10_formColumns 9 = .ok (.invokevirtual 178, 3) := by decide +kernel
theorem dX10_formColumns_12 : decode cX10_formColumns 12 = .ok (.aload_n 0, 1) := by decide +kernel
theorem dX10_formColumns_13 : decode cX10_formColumns 13 = .ok (.getfield 10, 3) := by decide +kernel
theorem dX10_formColumns_16 : decode cX10_formColumns 16 = .ok (.iload_n 2, 1) := by decide +kernel
theorem dX10_formColumns_17 : decode cX10_formColumns 17 = .ok (.invokevirtual 178, 3) := by decide +kernel
theorem dX10_formColumns_20 : decode cX10_formColumns 20 = .ok (.aload_n 0, 1) := by decide +kernel
theorem dX10_formColumns_21 : decode cX10_formColumns 21 = .ok (.getfield 10, 3) := by decide +kernel
theorem dX10_formColumns_24 : decode cX10_formColumns 24 = .ok (.getfield 66, 3) := by decide +kernel
theorem dX10_formColumns_27 : decode cX10_formColumns 27 = .ok (.invokevirtual 404, 3) := by decide +kernel
theorem dX10_formColumns_30 : decode cX10_formColumns 30 = .ok (.return_, 1) := by decide +kernel
theorem dX10_order_0 : decode cX10_order 0 = .ok (.aload_n 0, 1) := by decide +kernel
theorem dX10_order_1 : decode cX10_order 1 = .ok (.getfield 10, 3) := by decide +kernel
theorem dX10_order_4 : decode cX10_order 4 = .ok (.iload_n 1, 1) := by decide +kernel
theorem dX10_order_5 : decode cX10_order 5 = .ok (.invokevirtual 104, 3) := by decide +kernel
theorem dX10_order_8 : decode cX10_order 8 = .ok (.i2l, 1) := by decide +kernel
theorem dX10_order_9 : decode cX10_order 9 = .ok (.aload_n 0, 1) := by decide +kernel
theorem dX10_order_10 : decode cX10_order 10 = .ok (.getfield 10, 3) := by decide +kernel
theorem dX10_order_13 : decode cX10_order 13 = .ok (.iload_n 2, 1) := by decide +kernel
theorem dX10_order_14 : decode cX10_order 14 = .ok (.invokevirtual 90, 3) := by decide +kernel
theorem dX10_order_17 : decode cX10_order 17 = .ok (.i2l, 1) := by decide +kernel
theorem dX10_order_18 : decode cX10_order 18 = .ok (.lmul, 1) := by decide +kernel
theorem dX10_order_19 : decode cX10_order 19 = .ok (.lstore_n 3, 1) := by decide +kernel
theorem dX10_order_20 : decode cX10_order 20 = .ok (.aload_n 0, 1) := by decide +kernel
theorem dX10_order_21 : decode cX10_order 21 = .ok (.getfield 10, 3) := by decide +kernel
theorem dX10_order_24 : decode cX10_order 24 = .ok (.iload_n 2, 1) := by decide +kernel
theorem dX10_order_25 : decode cX10_order 25 = .ok (.invokevirtual 104, 3) := by decide +kernel
theorem dX10_order_28 : decode cX10_order 28 = .ok (.i2l, 1) := by decide +kernel
theorem dX10_order_29 : decode cX10_order 29 = .ok (.aload_n 0, 1) := by decide +kernel
theorem dX10_order_30 : decode cX10_order 30 = .ok (.getfield 10, 3) := by decide +kernel
theorem dX10_order_33 : decode cX10_order 33 = .ok (.iload_n 1, 1) := by decide +kernel
theorem dX10_order_34 : decode cX10_order 34 = .ok (.invokevirtual 90, 3) := by decide +kernel
theorem dX10_order_37 : decode cX10_order 37 = .ok (.i2l, 1) := by decide +kernel
theorem dX10_order_38 : decode cX10_order 38 = .ok (.lmul, 1) := by decide +kernel
theorem dX10_order_39 : decode cX10_order 39 = .ok (.lstore 5, 2) := by decide +kernel
theorem dX10_order_41 : decode cX10_order 41 = .ok (.lload_n 3, 1) := by decide +kernel
theorem dX10_order_42 : decode cX10_order 42 = .ok (.lload 5, 2) := by decide +kernel
theorem dX10_order_44 : decode cX10_order 44 = .ok (.lcmp, 1) := by decide +kernel
theorem dX10_order_45 : decode cX10_order 45 = .ok (.ifCond .ne 5, 3) := by decide +kernel
theorem dX10_order_48 : decode cX10_order 48 = .ok (.iconst 0, 1) := by decide +kernel
theorem dX10_order_49 : decode cX10_order 49 = .ok (.ireturn, 1) := by decide +kernel
theorem dX10_order_50 : decode cX10_order 50 = .ok (.lload_n 3, 1) := by decide +kernel
theorem dX10_order_51 : decode cX10_order 51 = .ok (.lload 5, 2) := by decide +kernel
theorem dX10_order_53 : decode cX10_order 53 = .ok (.lcmp, 1) := by decide +kernel
theorem dX10_order_54 : decode cX10_order 54 = .ok (.ifCond .le 7, 3) := by decide +kernel
theorem dX10_order_57 : decode cX10_order 57 = .ok (.iconst 1, 1) := by decide +kernel
theorem dX10_order_58 : decode cX10_order 58 = .ok (.goto 4, 3) := by decide +kernel
theorem dX10_order_61 : decode cX10_order 61 = .ok (.iconst (-1), 1) := by decide +kernel
theorem dX10_order_62 : decode cX10_order 62 = .ok (.ireturn, 1) := by decide +kernel
theorem dX10_codeOfDigit_0 : decode cX10_codeOfDigit 0 = .ok (.iload_n 0, 1) := by decide +kernel
theorem dX10_codeOfDigit_1 : decode cX10_codeOfDigit 1 = .ok (.bipush 10, 2) := by decide +kernel
theorem dX10_codeOfDigit_3 : decode cX10_codeOfDigit 3 = .ok (.if_icmp .ge 10, 3) := by decide +kernel
theorem dX10_codeOfDigit_6 : decode cX10_codeOfDigit 6 = .ok (.bipush 48, 2) := by decide +kernel
theorem dX10_codeOfDigit_8 : decode cX10_codeOfDigit 8 = .ok (.iload_n 0, 1) := by decide +kernel
theorem dX10_codeOfDigit_9 : decode cX10_codeOfDigit 9 = .ok (.iadd, 1) := by decide +kernel
theorem dX10_codeOfDigit_10 : decode cX10_codeOfDigit 10 = .ok (.goto 10, 3) := by decide +kernel
theorem dX10_codeOfDigit_13 : decode cX10_codeOfDigit 13 = .ok (.bipush 97, 2) := by decide +kernel
theorem dX10_codeOfDigit_15 : decode cX10_codeOfDigit 15 = .ok (.iload_n 0, 1) := by decide +kernel
theorem dX10_codeOfDigit_16 : decode cX10_codeOfDigit 16 = .ok (.iadd, 1) := by decide +kernel
theorem dX10_codeOfDigit_17 : decode cX10_codeOfDigit 17 = .ok (.bipush 10, 2) := by decide +kernel
theorem dX10_codeOfDigit_19 : decode cX10_codeOfDigit 19 = .ok (.isub, 1) := by decide +kernel
theorem dX10_codeOfDigit_20 : decode cX10_codeOfDigit 20 = .ok (.ireturn, 1) := by decide +kernel
theorem dX10_codeBehind_0 : decode cX10_codeBehind 0 = .ok (.aload_n 0, 1) := by decide +kernel
theorem dX10_codeBehind_1 : decode cX10_codeBehind 1 = .ok (.getfield 10, 3) := by decide +kernel
theorem dX10_codeBehind_4 : decode cX10_codeBehind 4 = .ok (.iload_n 1, 1) := by decide +kernel
theorem dX10_codeBehind_5 : decode cX10_codeBehind 5 = .ok (.invokevirtual 90, 3) := by decide +kernel
theorem dX10_codeBehind_8 : decode cX10_codeBehind 8 = .ok (.istore_n 3, 1) := by decide +kernel
theorem dX10_codeBehind_9 : decode cX10_codeBehind 9 = .ok (.aload_n 0, 1) := by decide +kernel
theorem dX10_codeBehind_10 : decode cX10_codeBehind 10 = .ok (.getfield 10, 3) := by decide +kernel
theorem dX10_codeBehind_13 : decode cX10_codeBehind 13 = .ok (.iload_n 1, 1) := by decide +kernel
theorem dX10_codeBehind_14 : decode cX10_codeBehind 14 = .ok (.invokevirtual 214, 3) := by decide +kernel
theorem dX10_codeBehind_17 : decode cX10_codeBehind 17 = .ok (.lstore 4, 2) := by decide +kernel
theorem dX10_codeBehind_19 : decode cX10_codeBehind 19 = .ok (.iload_n 3, 1) := by decide +kernel
theorem dX10_codeBehind_20 : decode cX10_codeBehind 20 = .ok (.i2l, 1) := by decide +kernel
theorem dX10_codeBehind_21 : decode cX10_codeBehind 21 = .ok (.aload_n 0, 1) := by decide +kernel
theorem dX10_codeBehind_22 : decode cX10_codeBehind 22 = .ok (.getfield 10, 3) := by decide +kernel
theorem dX10_codeBehind_25 : decode cX10_codeBehind 25 = .ok (.getfield 66, 3) := by decide +kernel
theorem dX10_codeBehind_28 : decode cX10_codeBehind 28 = .ok (.invokestatic 208, 3) := by decide +kernel
theorem dX10_codeBehind_31 : decode cX10_codeBehind 31 = .ok (.istore 6, 2) := by decide +kernel
theorem dX10_codeBehind_33 : decode cX10_codeBehind 33 = .ok (.iload_n 2, 1) := by decide +kernel
theorem dX10_codeBehind_34 : decode cX10_codeBehind 34 = .ok (.ifCond .ne 6, 3) := by decide +kernel
theorem dX10_codeBehind_37 : decode cX10_codeBehind 37 = .ok (.bipush 46, 2) := by decide +kernel
theorem dX10_codeBehind_39 : decode cX10_codeBehind 39 = .ok (.ireturn, 1) := by decide +kernel
theorem dX10_codeBehind_40 : decode cX10_codeBehind 40 = .ok (.iload_n 2, 1) := by decide +kernel
theorem dX10_codeBehind_41 : decode cX10_codeBehind 41 = .ok (.iload 6, 2) := by decide +kernel
theorem dX10_codeBehind_43 : decode cX10_codeBehind 43 = .ok (.if_icmp .gt 24, 3) := by decide +kernel
theorem dX10_codeBehind_46 : decode cX10_codeBehind 46 = .ok (.lload 4, 2) := by decide +kernel
theorem dX10_codeBehind_48 : decode cX10_codeBehind 48 = .ok (.iload_n 3, 1) := by decide +kernel
theorem dX10_codeBehind_49 : decode cX10_codeBehind 49 = .ok (.i2l, 1) := by decide +kernel
theorem dX10_codeBehind_50 : decode cX10_codeBehind 50 = .ok (.aload_n 0, 1) := by decide +kernel
theorem dX10_codeBehind_51 : decode cX10_codeBehind 51 = .ok (.getfield 10, 3) := by decide +kernel
theorem dX10_codeBehind_54 : decode cX10_codeBehind 54 = .ok (.getfield 66, 3) := by decide +kernel
theorem dX10_codeBehind_57 : decode cX10_codeBehind 57 = .ok (.iload_n 2, 1) := by decide +kernel
theorem dX10_codeBehind_58 : decode cX10_codeBehind 58 = .ok (.iconst 1, 1) := by decide +kernel
theorem dX10_codeBehind_59 : decode cX10_codeBehind 59 = .ok (.isub, 1) := by decide +kernel
theorem dX10_codeBehind_60 : decode cX10_codeBehind 60 = .ok (.invokestatic 232, 3) := by decide +kernel
theorem dX10_codeBehind_63 : decode cX10_codeBehind 63 = .ok (.invokestatic 243, 3) := by decide +kernel
theorem dX10_codeBehind_66 : decode cX10_codeBehind 66 = .ok (.ireturn, 1) := by decide +kernel
theorem dX10_codeBehind_67 : decode cX10_codeBehind 67 = .ok (.iload_n 2, 1) := by decide +kernel
theorem dX10_codeBehind_68 : decode cX10_codeBehind 68 = .ok (.iload 6, 2) := by decide +kernel
theorem dX10_codeBehind_70 : decode cX10_codeBehind 70 = .ok (.iconst 1, 1) := by decide +kernel
theorem dX10_codeBehind_71 : decode cX10_codeBehind 71 = .ok (.iadd, 1) := by decide +kernel
theorem dX10_codeBehind_72 : decode cX10_codeBehind 72 = .ok (.if_icmp .ne 6, 3) := by decide +kernel
theorem dX10_codeBehind_75 : decode cX10_codeBehind 75 = .ok (.bipush 40, 2) := by decide +kernel
theorem dX10_codeBehind_77 : decode cX10_codeBehind 77 = .ok (.ireturn, 1) := by decide +kernel
theorem dX10_codeBehind_78 : decode cX10_codeBehind 78 = .ok (.iload_n 2, 1) := by decide +kernel
theorem dX10_codeBehind_79 : decode cX10_codeBehind 79 = .ok (.iconst 2, 1) := by decide +kernel
theorem dX10_codeBehind_80 : decode cX10_codeBehind 80 = .ok (.isub, 1) := by decide +kernel
theorem dX10_codeBehind_81 : decode cX10_codeBehind 81 = .ok (.istore 7, 2) := by decide +kernel
theorem dX10_codeBehind_83 : decode cX10_codeBehind 83 = .ok (.iload 7, 2) := by decide +kernel
theorem dX10_codeBehind_85 : decode cX10_codeBehind 85 = .ok (.iload 6, 2) := by decide +kernel
theorem dX10_codeBehind_87 : decode cX10_codeBehind 87 = .ok (.lload 4, 2) := by decide +kernel
theorem dX10_codeBehind_89 : decode cX10_codeBehind 89 = .ok (.iload_n 3, 1) := by decide +kernel
theorem dX10_codeBehind_90 : decode cX10_codeBehind 90 = .ok (.i2l, 1) := by decide +kernel
theorem dX10_codeBehind_91 : decode cX10_codeBehind 91 = .ok (.aload_n 0, 1) := by decide +kernel
theorem dX10_codeBehind_92 : decode cX10_codeBehind 92 = .ok (.getfield 10, 3) := by decide +kernel
theorem dX10_codeBehind_95 : decode cX10_codeBehind 95 = .ok (.getfield 66, 3) := by decide +kernel
theorem dX10_codeBehind_98 : decode cX10_codeBehind 98 = .ok (.iload 6, 2) := by decide +kernel
theorem dX10_codeBehind_100 : decode cX10_codeBehind 100 = .ok (.invokestatic 218, 3) := by decide +kernel
theorem dX10_codeBehind_103 : decode cX10_codeBehind 103 = .ok (.iadd, 1) := by decide +kernel
theorem dX10_codeBehind_104 : decode cX10_codeBehind 104 = .ok (.if_icmp .ge 23, 3) := by decide +kernel
theorem dX10_codeBehind_107 : decode cX10_codeBehind 107 = .ok (.lload 4, 2) := by decide +kernel
theorem dX10_codeBehind_109 : decode cX10_codeBehind 109 = .ok (.iload_n 3, 1) := by decide +kernel
theorem dX10_codeBehind_110 : decode cX10_codeBehind 110 = .ok (.i2l, 1) := by decide +kernel
theorem dX10_codeBehind_111 : decode cX10_codeBehind 111 = .ok (.aload_n 0, 1) := by decide +kernel
theorem dX10_codeBehind_112 : decode cX10_codeBehind 112 = .ok (.getfield 10, 3) := by decide +kernel
theorem dX10_codeBehind_115 : decode cX10_codeBehind 115 = .ok (.getfield 66, 3) := by decide +kernel
theorem dX10_codeBehind_118 : decode cX10_codeBehind 118 = .ok (.iload 7, 2) := by decide +kernel
theorem dX10_codeBehind_120 : decode cX10_codeBehind 120 = .ok (.invokestatic 232, 3) := by decide +kernel
theorem dX10_codeBehind_123 : decode cX10_codeBehind 123 = .ok (.invokestatic 243, 3) := by decide +kernel
theorem dX10_codeBehind_126 : decode cX10_codeBehind 126 = .ok (.ireturn, 1) := by decide +kernel
theorem dX10_codeBehind_127 : decode cX10_codeBehind 127 = .ok (.bipush 41, 2) := by decide +kernel
theorem dX10_codeBehind_129 : decode cX10_codeBehind 129 = .ok (.ireturn, 1) := by decide +kernel
theorem dJ9_abs_0f7a4_0 : decode cJ9_abs_0f7a4 0 = .ok (.iload_n 0, 1) := by decide +kernel
theorem dJ9_abs_0f7a4_1 : decode cJ9_abs_0f7a4 1 = .ok (.ifCond .ge 8, 3) := by decide +kernel
theorem dJ9_abs_0f7a4_4 : decode cJ9_abs_0f7a4 4 = .ok (.iload_n 0, 1) := by decide +kernel
theorem dJ9_abs_0f7a4_5 : decode cJ9_abs_0f7a4 5 = .ok (.ineg, 1) := by decide +kernel
theorem dJ9_abs_0f7a4_6 : decode cJ9_abs_0f7a4 6 = .ok (.goto 4, 3) := by decide +kernel
theorem dJ9_abs_0f7a4_9 : decode cJ9_abs_0f7a4 9 = .ok (.iload_n 0, 1) := by decide +kernel
theorem dJ9_abs_0f7a4_10 : decode cJ9_abs_0f7a4 10 = .ok (.ireturn, 1) := by decide +kernel
theorem dJ9_abs_067f4_0 : decode cJ9_abs_067f4 0 = .ok (.lload_n 0, 1) := by decide +kernel
theorem dJ9_abs_067f4_1 : decode cJ9_abs_067f4 1 = .ok (.lconst 0, 1) := by decide +kernel
theorem dJ9_abs_067f4_2 : decode cJ9_abs_067f4 2 = .ok (.lcmp, 1) := by decide +kernel
theorem dJ9_abs_067f4_3 : decode cJ9_abs_067f4 3 = .ok (.ifCond .ge 8, 3) := by decide +kernel
theorem dJ9_abs_067f4_6 : decode cJ9_abs_067f4 6 = .ok (.lload_n 0, 1) := by decide +kernel
theorem dJ9_abs_067f4_7 : decode cJ9_abs_067f4 7 = .ok (.lneg, 1) := by decide +kernel
theorem dJ9_abs_067f4_8 : decode cJ9_abs_067f4 8 = .ok (.goto 4, 3) := by decide +kernel
theorem dJ9_abs_067f4_11 : decode cJ9_abs_067f4 11 = .ok (.lload_n 0, 1) := by decide +kernel
theorem dJ9_abs_067f4_12 : decode cJ9_abs_067f4 12 = .ok (.lreturn, 1) := by decide +kernel
theorem dJ9_max_7cf53_0 : decode cJ9_max_7cf53 0 = .ok (.iload_n 0, 1) := by decide +kernel
theorem dJ9_max_7cf53_1 : decode cJ9_max_7cf53 1 = .ok (.iload_n 1, 1) := by decide +kernel
theorem dJ9_max_7cf53_2 : decode cJ9_max_7cf53 2 = .ok (.if_icmp .lt 7, 3) := by decide +kernel
theorem dJ9_max_7cf53_5 : decode cJ9_max_7cf53 5 = .ok (.iload_n 0, 1) := by decide +kernel
theorem dJ9_max_7cf53_6 : decode cJ9_max_7cf53 6 = .ok (.goto 4, 3) := by decide +kernel
theorem dJ9_max_7cf53_9 : decode cJ9_max_7cf53 9 = .ok (.iload_n 1, 1) := by decide +kernel
theorem dJ9_max_7cf53_10 : decode cJ9_max_7cf53 10 = .ok (.ireturn, 1) := by decide +kernel
theorem dJ9_min_7cf53_0 : decode cJ9_min_7cf53 0 = .ok (.iload_n 0, 1) := by decide +kernel
theorem dJ9_min_7cf53_1 : decode cJ9_min_7cf53 1 = .ok (.iload_n 1, 1) := by decide +kernel
theorem dJ9_min_7cf53_2 : decode cJ9_min_7cf53 2 = .ok (.if_icmp .gt 7, 3) := by decide +kernel
theorem dJ9_min_7cf53_5 : decode cJ9_min_7cf53 5 = .ok (.iload_n 0, 1) := by decide +kernel
theorem dJ9_min_7cf53_6 : decode cJ9_min_7cf53 6 = .ok (.goto 4, 3) := by decide +kernel
theorem dJ9_min_7cf53_9 : decode cJ9_min_7cf53 9 = .ok (.iload_n 1, 1) := by decide +kernel
theorem dJ9_min_7cf53_10 : decode cJ9_min_7cf53 10 = .ok (.ireturn, 1) := by decide +kernel
theorem dL_cell_0 : decode cL_cell 0 = .ok (.iload_n 1, 1) := by decide +kernel
theorem dL_cell_1 : decode cL_cell 1 = .ok (.aload_n 0, 1) := by decide +kernel
theorem dL_cell_2 : decode cL_cell 2 = .ok (.arraylength, 1) := by decide +kernel
theorem dL_cell_3 : decode cL_cell 3 = .ok (.if_icmp .ge 9, 3) := by decide +kernel
theorem dL_cell_6 : decode cL_cell 6 = .ok (.aload_n 0, 1) := by decide +kernel
theorem dL_cell_7 : decode cL_cell 7 = .ok (.iload_n 1, 1) := by decide +kernel
theorem dL_cell_8 : decode cL_cell 8 = .ok (.iaload, 1) := by decide +kernel
theorem dL_cell_9 : decode cL_cell 9 = .ok (.goto 15, 3) := by decide +kernel
theorem dL_cell_12 : decode cL_cell 12 = .ok (.sipush 7919, 3) := by decide +kernel
theorem dL_cell_15 : decode cL_cell 15 = .ok (.iload_n 1, 1) := by decide +kernel
theorem dL_cell_16 : decode cL_cell 16 = .ok (.iconst 3, 1) := by decide +kernel
theorem dL_cell_17 : decode cL_cell 17 = .ok (.iadd, 1) := by decide +kernel
theorem dL_cell_18 : decode cL_cell 18 = .ok (.imul, 1) := by decide +kernel
theorem dL_cell_19 : decode cL_cell 19 = .ok (.iload_n 1, 1) := by decide +kernel
theorem dL_cell_20 : decode cL_cell 20 = .ok (.bipush 11, 2) := by decide +kernel
theorem dL_cell_22 : decode cL_cell 22 = .ok (.iadd, 1) := by decide +kernel
theorem dL_cell_23 : decode cL_cell 23 = .ok (.imul, 1) := by decide +kernel
theorem dL_cell_24 : decode cL_cell 24 = .ok (.ireturn, 1) := by decide +kernel
theorem dL_low_0 : decode cL_low 0 = .ok (.iload_n 0, 1) := by decide +kernel
theorem dL_low_1 : decode cL_low 1 = .ok (.ldc 7, 2) := by decide +kernel
theorem dL_low_3 : decode cL_low 3 = .ok (.iand, 1) := by decide +kernel
theorem dL_low_4 : decode cL_low 4 = .ok (.iload_n 1, 1) := by decide +kernel
theorem dL_low_5 : decode cL_low 5 = .ok (.irem, 1) := by decide +kernel
theorem dL_low_6 : decode cL_low 6 = .ok (.ireturn, 1) := by decide +kernel
theorem dL_told_0 : decode cL_told 0 = .ok (.ldc2_w 8, 3) := by decide +kernel
theorem dL_told_3 : decode cL_told 3 = .ok (.lstore_n 1, 1) := by decide +kernel
theorem dL_told_4 : decode cL_told 4 = .ok (.ldc2_w 10, 3) := by decide +kernel
theorem dL_told_7 : decode cL_told 7 = .ok (.lload_n 1, 1) := by decide +kernel
theorem dL_told_8 : decode cL_told 8 = .ok (.lmul, 1) := by decide +kernel
theorem dL_told_9 : decode cL_told 9 = .ok (.aload_n 0, 1) := by decide +kernel
theorem dL_told_10 : decode cL_told 10 = .ok (.invokevirtual 12, 3) := by decide +kernel
theorem dL_told_13 : decode cL_told 13 = .ok (.i2l, 1) := by decide +kernel
theorem dL_told_14 : decode cL_told 14 = .ok (.ladd, 1) := by decide +kernel
theorem dL_told_15 : decode cL_told 15 = .ok (.lstore_n 1, 1) := by decide +kernel
theorem dL_told_16 : decode cL_told 16 = .ok (.iconst 0, 1) := by decide +kernel
theorem dL_told_17 : decode cL_told 17 = .ok (.istore_n 3, 1) := by decide +kernel
theorem dL_told_18 : decode cL_told 18 = .ok (.iload_n 3, 1) := by decide +kernel
theorem dL_told_19 : decode cL_told 19 = .ok (.bipush 6, 2) := by decide +kernel
theorem dL_told_21 : decode cL_told 21 = .ok (.if_icmp .ge 33, 3) := by decide +kernel
theorem dL_told_24 : decode cL_told 24 = .ok (.ldc2_w 10, 3) := by decide +kernel
theorem dL_told_27 : decode cL_told 27 = .ok (.ldc2_w 10, 3) := by decide +kernel
theorem dL_told_30 : decode cL_told 30 = .ok (.lload_n 1, 1) := by decide +kernel
theorem dL_told_31 : decode cL_told 31 = .ok (.lmul, 1) := by decide +kernel
theorem dL_told_32 : decode cL_told 32 = .ok (.aload_n 0, 1) := by decide +kernel
theorem dL_told_33 : decode cL_told 33 = .ok (.iload_n 3, 1) := by decide +kernel
theorem dL_told_34 : decode cL_told 34 = .ok (.invokevirtual 18, 3) := by decide +kernel
theorem dL_told_37 : decode cL_told 37 = .ok (.i2l, 1) := by decide +kernel
theorem dL_told_38 : decode cL_told 38 = .ok (.ladd, 1) := by decide +kernel
theorem dL_told_39 : decode cL_told 39 = .ok (.lmul, 1) := by decide +kernel
theorem dL_told_40 : decode cL_told 40 = .ok (.aload_n 0, 1) := by decide +kernel
theorem dL_told_41 : decode cL_told 41 = .ok (.iload_n 3, 1) := by decide +kernel
theorem dL_told_42 : decode cL_told 42 = .ok (.invokevirtual 22, 3) := by decide +kernel
theorem dL_told_45 : decode cL_told 45 = .ok (.i2l, 1) := by decide +kernel
theorem dL_told_46 : decode cL_told 46 = .ok (.ladd, 1) := by decide +kernel
theorem dL_told_47 : decode cL_told 47 = .ok (.lstore_n 1, 1) := by decide +kernel
theorem dL_told_48 : decode cL_told 48 = .ok (.iinc 3 1, 3) := by decide +kernel
theorem dL_told_51 : decode cL_told 51 = .ok (.goto (-33), 3) := by decide +kernel
theorem dL_told_54 : decode cL_told 54 = .ok (.ldc2_w 10, 3) := by decide +kernel
theorem dL_told_57 : decode cL_told 57 = .ok (.lload_n 1, 1) := by decide +kernel
theorem dL_told_58 : decode cL_told 58 = .ok (.lmul, 1) := by decide +kernel
theorem dL_told_59 : decode cL_told 59 = .ok (.aload_n 0, 1) := by decide +kernel
theorem dL_told_60 : decode cL_told 60 = .ok (.invokevirtual 25, 3) := by decide +kernel
theorem dL_told_63 : decode cL_told 63 = .ok (.ifCond .eq 20, 3) := by decide +kernel
theorem dL_told_66 : decode cL_told 66 = .ok (.bipush 10, 2) := by decide +kernel
theorem dL_told_68 : decode cL_told 68 = .ok (.iconst 1, 1) := by decide +kernel
theorem dL_told_69 : decode cL_told 69 = .ok (.aload_n 0, 1) := by decide +kernel
theorem dL_told_70 : decode cL_told 70 = .ok (.invokevirtual 29, 3) := by decide +kernel
theorem dL_told_73 : decode cL_told 73 = .ok (.iadd, 1) := by decide +kernel
theorem dL_told_74 : decode cL_told 74 = .ok (.imul, 1) := by decide +kernel
theorem dL_told_75 : decode cL_told 75 = .ok (.aload_n 0, 1) := by decide +kernel
theorem dL_told_76 : decode cL_told 76 = .ok (.invokevirtual 32, 3) := by decide +kernel
theorem dL_told_79 : decode cL_told 79 = .ok (.iadd, 1) := by decide +kernel
theorem dL_told_80 : decode cL_told 80 = .ok (.goto 4, 3) := by decide +kernel
theorem dL_told_83 : decode cL_told 83 = .ok (.iconst 0, 1) := by decide +kernel
theorem dL_told_84 : decode cL_told 84 = .ok (.i2l, 1) := by decide +kernel
theorem dL_told_85 : decode cL_told 85 = .ok (.ladd, 1) := by decide +kernel
theorem dL_told_86 : decode cL_told 86 = .ok (.lreturn, 1) := by decide +kernel
theorem dL_act_0 : decode cL_act 0 = .ok (.iload_n 1, 1) := by decide +kernel
theorem dL_act_1 : decode cL_act 1 = .ok (.iconst 4, 1) := by decide +kernel
theorem dL_act_2 : decode cL_act 2 = .ok (.ishr, 1) := by decide +kernel
theorem dL_act_3 : decode cL_act 3 = .ok (.bipush 6, 2) := by decide +kernel
theorem dL_act_5 : decode cL_act 5 = .ok (.invokestatic 35, 3) := by decide +kernel
theorem dL_act_8 : decode cL_act 8 = .ok (.istore_n 3, 1) := by decide +kernel
theorem dL_act_9 : decode cL_act 9 = .ok (.iload_n 1, 1) := by decide +kernel
theorem dL_act_10 : decode cL_act 10 = .ok (.bipush 7, 2) := by decide +kernel
theorem dL_act_12 : decode cL_act 12 = .ok (.ishr, 1) := by decide +kernel
theorem dL_act_13 : decode cL_act 13 = .ok (.bipush 6, 2) := by decide +kernel
theorem dL_act_15 : decode cL_act 15 = .ok (.invokestatic 35, 3) := by decide +kernel
theorem dL_act_18 : decode cL_act 18 = .ok (.istore 4, 2) := by decide +kernel
theorem dL_act_20 : decode cL_act 20 = .ok (.iload_n 1, 1) := by decide +kernel
theorem dL_act_21 : decode cL_act 21 = .ok (.bipush 15, 2) := by decide +kernel
theorem dL_act_23 : decode cL_act 23 = .ok (.iand, 1) := by decide +kernel
theorem dL_act_24 : decode cL_act 24 = .ok (.tableswitch 206 0 11 #[64, 64, 79, 79, 79, 79, 134, 134, 134, 156, 165, 165], 64) := by decide +kernel
theorem dL_act_88 : decode cL_act 88 = .ok (.aload_n 0, 1) := by decide +kernel
theorem dL_act_89 : decode cL_act 89 = .ok (.iconst 2, 1) := by decide +kernel
theorem dL_act_90 : decode cL_act 90 = .ok (.iload_n 2, 1) := by decide +kernel
theorem dL_act_91 : decode cL_act 91 = .ok (.bipush 15, 2) := by decide +kernel
theorem dL_act_93 : decode cL_act 93 = .ok (.invokestatic 35, 3) := by decide +kernel
theorem dL_act_96 : decode cL_act 96 = .ok (.iadd, 1) := by decide +kernel
theorem dL_act_97 : decode cL_act 97 = .ok (.invokevirtual 41, 3) := by decide +kernel
theorem dL_act_100 : decode cL_act 100 = .ok (.pop, 1) := by decide +kernel
theorem dL_act_101 : decode cL_act 101 = .ok (.iconst 1, 1) := by decide +kernel
theorem dL_act_102 : decode cL_act 102 = .ok (.ireturn, 1) := by decide +kernel
theorem dL_act_103 : decode cL_act 103 = .ok (.aload_n 0, 1) := by decide +kernel
theorem dL_act_104 : decode cL_act 104 = .ok (.iload_n 3, 1) := by decide +kernel
theorem dL_act_105 : decode cL_act 105 = .ok (.iload_n 2, 1) := by decide +kernel
theorem dL_act_106 : decode cL_act 106 = .ok (.iload_n 2, 1) := by decide +kernel
theorem dL_act_107 : decode cL_act 107 = .ok (.bipush 20, 2) := by decide +kernel
theorem dL_act_109 : decode cL_act 109 = .ok (.ishr, 1) := by decide +kernel
theorem dL_act_110 : decode cL_act 110 = .ok (.iconst 1, 1) := by decide +kernel
theorem dL_act_111 : decode cL_act 111 = .ok (.iand, 1) := by decide +kernel
theorem dL_act_112 : decode cL_act 112 = .ok (.ifCond .ne 9, 3) := by decide +kernel
theorem dL_act_115 : decode cL_act 115 = .ok (.sipush 300, 3) := by decide +kernel
theorem dL_act_118 : decode cL_act 118 = .ok (.goto 5, 3) := by decide +kernel
theorem dL_act_121 : decode cL_act 121 = .ok (.ldc 44, 2) := by decide +kernel
theorem dL_act_123 : decode cL_act 123 = .ok (.invokestatic 35, 3) := by decide +kernel
theorem dL_act_126 : decode cL_act 126 = .ok (.iconst 1, 1) := by decide +kernel
theorem dL_act_127 : decode cL_act 127 = .ok (.iload_n 2, 1) := by decide +kernel
theorem dL_act_128 : decode cL_act 128 = .ok (.bipush 7, 2) := by decide +kernel
theorem dL_act_130 : decode cL_act 130 = .ok (.ishr, 1) := by decide +kernel
theorem dL_act_131 : decode cL_act 131 = .ok (.iload_n 2, 1) := by decide +kernel
theorem dL_act_132 : decode cL_act 132 = .ok (.bipush 19, 2) := by decide +kernel
theorem dL_act_134 : decode cL_act 134 = .ok (.ishr, 1) := by decide +kernel
theorem dL_act_135 : decode cL_act 135 = .ok (.iconst 1, 1) := by decide +kernel
theorem dL_act_136 : decode cL_act 136 = .ok (.iand, 1) := by decide +kernel
theorem dL_act_137 : decode cL_act 137 = .ok (.ifCond .ne 8, 3) := by decide +kernel
theorem dL_act_140 : decode cL_act 140 = .ok (.bipush 36, 2) := by decide +kernel
theorem dL_act_142 : decode cL_act 142 = .ok (.goto 6, 3) := by decide +kernel
theorem dL_act_145 : decode cL_act 145 = .ok (.sipush 999, 3) := by decide +kernel
theorem dL_act_148 : decode cL_act 148 = .ok (.invokestatic 35, 3) := by decide +kernel
theorem dL_act_151 : decode cL_act 151 = .ok (.iadd, 1) := by decide +kernel
theorem dL_act_152 : decode cL_act 152 = .ok (.invokevirtual 45, 3) := by decide +kernel
theorem dL_act_155 : decode cL_act 155 = .ok (.pop, 1) := by decide +kernel
theorem dL_act_156 : decode cL_act 156 = .ok (.iconst 1, 1) := by decide +kernel
theorem dL_act_157 : decode cL_act 157 = .ok (.ireturn, 1) := by decide +kernel
theorem dL_act_158 : decode cL_act 158 = .ok (.aload_n 0, 1) := by decide +kernel
theorem dL_act_159 : decode cL_act 159 = .ok (.iload_n 3, 1) := by decide +kernel
theorem dL_act_160 : decode cL_act 160 = .ok (.iload 4, 2) := by decide +kernel
theorem dL_act_162 : decode cL_act 162 = .ok (.invokevirtual 49, 3) := by decide +kernel
theorem dL_act_165 : decode cL_act 165 = .ok (.ifCond .le 5, 3) := by decide +kernel
theorem dL_act_168 : decode cL_act 168 = .ok (.iconst 0, 1) := by decide +kernel
theorem dL_act_169 : decode cL_act 169 = .ok (.ireturn, 1) := by decide +kernel
theorem dL_act_170 : decode cL_act 170 = .ok (.aload_n 0, 1) := by decide +kernel
theorem dL_act_171 : decode cL_act 171 = .ok (.iload_n 3, 1) := by decide +kernel
theorem dL_act_172 : decode cL_act 172 = .ok (.iload 4, 2) := by decide +kernel
theorem dL_act_174 : decode cL_act 174 = .ok (.invokevirtual 52, 3) := by decide +kernel
theorem dL_act_177 : decode cL_act 177 = .ok (.pop, 1) := by decide +kernel
theorem dL_act_178 : decode cL_act 178 = .ok (.iconst 1, 1) := by decide +kernel
theorem dL_act_179 : decode cL_act 179 = .ok (.ireturn, 1) := by decide +kernel
theorem dL_act_180 : decode cL_act 180 = .ok (.aload_n 0, 1) := by decide +kernel
theorem dL_act_181 : decode cL_act 181 = .ok (.iload_n 3, 1) := by decide +kernel
theorem dL_act_182 : decode cL_act 182 = .ok (.iload_n 3, 1) := by decide +kernel
theorem dL_act_183 : decode cL_act 183 = .ok (.invokevirtual 55, 3) := by decide +kernel
theorem dL_act_186 : decode cL_act 186 = .ok (.pop, 1) := by decide +kernel
theorem dL_act_187 : decode cL_act 187 = .ok (.iconst 1, 1) := by decide +kernel
theorem dL_act_188 : decode cL_act 188 = .ok (.ireturn, 1) := by decide +kernel
theorem dL_act_189 : decode cL_act 189 = .ok (.aload_n 0, 1) := by decide +kernel
theorem dL_act_190 : decode cL_act 190 = .ok (.iload_n 3, 1) := by decide +kernel
theorem dL_act_191 : decode cL_act 191 = .ok (.invokevirtual 22, 3) := by decide +kernel
theorem dL_act_194 : decode cL_act 194 = .ok (.bipush 60, 2) := by decide +kernel
theorem dL_act_196 : decode cL_act 196 = .ok (.if_icmp .gt 13, 3) := by decide +kernel
theorem dL_act_199 : decode cL_act 199 = .ok (.aload_n 0, 1) := by decide +kernel
theorem dL_act_200 : decode cL_act 200 = .ok (.iload_n 3, 1) := by decide +kernel
theorem dL_act_201 : decode cL_act 201 = .ok (.invokevirtual 18, 3) := by decide +kernel
theorem dL_act_204 : decode cL_act 204 = .ok (.ldc 58, 2) := by decide +kernel
theorem dL_act_206 : decode cL_act 206 = .ok (.if_icmp .le 5, 3) := by decide +kernel
theorem dL_act_209 : decode cL_act 209 = .ok (.iconst 0, 1) := by decide +kernel
theorem dL_act_210 : decode cL_act 210 = .ok (.ireturn, 1) := by decide +kernel
theorem dL_act_211 : decode cL_act 211 = .ok (.aload_n 0, 1) := by decide +kernel
theorem dL_act_212 : decode cL_act 212 = .ok (.iload_n 3, 1) := by decide +kernel
theorem dL_act_213 : decode cL_act 213 = .ok (.iload_n 2, 1) := by decide +kernel
theorem dL_act_214 : decode cL_act 214 = .ok (.iconst 1, 1) := by decide +kernel
theorem dL_act_215 : decode cL_act 215 = .ok (.iand, 1) := by decide +kernel
theorem dL_act_216 : decode cL_act 216 = .ok (.ifCond .ne 7, 3) := by decide +kernel
theorem dL_act_219 : decode cL_act 219 = .ok (.iconst 1, 1) := by decide +kernel
theorem dL_act_220 : decode cL_act 220 = .ok (.goto 4, 3) := by decide +kernel
theorem dL_act_223 : decode cL_act 223 = .ok (.iconst (-1), 1) := by decide +kernel
theorem dL_act_224 : decode cL_act 224 = .ok (.invokevirtual 59, 3) := by decide +kernel
theorem dL_act_227 : decode cL_act 227 = .ok (.pop, 1) := by decide +kernel
theorem dL_act_228 : decode cL_act 228 = .ok (.iconst 1, 1) := by decide +kernel
theorem dL_act_229 : decode cL_act 229 = .ok (.ireturn, 1) := by decide +kernel
theorem dL_act_230 : decode cL_act 230 = .ok (.iconst 1, 1) := by decide +kernel
theorem dL_act_231 : decode cL_act 231 = .ok (.iload_n 2, 1) := by decide +kernel
theorem dL_act_232 : decode cL_act 232 = .ok (.bipush 50, 2) := by decide +kernel
theorem dL_act_234 : decode cL_act 234 = .ok (.invokestatic 35, 3) := by decide +kernel
theorem dL_act_237 : decode cL_act 237 = .ok (.iadd, 1) := by decide +kernel
theorem dL_act_238 : decode cL_act 238 = .ok (.istore 5, 2) := by decide +kernel
theorem dL_act_240 : decode cL_act 240 = .ok (.iload_n 3, 1) := by decide +kernel
theorem dL_act_241 : decode cL_act 241 = .ok (.iload 4, 2) := by decide +kernel
theorem dL_act_243 : decode cL_act 243 = .ok (.if_icmp .eq 24, 3) := by decide +kernel
theorem dL_act_246 : decode cL_act 246 = .ok (.aload_n 0, 1) := by decide +kernel
theorem dL_act_247 : decode cL_act 247 = .ok (.iload_n 3, 1) := by decide +kernel
theorem dL_act_248 : decode cL_act 248 = .ok (.invokevirtual 62, 3) := by decide +kernel
theorem dL_act_251 : decode cL_act 251 = .ok (.iload 5, 2) := by decide +kernel
theorem dL_act_253 : decode cL_act 253 = .ok (.if_icmp .lt 14, 3) := by decide +kernel
theorem dL_act_256 : decode cL_act 256 = .ok (.aload_n 0, 1) := by decide +kernel
theorem dL_act_257 : decode cL_act 257 = .ok (.iload 4, 2) := by decide +kernel
theorem dL_act_259 : decode cL_act 259 = .ok (.invokevirtual 18, 3) := by decide +kernel
theorem dL_act_262 : decode cL_act 262 = .ok (.ldc 65, 2) := by decide +kernel
theorem dL_act_264 : decode cL_act 264 = .ok (.if_icmp .le 5, 3) := by decide +kernel
theorem dL_act_267 : decode cL_act 267 = .ok (.iconst 0, 1) := by decide +kernel
theorem dL_act_268 : decode cL_act 268 = .ok (.ireturn, 1) := by decide +kernel
theorem dL_act_269 : decode cL_act 269 = .ok (.aload_n 0, 1) := by decide +kernel
theorem dL_act_270 : decode cL_act 270 = .ok (.iload_n 3, 1) := by decide +kernel
theorem dL_act_271 : decode cL_act 271 = .ok (.iload 4, 2) := by decide +kernel
theorem dL_act_273 : decode cL_act 273 = .ok (.iload 5, 2) := by decide +kernel
theorem dL_act_275 : decode cL_act 275 = .ok (.invokevirtual 66, 3) := by decide +kernel
theorem dL_act_278 : decode cL_act 278 = .ok (.pop, 1) := by decide +kernel
theorem dL_act_279 : decode cL_act 279 = .ok (.iconst 1, 1) := by decide +kernel
theorem dL_act_280 : decode cL_act 280 = .ok (.ireturn, 1) := by decide +kernel
theorem dL_holds_0 : decode cL_holds 0 = .ok (.aload_n 0, 1) := by decide +kernel
theorem dL_holds_1 : decode cL_holds 1 = .ok (.invokevirtual 12, 3) := by decide +kernel
theorem dL_holds_4 : decode cL_holds 4 = .ok (.istore 4, 2) := by decide +kernel
theorem dL_holds_6 : decode cL_holds 6 = .ok (.aload_n 0, 1) := by decide +kernel
theorem dL_holds_7 : decode cL_holds 7 = .ok (.iload_n 1, 1) := by decide +kernel
theorem dL_holds_8 : decode cL_holds 8 = .ok (.invokevirtual 69, 3) := by decide +kernel
theorem dL_holds_11 : decode cL_holds 11 = .ok (.istore 5, 2) := by decide +kernel
theorem dL_holds_13 : decode cL_holds 13 = .ok (.lconst 0, 1) := by decide +kernel
theorem dL_holds_14 : decode cL_holds 14 = .ok (.lstore 6, 2) := by decide +kernel
theorem dL_holds_16 : decode cL_holds 16 = .ok (.iconst 0, 1) := by decide +kernel
theorem dL_holds_17 : decode cL_holds 17 = .ok (.istore 8, 2) := by decide +kernel
theorem dL_holds_19 : decode cL_holds 19 = .ok (.iload 5, 2) := by decide +kernel
theorem dL_holds_21 : decode cL_holds 21 = .ok (.iconst 1, 1) := by decide +kernel
theorem dL_holds_22 : decode cL_holds 22 = .ok (.isub, 1) := by decide +kernel
theorem dL_holds_23 : decode cL_holds 23 = .ok (.istore 9, 2) := by decide +kernel
theorem dL_holds_25 : decode cL_holds 25 = .ok (.iload 9, 2) := by decide +kernel
theorem dL_holds_27 : decode cL_holds 27 = .ok (.ifCond .lt 63, 3) := by decide +kernel
theorem dL_holds_30 : decode cL_holds 30 = .ok (.aload_n 0, 1) := by decide +kernel
theorem dL_holds_31 : decode cL_holds 31 = .ok (.iload_n 1, 1) := by decide +kernel
theorem dL_holds_32 : decode cL_holds 32 = .ok (.iload 9, 2) := by decide +kernel
theorem dL_holds_34 : decode cL_holds 34 = .ok (.invokevirtual 72, 3) := by decide +kernel
theorem dL_holds_37 : decode cL_holds 37 = .ok (.istore 10, 2) := by decide +kernel
theorem dL_holds_39 : decode cL_holds 39 = .ok (.lload 6, 2) := by decide +kernel
theorem dL_holds_41 : decode cL_holds 41 = .ok (.iload 4, 2) := by decide +kernel
theorem dL_holds_43 : decode cL_holds 43 = .ok (.i2l, 1) := by decide +kernel
theorem dL_holds_44 : decode cL_holds 44 = .ok (.lmul, 1) := by decide +kernel
theorem dL_holds_45 : decode cL_holds 45 = .ok (.iload 10, 2) := by decide +kernel
theorem dL_holds_47 : decode cL_holds 47 = .ok (.i2l, 1) := by decide +kernel
theorem dL_holds_48 : decode cL_holds 48 = .ok (.ladd, 1) := by decide +kernel
theorem dL_holds_49 : decode cL_holds 49 = .ok (.lstore 6, 2) := by decide +kernel
theorem dL_holds_51 : decode cL_holds 51 = .ok (.iload 8, 2) := by decide +kernel
theorem dL_holds_53 : decode cL_holds 53 = .ok (.iload 10, 2) := by decide +kernel
theorem dL_holds_55 : decode cL_holds 55 = .ok (.iadd, 1) := by decide +kernel
theorem dL_holds_56 : decode cL_holds 56 = .ok (.istore 8, 2) := by decide +kernel
theorem dL_holds_58 : decode cL_holds 58 = .ok (.iload 10, 2) := by decide +kernel
theorem dL_holds_60 : decode cL_holds 60 = .ok (.ifCond .lt 22, 3) := by decide +kernel
theorem dL_holds_63 : decode cL_holds 63 = .ok (.iload 10, 2) := by decide +kernel
theorem dL_holds_65 : decode cL_holds 65 = .ok (.iload 4, 2) := by decide +kernel
theorem dL_holds_67 : decode cL_holds 67 = .ok (.if_icmp .ge 15, 3) := by decide +kernel
theorem dL_holds_70 : decode cL_holds 70 = .ok (.iload 10, 2) := by decide +kernel
theorem dL_holds_72 : decode cL_holds 72 = .ok (.aload_n 0, 1) := by decide +kernel
theorem dL_holds_73 : decode cL_holds 73 = .ok (.iload_n 1, 1) := by decide +kernel
theorem dL_holds_74 : decode cL_holds 74 = .ok (.iload 9, 2) := by decide +kernel
theorem dL_holds_76 : decode cL_holds 76 = .ok (.invokevirtual 75, 3) := by decide +kernel
theorem dL_holds_79 : decode cL_holds 79 = .ok (.if_icmp .eq 5, 3) := by decide +kernel
theorem dL_holds_82 : decode cL_holds 82 = .ok (.iconst 0, 1) := by decide +kernel
theorem dL_holds_83 : decode cL_holds 83 = .ok (.ireturn, 1) := by decide +kernel
theorem dL_holds_84 : decode cL_holds 84 = .ok (.iinc 9 (-1), 3) := by decide +kernel
theorem dL_holds_87 : decode cL_holds 87 = .ok (.goto (-62), 3) := by decide +kernel
theorem dL_holds_90 : decode cL_holds 90 = .ok (.aload_n 0, 1) := by decide +kernel
theorem dL_holds_91 : decode cL_holds 91 = .ok (.iload_n 1, 1) := by decide +kernel
theorem dL_holds_92 : decode cL_holds 92 = .ok (.invokevirtual 78, 3) := by decide +kernel
theorem dL_holds_95 : decode cL_holds 95 = .ok (.istore 9, 2) := by decide +kernel
theorem dL_holds_97 : decode cL_holds 97 = .ok (.aload_n 0, 1) := by decide +kernel
theorem dL_holds_98 : decode cL_holds 98 = .ok (.iload_n 1, 1) := by decide +kernel
theorem dL_holds_99 : decode cL_holds 99 = .ok (.invokevirtual 81, 3) := by decide +kernel
theorem dL_holds_102 : decode cL_holds 102 = .ok (.istore 10, 2) := by decide +kernel
theorem dL_holds_104 : decode cL_holds 104 = .ok (.lload 6, 2) := by decide +kernel
theorem dL_holds_106 : decode cL_holds 106 = .ok (.aload_n 0, 1) := by decide +kernel
theorem dL_holds_107 : decode cL_holds 107 = .ok (.iload_n 1, 1) := by decide +kernel
theorem dL_holds_108 : decode cL_holds 108 = .ok (.invokevirtual 62, 3) := by decide +kernel
theorem dL_holds_111 : decode cL_holds 111 = .ok (.i2l, 1) := by decide +kernel
theorem dL_holds_112 : decode cL_holds 112 = .ok (.lcmp, 1) := by decide +kernel
theorem dL_holds_113 : decode cL_holds 113 = .ok (.ifCond .ne 93, 3) := by decide +kernel
theorem dL_holds_116 : decode cL_holds 116 = .ok (.aload_n 0, 1) := by decide +kernel
theorem dL_holds_117 : decode cL_holds 117 = .ok (.iload_n 1, 1) := by decide +kernel
theorem dL_holds_118 : decode cL_holds 118 = .ok (.iload 4, 2) := by decide +kernel
theorem dL_holds_120 : decode cL_holds 120 = .ok (.invokevirtual 84, 3) := by decide +kernel
theorem dL_holds_123 : decode cL_holds 123 = .ok (.lload 6, 2) := by decide +kernel
theorem dL_holds_125 : decode cL_holds 125 = .ok (.lcmp, 1) := by decide +kernel
theorem dL_holds_126 : decode cL_holds 126 = .ok (.ifCond .ne 80, 3) := by decide +kernel
theorem dL_holds_129 : decode cL_holds 129 = .ok (.iload 8, 2) := by decide +kernel
theorem dL_holds_131 : decode cL_holds 131 = .ok (.aload_n 0, 1) := by decide +kernel
theorem dL_holds_132 : decode cL_holds 132 = .ok (.iload_n 1, 1) := by decide +kernel
theorem dL_holds_133 : decode cL_holds 133 = .ok (.invokevirtual 88, 3) := by decide +kernel
theorem dL_holds_136 : decode cL_holds 136 = .ok (.if_icmp .ne 70, 3) := by decide +kernel
theorem dL_holds_139 : decode cL_holds 139 = .ok (.aload_n 0, 1) := by decide +kernel
theorem dL_holds_140 : decode cL_holds 140 = .ok (.iload_n 1, 1) := by decide +kernel
theorem dL_holds_141 : decode cL_holds 141 = .ok (.invokevirtual 91, 3) := by decide +kernel
theorem dL_holds_144 : decode cL_holds 144 = .ok (.aload_n 0, 1) := by decide +kernel
theorem dL_holds_145 : decode cL_holds 145 = .ok (.iload_n 1, 1) := by decide +kernel
theorem dL_holds_146 : decode cL_holds 146 = .ok (.invokevirtual 94, 3) := by decide +kernel
theorem dL_holds_149 : decode cL_holds 149 = .ok (.if_icmp .ne 57, 3) := by decide +kernel
theorem dL_holds_152 : decode cL_holds 152 = .ok (.iload 10, 2) := by decide +kernel
theorem dL_holds_154 : decode cL_holds 154 = .ok (.aload_n 0, 1) := by decide +kernel
theorem dL_holds_155 : decode cL_holds 155 = .ok (.iload_n 1, 1) := by decide +kernel
theorem dL_holds_156 : decode cL_holds 156 = .ok (.invokevirtual 97, 3) := by decide +kernel
theorem dL_holds_159 : decode cL_holds 159 = .ok (.if_icmp .ne 47, 3) := by decide +kernel
theorem dL_holds_162 : decode cL_holds 162 = .ok (.iload 10, 2) := by decide +kernel
theorem dL_holds_164 : decode cL_holds 164 = .ok (.aload_n 0, 1) := by decide +kernel
theorem dL_holds_165 : decode cL_holds 165 = .ok (.iload_n 1, 1) := by decide +kernel
theorem dL_holds_166 : decode cL_holds 166 = .ok (.invokevirtual 22, 3) := by decide +kernel
theorem dL_holds_169 : decode cL_holds 169 = .ok (.if_icmp .ge 37, 3) := by decide +kernel
theorem dL_holds_172 : decode cL_holds 172 = .ok (.iload 9, 2) := by decide +kernel
theorem dL_holds_174 : decode cL_holds 174 = .ok (.iload 10, 2) := by decide +kernel
theorem dL_holds_176 : decode cL_holds 176 = .ok (.iadd, 1) := by decide +kernel
theorem dL_holds_177 : decode cL_holds 177 = .ok (.ifCond .ne 7, 3) := by decide +kernel
theorem dL_holds_180 : decode cL_holds 180 = .ok (.iconst 1, 1) := by decide +kernel
theorem dL_holds_181 : decode cL_holds 181 = .ok (.goto 4, 3) := by decide +kernel
theorem dL_holds_184 : decode cL_holds 184 = .ok (.iconst 0, 1) := by decide +kernel
theorem dL_holds_185 : decode cL_holds 185 = .ok (.aload_n 0, 1) := by decide +kernel
theorem dL_holds_186 : decode cL_holds 186 = .ok (.iload_n 1, 1) := by decide +kernel
theorem dL_holds_187 : decode cL_holds 187 = .ok (.invokevirtual 22, 3) := by decide +kernel
theorem dL_holds_190 : decode cL_holds 190 = .ok (.iconst 1, 1) := by decide +kernel
theorem dL_holds_191 : decode cL_holds 191 = .ok (.if_icmp .ne 7, 3) := by decide +kernel
theorem dL_holds_194 : decode cL_holds 194 = .ok (.iconst 1, 1) := by decide +kernel
theorem dL_holds_195 : decode cL_holds 195 = .ok (.goto 4, 3) := by decide +kernel
theorem dL_holds_198 : decode cL_holds 198 = .ok (.iconst 0, 1) := by decide +kernel
theorem dL_holds_199 : decode cL_holds 199 = .ok (.if_icmp .ne 7, 3) := by decide +kernel
theorem dL_holds_202 : decode cL_holds 202 = .ok (.iconst 1, 1) := by decide +kernel
theorem dL_holds_203 : decode cL_holds 203 = .ok (.goto 4, 3) := by decide +kernel
theorem dL_holds_206 : decode cL_holds 206 = .ok (.iconst 0, 1) := by decide +kernel
theorem dL_holds_207 : decode cL_holds 207 = .ok (.istore 11, 2) := by decide +kernel
theorem dL_holds_209 : decode cL_holds 209 = .ok (.iload 11, 2) := by decide +kernel
theorem dL_holds_211 : decode cL_holds 211 = .ok (.ifCond .eq 93, 3) := by decide +kernel
theorem dL_holds_214 : decode cL_holds 214 = .ok (.aload_n 0, 1) := by decide +kernel
theorem dL_holds_215 : decode cL_holds 215 = .ok (.iload_n 1, 1) := by decide +kernel
theorem dL_holds_216 : decode cL_holds 216 = .ok (.invokevirtual 100, 3) := by decide +kernel
theorem dL_holds_219 : decode cL_holds 219 = .ok (.aload_n 0, 1) := by decide +kernel
theorem dL_holds_220 : decode cL_holds 220 = .ok (.iload_n 1, 1) := by decide +kernel
theorem dL_holds_221 : decode cL_holds 221 = .ok (.invokevirtual 22, 3) := by decide +kernel
theorem dL_holds_224 : decode cL_holds 224 = .ok (.iconst 1, 1) := by decide +kernel
theorem dL_holds_225 : decode cL_holds 225 = .ok (.if_icmp .ne 8, 3) := by decide +kernel
theorem dL_holds_228 : decode cL_holds 228 = .ok (.iload 5, 2) := by decide +kernel
theorem dL_holds_230 : decode cL_holds 230 = .ok (.goto 24, 3) := by decide +kernel
theorem dL_holds_233 : decode cL_holds 233 = .ok (.iload 5, 2) := by decide +kernel
theorem dL_holds_235 : decode cL_holds 235 = .ok (.iconst 1, 1) := by decide +kernel
theorem dL_holds_236 : decode cL_holds 236 = .ok (.iadd, 1) := by decide +kernel
theorem dL_holds_237 : decode cL_holds 237 = .ok (.iload 9, 2) := by decide +kernel
theorem dL_holds_239 : decode cL_holds 239 = .ok (.iadd, 1) := by decide +kernel
theorem dL_holds_240 : decode cL_holds 240 = .ok (.iload 10, 2) := by decide +kernel
theorem dL_holds_242 : decode cL_holds 242 = .ok (.iadd, 1) := by decide +kernel
theorem dL_holds_243 : decode cL_holds 243 = .ok (.iload 10, 2) := by decide +kernel
theorem dL_holds_245 : decode cL_holds 245 = .ok (.ifCond .le 7, 3) := by decide +kernel
theorem dL_holds_248 : decode cL_holds 248 = .ok (.iconst 2, 1) := by decide +kernel
theorem dL_holds_249 : decode cL_holds 249 = .ok (.goto 4, 3) := by decide +kernel
theorem dL_holds_252 : decode cL_holds 252 = .ok (.iconst 0, 1) := by decide +kernel
theorem dL_holds_253 : decode cL_holds 253 = .ok (.iadd, 1) := by decide +kernel
theorem dL_holds_254 : decode cL_holds 254 = .ok (.if_icmp .ne 50, 3) := by decide +kernel
theorem dL_holds_257 : decode cL_holds 257 = .ok (.aload_n 0, 1) := by decide +kernel
theorem dL_holds_258 : decode cL_holds 258 = .ok (.iload_n 1, 1) := by decide +kernel
theorem dL_holds_259 : decode cL_holds 259 = .ok (.iload 9, 2) := by decide +kernel
theorem dL_holds_261 : decode cL_holds 261 = .ok (.iload_n 3, 1) := by decide +kernel
theorem dL_holds_262 : decode cL_holds 262 = .ok (.iadd, 1) := by decide +kernel
theorem dL_holds_263 : decode cL_holds 263 = .ok (.invokevirtual 103, 3) := by decide +kernel
theorem dL_holds_266 : decode cL_holds 266 = .ok (.aload_n 0, 1) := by decide +kernel
theorem dL_holds_267 : decode cL_holds 267 = .ok (.iload_n 1, 1) := by decide +kernel
theorem dL_holds_268 : decode cL_holds 268 = .ok (.iload 9, 2) := by decide +kernel
theorem dL_holds_270 : decode cL_holds 270 = .ok (.iload_n 3, 1) := by decide +kernel
theorem dL_holds_271 : decode cL_holds 271 = .ok (.iadd, 1) := by decide +kernel
theorem dL_holds_272 : decode cL_holds 272 = .ok (.iload 10, 2) := by decide +kernel
theorem dL_holds_274 : decode cL_holds 274 = .ok (.iadd, 1) := by decide +kernel
theorem dL_holds_275 : decode cL_holds 275 = .ok (.invokevirtual 103, 3) := by decide +kernel
theorem dL_holds_278 : decode cL_holds 278 = .ok (.if_icmp .ne 26, 3) := by decide +kernel
theorem dL_holds_281 : decode cL_holds 281 = .ok (.aload_n 0, 1) := by decide +kernel
theorem dL_holds_282 : decode cL_holds 282 = .ok (.iload_n 1, 1) := by decide +kernel
theorem dL_holds_283 : decode cL_holds 283 = .ok (.invokevirtual 106, 3) := by decide +kernel
theorem dL_holds_286 : decode cL_holds 286 = .ok (.iconst 2, 1) := by decide +kernel
theorem dL_holds_287 : decode cL_holds 287 = .ok (.if_icmp .lt 17, 3) := by decide +kernel
theorem dL_holds_290 : decode cL_holds 290 = .ok (.aload_n 0, 1) := by decide +kernel
theorem dL_holds_291 : decode cL_holds 291 = .ok (.iload_n 1, 1) := by decide +kernel
theorem dL_holds_292 : decode cL_holds 292 = .ok (.invokevirtual 106, 3) := by decide +kernel
theorem dL_holds_295 : decode cL_holds 295 = .ok (.bipush 16, 2) := by decide +kernel
theorem dL_holds_297 : decode cL_holds 297 = .ok (.if_icmp .gt 7, 3) := by decide +kernel
theorem dL_holds_300 : decode cL_holds 300 = .ok (.iconst 1, 1) := by decide +kernel
theorem dL_holds_301 : decode cL_holds 301 = .ok (.goto 4, 3) := by decide +kernel
theorem dL_holds_304 : decode cL_holds 304 = .ok (.iconst 0, 1) := by decide +kernel
theorem dL_holds_305 : decode cL_holds 305 = .ok (.istore 11, 2) := by decide +kernel
theorem dL_holds_307 : decode cL_holds 307 = .ok (.aload_n 0, 1) := by decide +kernel
theorem dL_holds_308 : decode cL_holds 308 = .ok (.iload_n 1, 1) := by decide +kernel
theorem dL_holds_309 : decode cL_holds 309 = .ok (.iload_n 2, 1) := by decide +kernel
theorem dL_holds_310 : decode cL_holds 310 = .ok (.invokevirtual 109, 3) := by decide +kernel
theorem dL_holds_313 : decode cL_holds 313 = .ok (.istore 12, 2) := by decide +kernel
theorem dL_holds_315 : decode cL_holds 315 = .ok (.iload 11, 2) := by decide +kernel
theorem dL_holds_317 : decode cL_holds 317 = .ok (.ifCond .eq 96, 3) := by decide +kernel
theorem dL_holds_320 : decode cL_holds 320 = .ok (.aload_n 0, 1) := by decide +kernel
theorem dL_holds_321 : decode cL_holds 321 = .ok (.iload_n 1, 1) := by decide +kernel
theorem dL_holds_322 : decode cL_holds 322 = .ok (.iload_n 2, 1) := by decide +kernel
theorem dL_holds_323 : decode cL_holds 323 = .ok (.invokevirtual 112, 3) := by decide +kernel
theorem dL_holds_326 : decode cL_holds 326 = .ok (.aload_n 0, 1) := by decide +kernel
theorem dL_holds_327 : decode cL_holds 327 = .ok (.iload_n 1, 1) := by decide +kernel
theorem dL_holds_328 : decode cL_holds 328 = .ok (.invokevirtual 62, 3) := by decide +kernel
theorem dL_holds_331 : decode cL_holds 331 = .ok (.i2l, 1) := by decide +kernel
theorem dL_holds_332 : decode cL_holds 332 = .ok (.aload_n 0, 1) := by decide +kernel
theorem dL_holds_333 : decode cL_holds 333 = .ok (.iload_n 2, 1) := by decide +kernel
theorem dL_holds_334 : decode cL_holds 334 = .ok (.invokevirtual 62, 3) := by decide +kernel
theorem dL_holds_337 : decode cL_holds 337 = .ok (.i2l, 1) := by decide +kernel
theorem dL_holds_338 : decode cL_holds 338 = .ok (.ladd, 1) := by decide +kernel
theorem dL_holds_339 : decode cL_holds 339 = .ok (.lcmp, 1) := by decide +kernel
theorem dL_holds_340 : decode cL_holds 340 = .ok (.ifCond .ne 73, 3) := by decide +kernel
theorem dL_holds_343 : decode cL_holds 343 = .ok (.aload_n 0, 1) := by decide +kernel
theorem dL_holds_344 : decode cL_holds 344 = .ok (.iload_n 1, 1) := by decide +kernel
theorem dL_holds_345 : decode cL_holds 345 = .ok (.iload_n 2, 1) := by decide +kernel
theorem dL_holds_346 : decode cL_holds 346 = .ok (.invokevirtual 115, 3) := by decide +kernel
theorem dL_holds_349 : decode cL_holds 349 = .ok (.iload 12, 2) := by decide +kernel
theorem dL_holds_351 : decode cL_holds 351 = .ok (.if_icmp .gt 62, 3) := by decide +kernel
theorem dL_holds_354 : decode cL_holds 354 = .ok (.aload_n 0, 1) := by decide +kernel
theorem dL_holds_355 : decode cL_holds 355 = .ok (.iload_n 1, 1) := by decide +kernel
theorem dL_holds_356 : decode cL_holds 356 = .ok (.iload_n 2, 1) := by decide +kernel
theorem dL_holds_357 : decode cL_holds 357 = .ok (.invokevirtual 115, 3) := by decide +kernel
theorem dL_holds_360 : decode cL_holds 360 = .ok (.ifCond .ne 7, 3) := by decide +kernel
theorem dL_holds_363 : decode cL_holds 363 = .ok (.iconst 1, 1) := by decide +kernel
theorem dL_holds_364 : decode cL_holds 364 = .ok (.goto 4, 3) := by decide +kernel
theorem dL_holds_367 : decode cL_holds 367 = .ok (.iconst 0, 1) := by decide +kernel
theorem dL_holds_368 : decode cL_holds 368 = .ok (.iload 12, 2) := by decide +kernel
theorem dL_holds_370 : decode cL_holds 370 = .ok (.ifCond .ne 7, 3) := by decide +kernel
theorem dL_holds_373 : decode cL_holds 373 = .ok (.iconst 1, 1) := by decide +kernel
theorem dL_holds_374 : decode cL_holds 374 = .ok (.goto 4, 3) := by decide +kernel
theorem dL_holds_377 : decode cL_holds 377 = .ok (.iconst 0, 1) := by decide +kernel
theorem dL_holds_378 : decode cL_holds 378 = .ok (.if_icmp .ne 35, 3) := by decide +kernel
theorem dL_holds_381 : decode cL_holds 381 = .ok (.aload_n 0, 1) := by decide +kernel
theorem dL_holds_382 : decode cL_holds 382 = .ok (.iload_n 1, 1) := by decide +kernel
theorem dL_holds_383 : decode cL_holds 383 = .ok (.iload_n 2, 1) := by decide +kernel
theorem dL_holds_384 : decode cL_holds 384 = .ok (.invokevirtual 118, 3) := by decide +kernel
theorem dL_holds_387 : decode cL_holds 387 = .ok (.aload_n 0, 1) := by decide +kernel
theorem dL_holds_388 : decode cL_holds 388 = .ok (.iload_n 2, 1) := by decide +kernel
theorem dL_holds_389 : decode cL_holds 389 = .ok (.iload_n 1, 1) := by decide +kernel
theorem dL_holds_390 : decode cL_holds 390 = .ok (.invokevirtual 118, 3) := by decide +kernel
theorem dL_holds_393 : decode cL_holds 393 = .ok (.ineg, 1) := by decide +kernel
theorem dL_holds_394 : decode cL_holds 394 = .ok (.if_icmp .ne 19, 3) := by decide +kernel
theorem dL_holds_397 : decode cL_holds 397 = .ok (.aload_n 0, 1) := by decide +kernel
theorem dL_holds_398 : decode cL_holds 398 = .ok (.aload_n 0, 1) := by decide +kernel
theorem dL_holds_399 : decode cL_holds 399 = .ok (.invokevirtual 121, 3) := by decide +kernel
theorem dL_holds_402 : decode cL_holds 402 = .ok (.iload_n 1, 1) := by decide +kernel
theorem dL_holds_403 : decode cL_holds 403 = .ok (.invokevirtual 118, 3) := by decide +kernel
theorem dL_holds_406 : decode cL_holds 406 = .ok (.ifCond .lt 7, 3) := by decide +kernel
theorem dL_holds_409 : decode cL_holds 409 = .ok (.iconst 1, 1) := by decide +kernel
theorem dL_holds_410 : decode cL_holds 410 = .ok (.goto 4, 3) := by decide +kernel
theorem dL_holds_413 : decode cL_holds 413 = .ok (.iconst 0, 1) := by decide +kernel
theorem dL_holds_414 : decode cL_holds 414 = .ok (.istore 11, 2) := by decide +kernel
theorem dL_holds_416 : decode cL_holds 416 = .ok (.iload 11, 2) := by decide +kernel
theorem dL_holds_418 : decode cL_holds 418 = .ok (.ifCond .eq 65, 3) := by decide +kernel
theorem dL_holds_421 : decode cL_holds 421 = .ok (.aload_n 0, 1) := by decide +kernel
theorem dL_holds_422 : decode cL_holds 422 = .ok (.iload_n 1, 1) := by decide +kernel
theorem dL_holds_423 : decode cL_holds 423 = .ok (.invokevirtual 124, 3) := by decide +kernel
theorem dL_holds_426 : decode cL_holds 426 = .ok (.dconst 0, 1) := by decide +kernel
theorem dL_holds_427 : decode cL_holds 427 = .ok (.dcmp .l, 1) := by decide +kernel
theorem dL_holds_428 : decode cL_holds 428 = .ok (.ifCond .lt 55, 3) := by decide +kernel
theorem dL_holds_431 : decode cL_holds 431 = .ok (.aload_n 0, 1) := by decide +kernel
theorem dL_holds_432 : decode cL_holds 432 = .ok (.iload_n 1, 1) := by decide +kernel
theorem dL_holds_433 : decode cL_holds 433 = .ok (.invokevirtual 124, 3) := by decide +kernel
theorem dL_holds_436 : decode cL_holds 436 = .ok (.dconst 1, 1) := by decide +kernel
theorem dL_holds_437 : decode cL_holds 437 = .ok (.dcmp .g, 1) := by decide +kernel
theorem dL_holds_438 : decode cL_holds 438 = .ok (.ifCond .gt 45, 3) := by decide +kernel
theorem dL_holds_441 : decode cL_holds 441 = .ok (.aload_n 0, 1) := by decide +kernel
theorem dL_holds_442 : decode cL_holds 442 = .ok (.iload_n 1, 1) := by decide +kernel
theorem dL_holds_443 : decode cL_holds 443 = .ok (.invokevirtual 18, 3) := by decide +kernel
theorem dL_holds_446 : decode cL_holds 446 = .ok (.ifCond .lt 37, 3) := by decide +kernel
theorem dL_holds_449 : decode cL_holds 449 = .ok (.aload_n 0, 1) := by decide +kernel
theorem dL_holds_450 : decode cL_holds 450 = .ok (.iload_n 1, 1) := by decide +kernel
theorem dL_holds_451 : decode cL_holds 451 = .ok (.invokevirtual 18, 3) := by decide +kernel
theorem dL_holds_454 : decode cL_holds 454 = .ok (.ldc 128, 2) := by decide +kernel
theorem dL_holds_456 : decode cL_holds 456 = .ok (.if_icmp .gt 27, 3) := by decide +kernel
theorem dL_holds_459 : decode cL_holds 459 = .ok (.aload_n 0, 1) := by decide +kernel
theorem dL_holds_460 : decode cL_holds 460 = .ok (.iload_n 1, 1) := by decide +kernel
theorem dL_holds_461 : decode cL_holds 461 = .ok (.invokevirtual 22, 3) := by decide +kernel
theorem dL_holds_464 : decode cL_holds 464 = .ok (.iconst 1, 1) := by decide +kernel
theorem dL_holds_465 : decode cL_holds 465 = .ok (.if_icmp .lt 18, 3) := by decide +kernel
theorem dL_holds_468 : decode cL_holds 468 = .ok (.aload_n 0, 1) := by decide +kernel
theorem dL_holds_469 : decode cL_holds 469 = .ok (.iload_n 1, 1) := by decide +kernel
theorem dL_holds_470 : decode cL_holds 470 = .ok (.invokevirtual 22, 3) := by decide +kernel
theorem dL_holds_473 : decode cL_holds 473 = .ok (.sipush 999, 3) := by decide +kernel
theorem dL_holds_476 : decode cL_holds 476 = .ok (.if_icmp .gt 7, 3) := by decide +kernel
theorem dL_holds_479 : decode cL_holds 479 = .ok (.iconst 1, 1) := by decide +kernel
theorem dL_holds_480 : decode cL_holds 480 = .ok (.goto 4, 3) := by decide +kernel
theorem dL_holds_483 : decode cL_holds 483 = .ok (.iconst 0, 1) := by decide +kernel
theorem dL_holds_484 : decode cL_holds 484 = .ok (.ireturn, 1) := by decide +kernel
